/-! constructors that make arrays one by one; the reference's -/
def Ini (A0 : qA) (S0 : qS) (kc a : Nat) (kd : Nat → Nat × Nat) (rf : Nat → Nat) (j w : Nat) (A : qA) (S : qS) : Prop := AOk A ∧ Ax A0 A ∧ A.1 a = some (kc, 0) ∧ A.2.1 = a + 1 + j ∧ A.2.2.1 = A0.2.2.1 + j ∧ A.2.2.2 = A0.2.2.2 + w ∧ (∀ i, i < j → A.1 (a + 1 + i) = some (kd i) ∧ gR S a (rf i) = some (a + 1 + i) ∧ ∀ k, gI S (a + 1 + i) k = 0 ∧ gL S (a + 1 + i) k = 0) ∧ (∀ k, gI S a k = gI S0 a k ∧ gL S a k = gL S0 a k) ∧ (∀ k, (∀ i, i < j → ¬ rf i = k) → gR S a k = gR S0 a k) ∧ Fr S0 S a (a + 1 + j)
theorem Ini.zero {A0 : qA} {S0 : qS} {kc a : Nat} {kd : Nat → Nat × Nat} {rf : Nat → Nat} (hA : AOk A0) (hk : A0.1 a = some (kc, 0)) (hn : A0.2.1 = a + 1) : Ini A0 S0 kc a kd rf 0 0 A0 S0 := ⟨hA, Ax.rf, hk, hn, rfl, rfl, fun i hi => absurd hi (Nat.not_lt_zero _), fun k => ⟨rfl, rfl⟩, fun k _ => rfl, Fr.rf⟩
theorem Ini.step {A0 : qA} {S0 : qS} {kc a : Nat} {kd : Nat → Nat × Nat} {rf : Nat → Nat} {j w n u f : Nat} {A A' : qA} {S S1 S2 : qS} (h : Ini A0 S0 kc a kd rf j w A S) (eA : A' = newA A u n n) (eS : S1 = uZ S A.2.1) (eR : S2 = uR S1 a f (some A.2.1)) (hk : kd j = (u, n)) (hf : rf j = f) (hd : ∀ i, i < j → ¬ rf i = f) : Ini A0 S0 kc a kd rf (j + 1) (w + n) A' S2 := by
  obtain ⟨h1, h2, h3, h4, h5, h6, h7, h8, h9, h10⟩ := h
  subst eA eS eR
  refine ⟨h1.new, h2.trans h1.ax, h1.ax _ _ h3, ?_, ?_, ?_, fun i hi => ?_, fun k => ?_, fun k hk' => ?_, ?_⟩
  · show A.2.1 + 1 = _; omega
  · show A.2.2.1 + 1 = _; omega
  · show A.2.2.2 + n = _; omega
  · by_cases e : i = j
    · subst e
      refine ⟨?_, ?_, fun k => ⟨?_, ?_⟩⟩
      · rw [hk, ← h4]; exact newA_at
      · rw [hf, gR_uR, if_pos ⟨rfl, rfl⟩, h4]
      · rw [gI_uR, gI_uZ, if_pos h4.symm]
      · rw [gL_uR, gL_uZ, if_pos h4.symm]
    · obtain ⟨a1, a2, a3⟩ := h7 i (by omega)
      refine ⟨h1.ax _ _ a1, ?_, fun k => ⟨?_, ?_⟩⟩
      · rw [gR_uR, if_neg (fun c => hd i (by omega) c.2), gR_uZ, if_neg (by omega)]; exact a2
      · rw [gI_uR, gI_uZ, if_neg (by omega)]; exact (a3 k).1
      · rw [gL_uR, gL_uZ, if_neg (by omega)]; exact (a3 k).2
  · rw [gI_uR, gI_uZ, if_neg (by omega), gL_uR, gL_uZ, if_neg (by omega)]; exact h8 k
  · rw [gR_uR, if_neg (fun c => hk' j (by omega) (by rw [hf, c.2])), gR_uZ, if_neg (by omega)]
    exact h9 k fun i hi => hk' i (by omega)
  · exact (((h10.wide (Nat.le_refl _) (by omega)).uZ (by omega) (by omega)).uR (by omega) (by omega))
def kdM (i : Nat) : Nat × Nat := ([(12, 900), (13, 145), (13, 217), (13, 2320), (13, 435), (13, 36), (13, 36), (13, 3), (13, 120), (13, 120), (13, 120), (13, 120), (15, 120), (14, 120), (13, 36), (13, 36), (13, 640), (13, 640), (13, 640), (13, 640), (13, 640), (14, 640), (14, 640), (14, 640), (14, 640), (13, 4)] : List (Nat × Nat)).getD i (0, 0)
def rfM (i : Nat) : Nat := ([5, 15, 16, 17, 18, 21, 22, 23, 24, 25, 26, 27, 28, 29, 30, 31, 32, 33, 34, 35, 36, 37, 38, 39, 40, 48] : List Nat).getD i 0
/-- nothing fed, nothing told -/
def V0 : VSt := (fun _ => 0, 0, none, [], [], [], 0, 0, -1)
section
variable {d : Nat} {A : qA} {S : qS} {m : Nat}
set_option maxRecDepth 20000 in
theorem cm_init {f : qA → qS → Prop} (hA : AOk A) (hq : A.1 m = some (11, 0)) (hn : A.2.1 = m + 1) (hz : ∀ k, gI S m k = 0) (hzr : ∀ k, gR S m k = none) (hf : ∀ A' S', AOk A' → Ax A A' → A'.2.1 = m + 27 → A'.2.2.1 = A.2.2.1 + 26 → A'.2.2.2 = A.2.2.2 + 10648 → MAt A' S' m V0 → Fr S S' m (m + 27) → f A' S') : Run (d + 1) 136 [.ref m] A S (kVa (A.2.2.1 + 26) (A.2.2.2 + 10648) f) := by
  refine Run.i (C := mX11_init) rfl rfl rfl fun J hJ => ?_
  have caps : ∀ a b, a ≤ 26 → b ≤ 10648 → A.2.2.1 + a ≤ A.2.2.1 + 26 ∧ A.2.2.2 + b ≤ A.2.2.2 + 10648 := fun a b h1 h2 => by omega
  refine sX11_init_0 hJ ⟨hq, fun S0 e0 => ?_⟩
  have I := Ini.zero (S0 := S0) (kd := kdM) (rf := rfM) hA hq hn
  refine ⟨by decide, by decide, by rw [I.2.2.2.2.1]; exact (caps 1 0 (by omega) (by omega)).1, by rw [I.2.2.2.2.2.1]; exact (caps 0 900 (by omega) (by omega)).2, fun A1 T1 eA eS => ?_⟩
  refine ⟨by rw [eA]; exact I.1.ax _ _ I.2.2.1, fun T2 eR => ?_⟩
  have I := I.step eA eS eR rfl rfl (by decide)
  refine ⟨by decide, by decide, by rw [I.2.2.2.2.1]; exact (caps 2 0 (by omega) (by omega)).1, by rw [I.2.2.2.2.2.1]; exact (caps 0 1045 (by omega) (by omega)).2, fun A1 T1 eA eS => ?_⟩
  refine ⟨by rw [eA]; exact I.1.ax _ _ I.2.2.1, fun T2 eR => ?_⟩
  have I := I.step eA eS eR rfl rfl (by decide)
  refine ⟨by decide, by decide, by rw [I.2.2.2.2.1]; exact (caps 3 0 (by omega) (by omega)).1, by rw [I.2.2.2.2.2.1]; exact (caps 0 1262 (by omega) (by omega)).2, fun A1 T1 eA eS => ?_⟩
  refine ⟨by rw [eA]; exact I.1.ax _ _ I.2.2.1, fun T2 eR => ?_⟩
  have I := I.step eA eS eR rfl rfl (by decide)
  refine ⟨by decide, by decide, by rw [I.2.2.2.2.1]; exact (caps 4 0 (by omega) (by omega)).1, by rw [I.2.2.2.2.2.1]; exact (caps 0 3582 (by omega) (by omega)).2, fun A1 T1 eA eS => ?_⟩
  refine ⟨by rw [eA]; exact I.1.ax _ _ I.2.2.1, fun T2 eR => ?_⟩
  have I := I.step eA eS eR rfl rfl (by decide)
  refine ⟨by decide, by decide, by rw [I.2.2.2.2.1]; exact (caps 5 0 (by omega) (by omega)).1, by rw [I.2.2.2.2.2.1]; exact (caps 0 4017 (by omega) (by omega)).2, fun A1 T1 eA eS => ?_⟩
  refine ⟨by rw [eA]; exact I.1.ax _ _ I.2.2.1, fun T2 eR => ?_⟩
  have I := I.step eA eS eR rfl rfl (by decide)
  refine ⟨by decide, by decide, by rw [I.2.2.2.2.1]; exact (caps 6 0 (by omega) (by omega)).1, by rw [I.2.2.2.2.2.1]; exact (caps 0 4053 (by omega) (by omega)).2, fun A1 T1 eA eS => ?_⟩
  refine ⟨by rw [eA]; exact I.1.ax _ _ I.2.2.1, fun T2 eR => ?_⟩
  have I := I.step eA eS eR rfl rfl (by decide)
  refine ⟨by decide, by decide, by rw [I.2.2.2.2.1]; exact (caps 7 0 (by omega) (by omega)).1, by rw [I.2.2.2.2.2.1]; exact (caps 0 4089 (by omega) (by omega)).2, fun A1 T1 eA eS => ?_⟩
  refine ⟨by rw [eA]; exact I.1.ax _ _ I.2.2.1, fun T2 eR => ?_⟩
  have I := I.step eA eS eR rfl rfl (by decide)
  refine ⟨by decide, by decide, by rw [I.2.2.2.2.1]; exact (caps 8 0 (by omega) (by omega)).1, by rw [I.2.2.2.2.2.1]; exact (caps 0 4092 (by omega) (by omega)).2, fun A1 T1 eA eS => ?_⟩
  refine ⟨by rw [eA]; exact I.1.ax _ _ I.2.2.1, fun T2 eR => ?_⟩
  have I := I.step eA eS eR rfl rfl (by decide)
  refine ⟨by decide, by decide, by rw [I.2.2.2.2.1]; exact (caps 9 0 (by omega) (by omega)).1, by rw [I.2.2.2.2.2.1]; exact (caps 0 4212 (by omega) (by omega)).2, fun A1 T1 eA eS => ?_⟩
  refine ⟨by rw [eA]; exact I.1.ax _ _ I.2.2.1, fun T2 eR => ?_⟩
  have I := I.step eA eS eR rfl rfl (by decide)
  refine ⟨by decide, by decide, by rw [I.2.2.2.2.1]; exact (caps 10 0 (by omega) (by omega)).1, by rw [I.2.2.2.2.2.1]; exact (caps 0 4332 (by omega) (by omega)).2, fun A1 T1 eA eS => ?_⟩
  refine ⟨by rw [eA]; exact I.1.ax _ _ I.2.2.1, fun T2 eR => ?_⟩
  have I := I.step eA eS eR rfl rfl (by decide)
  refine ⟨by decide, by decide, by rw [I.2.2.2.2.1]; exact (caps 11 0 (by omega) (by omega)).1, by rw [I.2.2.2.2.2.1]; exact (caps 0 4452 (by omega) (by omega)).2, fun A1 T1 eA eS => ?_⟩
  refine ⟨by rw [eA]; exact I.1.ax _ _ I.2.2.1, fun T2 eR => ?_⟩
  have I := I.step eA eS eR rfl rfl (by decide)
  refine ⟨by decide, by decide, by rw [I.2.2.2.2.1]; exact (caps 12 0 (by omega) (by omega)).1, by rw [I.2.2.2.2.2.1]; exact (caps 0 4572 (by omega) (by omega)).2, fun A1 T1 eA eS => ?_⟩
  refine ⟨by rw [eA]; exact I.1.ax _ _ I.2.2.1, fun T2 eR => ?_⟩
  have I := I.step eA eS eR rfl rfl (by decide)
  refine ⟨by decide, by decide, by rw [I.2.2.2.2.1]; exact (caps 13 0 (by omega) (by omega)).1, by rw [I.2.2.2.2.2.1]; exact (caps 0 4692 (by omega) (by omega)).2, fun A1 T1 eA eS => ?_⟩
  refine ⟨by rw [eA]; exact I.1.ax _ _ I.2.2.1, fun T2 eR => ?_⟩
  have I := I.step eA eS eR rfl rfl (by decide)
  refine ⟨by decide, by decide, by rw [I.2.2.2.2.1]; exact (caps 14 0 (by omega) (by omega)).1, by rw [I.2.2.2.2.2.1]; exact (caps 0 4812 (by omega) (by omega)).2, fun A1 T1 eA eS => ?_⟩
  refine ⟨by rw [eA]; exact I.1.ax _ _ I.2.2.1, fun T2 eR => ?_⟩
  have I := I.step eA eS eR rfl rfl (by decide)
  refine ⟨by decide, by decide, by rw [I.2.2.2.2.1]; exact (caps 15 0 (by omega) (by omega)).1, by rw [I.2.2.2.2.2.1]; exact (caps 0 4848 (by omega) (by omega)).2, fun A1 T1 eA eS => ?_⟩
  refine ⟨by rw [eA]; exact I.1.ax _ _ I.2.2.1, fun T2 eR => ?_⟩
  have I := I.step eA eS eR rfl rfl (by decide)
  refine ⟨by decide, by decide, by rw [I.2.2.2.2.1]; exact (caps 16 0 (by omega) (by omega)).1, by rw [I.2.2.2.2.2.1]; exact (caps 0 4884 (by omega) (by omega)).2, fun A1 T1 eA eS => ?_⟩
  refine ⟨by rw [eA]; exact I.1.ax _ _ I.2.2.1, fun T2 eR => ?_⟩
  have I := I.step eA eS eR rfl rfl (by decide)
  refine ⟨by decide, by decide, by rw [I.2.2.2.2.1]; exact (caps 17 0 (by omega) (by omega)).1, by rw [I.2.2.2.2.2.1]; exact (caps 0 5524 (by omega) (by omega)).2, fun A1 T1 eA eS => ?_⟩
  refine ⟨by rw [eA]; exact I.1.ax _ _ I.2.2.1, fun T2 eR => ?_⟩
  have I := I.step eA eS eR rfl rfl (by decide)
  refine ⟨by decide, by decide, by rw [I.2.2.2.2.1]; exact (caps 18 0 (by omega) (by omega)).1, by rw [I.2.2.2.2.2.1]; exact (caps 0 6164 (by omega) (by omega)).2, fun A1 T1 eA eS => ?_⟩
  refine ⟨by rw [eA]; exact I.1.ax _ _ I.2.2.1, fun T2 eR => ?_⟩
  have I := I.step eA eS eR rfl rfl (by decide)
  refine ⟨by decide, by decide, by rw [I.2.2.2.2.1]; exact (caps 19 0 (by omega) (by omega)).1, by rw [I.2.2.2.2.2.1]; exact (caps 0 6804 (by omega) (by omega)).2, fun A1 T1 eA eS => ?_⟩
  refine ⟨by rw [eA]; exact I.1.ax _ _ I.2.2.1, fun T2 eR => ?_⟩
  have I := I.step eA eS eR rfl rfl (by decide)
  refine ⟨by decide, by decide, by rw [I.2.2.2.2.1]; exact (caps 20 0 (by omega) (by omega)).1, by rw [I.2.2.2.2.2.1]; exact (caps 0 7444 (by omega) (by omega)).2, fun A1 T1 eA eS => ?_⟩
  refine ⟨by rw [eA]; exact I.1.ax _ _ I.2.2.1, fun T2 eR => ?_⟩
  have I := I.step eA eS eR rfl rfl (by decide)
  refine ⟨by decide, by decide, by rw [I.2.2.2.2.1]; exact (caps 21 0 (by omega) (by omega)).1, by rw [I.2.2.2.2.2.1]; exact (caps 0 8084 (by omega) (by omega)).2, fun A1 T1 eA eS => ?_⟩
  refine ⟨by rw [eA]; exact I.1.ax _ _ I.2.2.1, fun T2 eR => ?_⟩
  have I := I.step eA eS eR rfl rfl (by decide)
  refine ⟨by decide, by decide, by rw [I.2.2.2.2.1]; exact (caps 22 0 (by omega) (by omega)).1, by rw [I.2.2.2.2.2.1]; exact (caps 0 8724 (by omega) (by omega)).2, fun A1 T1 eA eS => ?_⟩
  refine ⟨by rw [eA]; exact I.1.ax _ _ I.2.2.1, fun T2 eR => ?_⟩
  have I := I.step eA eS eR rfl rfl (by decide)
  refine ⟨by decide, by decide, by rw [I.2.2.2.2.1]; exact (caps 23 0 (by omega) (by omega)).1, by rw [I.2.2.2.2.2.1]; exact (caps 0 9364 (by omega) (by omega)).2, fun A1 T1 eA eS => ?_⟩
  refine ⟨by rw [eA]; exact I.1.ax _ _ I.2.2.1, fun T2 eR => ?_⟩
  have I := I.step eA eS eR rfl rfl (by decide)
  refine ⟨by decide, by decide, by rw [I.2.2.2.2.1]; exact (caps 24 0 (by omega) (by omega)).1, by rw [I.2.2.2.2.2.1]; exact (caps 0 10004 (by omega) (by omega)).2, fun A1 T1 eA eS => ?_⟩
  refine ⟨by rw [eA]; exact I.1.ax _ _ I.2.2.1, fun T2 eR => ?_⟩
  have I := I.step eA eS eR rfl rfl (by decide)
  refine ⟨by decide, by decide, by rw [I.2.2.2.2.1]; exact (caps 25 0 (by omega) (by omega)).1, by rw [I.2.2.2.2.2.1]; exact (caps 0 10644 (by omega) (by omega)).2, fun A1 T1 eA eS => ?_⟩
  refine ⟨by rw [eA]; exact I.1.ax _ _ I.2.2.1, fun T2 eR => ?_⟩
  have I := I.step eA eS eR rfl rfl (by decide)
  refine ⟨by decide, by decide, by rw [I.2.2.2.2.1]; exact (caps 26 0 (by omega) (by omega)).1, by rw [I.2.2.2.2.2.1]; exact (caps 0 10648 (by omega) (by omega)).2, fun A1 T1 eA eS => ?_⟩
  refine ⟨by rw [eA]; exact I.1.ax _ _ I.2.2.1, fun T2 eR => ?_⟩
  have I := I.step eA eS eR rfl rfl (by decide)
  obtain ⟨i1, i2, i3, i4, i5, i6, i7, i8, i9, i10⟩ := I
  have kk : ∀ i, i < 26 → A1.1 (m + 1 + i) = some (kdM i) := fun i hi => (i7 i hi).1
  have rr : ∀ i, i < 26 → gR T2 m (rfM i) = some (m + 1 + i) := fun i hi => (i7 i hi).2.1
  have zz : ∀ i, i < 26 → ∀ k, gI T2 (m + 1 + i) k = 0 := fun i hi k => ((i7 i hi).2.2 k).1
  have g0 : ∀ k, gI T2 m k = if k = 2 then -1 else 0 := by
    intro k
    rw [(i8 k).1, e0, gI_uI]
    by_cases c : k = 2
    · rw [if_pos ⟨rfl, c⟩, if_pos c]
    · rw [if_neg (fun z => c z.2), if_neg c]; exact hz k
  have fr0 : Fr S T2 m (m + 27) := by
    rw [e0] at i10
    exact (Fr.rf.uI (by omega) (by omega)).trans i10
  refine ⟨rfl, rfl, rfl, hf _ _ i1 i2 i4 rfl rfl ⟨⟨⟨i3, kk 0 (by omega), kk 1 (by omega), kk 2 (by omega), kk 3 (by omega), kk 4 (by omega), kk 5 (by omega), kk 6 (by omega), kk 7 (by omega), kk 8 (by omega), kk 9 (by omega), kk 10 (by omega), kk 11 (by omega), kk 12 (by omega), kk 13 (by omega), kk 14 (by omega), kk 15 (by omega), kk 16 (by omega), kk 17 (by omega), kk 18 (by omega), kk 19 (by omega), kk 20 (by omega), kk 21 (by omega), kk 22 (by omega), kk 23 (by omega), kk 24 (by omega), kk 25 (by omega)⟩, ⟨rr 0 (by omega), rr 1 (by omega), rr 2 (by omega), rr 3 (by omega), rr 4 (by omega), rr 5 (by omega), rr 6 (by omega), rr 7 (by omega), rr 8 (by omega), rr 9 (by omega), rr 10 (by omega), rr 11 (by omega), rr 12 (by omega), rr 13 (by omega), rr 14 (by omega), rr 15 (by omega), rr 16 (by omega), rr 17 (by omega), rr 18 (by omega), rr 19 (by omega), rr 20 (by omega), rr 21 (by omega), rr 22 (by omega), rr 23 (by omega), rr 24 (by omega), rr 25 (by omega)⟩⟩, ⟨fun _ => [], fun q hq => ⟨zz 7 (by omega) q, Nat.zero_le _, fun i hi => absurd hi (Nat.not_lt_zero _)⟩⟩, ⟨fun k hk => zz 0 (by omega) k, g0 6, ⟨zz 1 (by omega) 0, fun i hi => absurd hi (Nat.not_lt_zero _)⟩, g0 19, fun i hi => absurd hi (Nat.not_lt_zero _), g0 20, fun i hi => absurd hi (Nat.not_lt_zero _), g0 1, g0 2, g0 12⟩, ?_⟩ fr0⟩
  show gR T2 m 3 = none
  rw [i9 3 (by decide), e0]
  exact hzr 3
end
