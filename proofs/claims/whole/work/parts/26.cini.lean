/-! the class's constructors: words, rows of trades, what is told, lots, pieces -/
/-- a new cell, not yet filled -/
def Nw (A : qA) (S : qS) (a kc : Nat) : Prop := AOk A ∧ A.1 a = some (kc, 0) ∧ A.2.1 = a + 1 ∧ ∀ k, gI S a k = 0 ∧ gL S a k = 0 ∧ gR S a k = none
/-- c cells more, w slots, all behind a -/
def Cn (A : qA) (S : qS) (a W c w : Nat) (A' : qA) (S' : qS) : Prop := AOk A' ∧ Ax A A' ∧ A'.2.1 = a + W ∧ A'.2.2.1 = A.2.2.1 + c ∧ A'.2.2.2 = A.2.2.2 + w ∧ Fr S S' a (a + W)
theorem Nw.new {A A1 : qA} {S S1 : qS} {a kc w : Nat} (hA : AOk A) (ho : A.2.1 = a) (eA : A1 = newA A kc 0 w) (eS : S1 = uZ S A.2.1) : Nw A1 S1 a kc := by
  subst eA eS ho
  exact ⟨hA.new, newA_at, rfl, fun k => ⟨by rw [gI_uZ, if_pos rfl], by rw [gL_uZ, if_pos rfl], by rw [gR_uZ, if_pos rfl]⟩⟩
/-- arrays one by one from o on, each told to a field of a -/
def Iq (A0 : qA) (S0 : qS) (a o : Nat) (kd : Nat → Nat × Nat) (rf : Nat → Nat) (j w : Nat) (A : qA) (S : qS) : Prop := AOk A ∧ Ax A0 A ∧ A.2.1 = o + j ∧ A.2.2.1 = A0.2.2.1 + j ∧ A.2.2.2 = A0.2.2.2 + w ∧ (∀ i, i < j → A.1 (o + i) = some (kd i) ∧ gR S a (rf i) = some (o + i) ∧ ∀ k, gI S (o + i) k = 0 ∧ gL S (o + i) k = 0 ∧ gR S (o + i) k = none) ∧ (∀ b k, b < o → gI S b k = gI S0 b k ∧ gL S b k = gL S0 b k) ∧ (∀ b k, b < o → (b = a → ∀ i, i < j → ¬ rf i = k) → gR S b k = gR S0 b k) ∧ ∀ b k, o + j ≤ b → gI S b k = gI S0 b k ∧ gL S b k = gL S0 b k ∧ gR S b k = gR S0 b k
theorem Iq.zero {A0 : qA} {S0 : qS} {a o : Nat} {kd : Nat → Nat × Nat} {rf : Nat → Nat} (hA : AOk A0) (hn : A0.2.1 = o) : Iq A0 S0 a o kd rf 0 0 A0 S0 := ⟨hA, Ax.rf, hn, rfl, rfl, fun i hi => absurd hi (Nat.not_lt_zero _), fun _ _ _ => ⟨rfl, rfl⟩, fun _ _ _ _ => rfl, fun _ _ _ => ⟨rfl, rfl, rfl⟩⟩
theorem Iq.step {A0 : qA} {S0 : qS} {a o : Nat} {kd : Nat → Nat × Nat} {rf : Nat → Nat} {j w n u f : Nat} {A A' : qA} {S S1 S2 : qS} (h : Iq A0 S0 a o kd rf j w A S) (ha : a < o) (eA : A' = newA A u n n) (eS : S1 = uZ S A.2.1) (eR : S2 = uR S1 a f (some A.2.1)) (hk : kd j = (u, n)) (hf : rf j = f) (hd : ∀ i, i < j → ¬ rf i = f) : Iq A0 S0 a o kd rf (j + 1) (w + n) A' S2 := by
  obtain ⟨h1, h2, h4, h5, h6, h7, h8, h9, h10⟩ := h
  subst eA eS eR
  refine ⟨h1.new, h2.trans h1.ax, ?_, ?_, ?_, fun i hi => ?_, fun b k hb => ?_, fun b k hb hk' => ?_, fun b k hb => ?_⟩
  · show A.2.1 + 1 = _; omega
  · show A.2.2.1 + 1 = _; omega
  · show A.2.2.2 + n = _; omega
  · by_cases e : i = j
    · subst e
      refine ⟨?_, ?_, fun k => ⟨?_, ?_, ?_⟩⟩
      · rw [hk, ← h4]; exact newA_at
      · rw [hf, gR_uR, if_pos ⟨rfl, rfl⟩, h4]
      · rw [gI_uR, gI_uZ, if_pos h4.symm]
      · rw [gL_uR, gL_uZ, if_pos h4.symm]
      · rw [gR_uR, if_neg (by omega), gR_uZ, if_pos h4.symm]
    · obtain ⟨a1, a2, a3⟩ := h7 i (by omega)
      refine ⟨h1.ax _ _ a1, ?_, fun k => ⟨?_, ?_, ?_⟩⟩
      · rw [gR_uR, if_neg (fun c => hd i (by omega) c.2), gR_uZ, if_neg (by omega)]; exact a2
      · rw [gI_uR, gI_uZ, if_neg (by omega)]; exact (a3 k).1
      · rw [gL_uR, gL_uZ, if_neg (by omega)]; exact (a3 k).2.1
      · rw [gR_uR, if_neg (by omega), gR_uZ, if_neg (by omega)]; exact (a3 k).2.2
  · rw [gI_uR, gI_uZ, if_neg (by omega), gL_uR, gL_uZ, if_neg (by omega)]; exact h8 b k hb
  · rw [gR_uR, if_neg (fun c => hk' c.1 j (by omega) (by rw [hf, c.2])), gR_uZ, if_neg (by omega)]
    exact h9 b k hb fun c i hi => hk' c i (by omega)
  · rw [gI_uR, gI_uZ, if_neg (by omega), gL_uR, gL_uZ, if_neg (by omega), gR_uR, if_neg (by omega), gR_uZ, if_neg (by omega)]
    exact h10 b k (by omega)
theorem Iq.fr {A0 A : qA} {S0 S : qS} {a o : Nat} {kd : Nat → Nat × Nat} {rf : Nat → Nat} {j w : Nat} (h : Iq A0 S0 a o kd rf j w A S) (ha : a < o) : Fr S0 S a (o + j) := by
  obtain ⟨h1, h2, h4, h5, h6, h7, h8, h9, h10⟩ := h
  intro b hb k
  by_cases c : b < a
  · exact ⟨(h8 b k (by omega)).1, (h8 b k (by omega)).2, h9 b k (by omega) (fun e => by omega)⟩
  · exact h10 b k (by omega)
theorem TrAt.ax {A A' : qA} {S : qS} {a r : Nat} {T : List Row} (h : TrAt A S a r T) (e : Ax A A') : TrAt A' S a r T := by
  obtain ⟨⟨a0, a1, a2, a3, a4, a5, a6⟩, h2⟩ := h
  exact ⟨⟨e _ _ a0, e _ _ a1, e _ _ a2, e _ _ a3, e _ _ a4, e _ _ a5, e _ _ a6⟩, h2⟩
theorem LoAt.ax {A A' : qA} {S : qS} {a : Nat} {L : List Lot} (h : LoAt A S a L) (e : Ax A A') : LoAt A' S a L := by
  obtain ⟨⟨a0, a1, a2⟩, h2⟩ := h
  exact ⟨⟨e _ _ a0, e _ _ a1, fun j hj => e _ _ (a2 j hj)⟩, h2⟩
theorem PiAt.ax {A A' : qA} {S : qS} {a : Nat} {G : List CPie} (h : PiAt A S a G) (e : Ax A A') : PiAt A' S a G := by
  obtain ⟨⟨a0, a1, a2, a3, a4, a5, a6, a7, a8, a9, a10⟩, h2⟩ := h
  exact ⟨⟨e _ _ a0, e _ _ a1, e _ _ a2, e _ _ a3, e _ _ a4, e _ _ a5, e _ _ a6, e _ _ a7, e _ _ a8, e _ _ a9, e _ _ a10⟩, h2⟩
theorem BkAt.ax {A A' : qA} {S : qS} {B : Nat} {H : Nat → List Lot} {G : List CPie} {O : List Nat} {z : Int64} {E : BkE} (h : BkAt A S B H G O z E) (e : Ax A A') : BkAt A' S B H G O z E := by
  obtain ⟨⟨a0, a1, a2, a3, a4, a5, a6⟩, h2, h3, h4, h5⟩ := h
  exact ⟨⟨e _ _ a0, e _ _ a1, e _ _ a2, e _ _ a3, e _ _ a4, e _ _ a5, e _ _ a6⟩, h2, h3.ax e, fun p hp => (h4 p hp).ax e, h5⟩
theorem TdAt.ax {A A' : qA} {S : qS} {a : Nat} {td : Tld} (h : TdAt A S a td) (e : Ax A A') : TdAt A' S a td := by
  obtain ⟨⟨a0, a1, a2, a3, a4⟩, h2, h3, h4⟩ := h
  exact ⟨⟨e _ _ a0, e _ _ a1, e _ _ a2, e _ _ a3, e _ _ a4⟩, h2, h3.ax e, h4⟩
section
variable {d : Nat} {A : qA} {S : qS} {a : Nat}
set_option maxRecDepth 20000 in
theorem ct_trInit {r : Nat} {f : qA → qS → Prop} (hN : Nw A S a 8) (hr : r ≤ 24) (hf : ∀ A' S', Cn A S a 7 6 144 A' S' → TrAt A' S' a r [] → f A' S') : Run (d + 1) 58 [.ref a, .int (nI r)] A S (kVa (A.2.2.1 + 6) (A.2.2.2 + 144) f) := by
  refine Run.i (C := mX8_init) rfl rfl rfl fun J hJ => ?_
  obtain ⟨hA, hq, hn, hz⟩ := hN
  have caps : ∀ u b, u ≤ 6 → b ≤ 144 → A.2.2.1 + u ≤ A.2.2.1 + 6 ∧ A.2.2.2 + b ≤ A.2.2.2 + 144 := fun u b h1 h2 => by omega
  have le5 : nI r ≤ 100000 := (nIle (b := 100000) (by omega) (by omega)).2 (by omega)
  have nn : ¬ nI r < 0 := nI_pos (by omega)
  refine sX8_init_0 hJ ⟨fun _ => ⟨hq, fun S0 e0 => ?_⟩, fun c => absurd (Int32.not_lt.mp nn) c⟩
  have g0 : gI S0 a 0 = nI r := by rw [e0, gI_uI, if_pos ⟨rfl, rfl⟩]
  have I := Iq.zero (S0 := S0) (a := a) (kd := fun _ => (13, r)) (rf := fun i => i + 1) hA hn
  refine ⟨I.2.1 _ _ hq, ?_⟩
  rw [(I.2.2.2.2.2.2.1 a 0 (by omega)).1, g0, cl_n (by omega)]
  refine ⟨nn, le5, by rw [I.2.2.2.1]; exact (caps 1 0 (by omega) (by omega)).1, by rw [I.2.2.2.2.1]; exact Nat.le_trans (m := A.2.2.2 + r * 1) (by omega) (caps 0 (r * 1) (by omega) (by omega)).2, fun A1 T1 eA eS => ⟨by rw [eA]; exact (I.2.1.trans I.1.ax) _ _ hq, fun T2 eR => ?_⟩⟩
  have I := I.step (by omega) eA eS eR rfl rfl (by intro i hi; omega)
  refine ⟨I.2.1 _ _ hq, ?_⟩
  rw [(I.2.2.2.2.2.2.1 a 0 (by omega)).1, g0, cl_n (by omega)]
  refine ⟨nn, le5, by rw [I.2.2.2.1]; exact (caps 2 0 (by omega) (by omega)).1, by rw [I.2.2.2.2.1]; exact Nat.le_trans (m := A.2.2.2 + r * 2) (by omega) (caps 0 (r * 2) (by omega) (by omega)).2, fun A1 T1 eA eS => ⟨by rw [eA]; exact (I.2.1.trans I.1.ax) _ _ hq, fun T2 eR => ?_⟩⟩
  have I := I.step (by omega) eA eS eR rfl rfl (by intro i hi; omega)
  refine ⟨I.2.1 _ _ hq, ?_⟩
  rw [(I.2.2.2.2.2.2.1 a 0 (by omega)).1, g0, cl_n (by omega)]
  refine ⟨nn, le5, by rw [I.2.2.2.1]; exact (caps 3 0 (by omega) (by omega)).1, by rw [I.2.2.2.2.1]; exact Nat.le_trans (m := A.2.2.2 + r * 3) (by omega) (caps 0 (r * 3) (by omega) (by omega)).2, fun A1 T1 eA eS => ⟨by rw [eA]; exact (I.2.1.trans I.1.ax) _ _ hq, fun T2 eR => ?_⟩⟩
  have I := I.step (by omega) eA eS eR rfl rfl (by intro i hi; omega)
  refine ⟨I.2.1 _ _ hq, ?_⟩
  rw [(I.2.2.2.2.2.2.1 a 0 (by omega)).1, g0, cl_n (by omega)]
  refine ⟨nn, le5, by rw [I.2.2.2.1]; exact (caps 4 0 (by omega) (by omega)).1, by rw [I.2.2.2.2.1]; exact Nat.le_trans (m := A.2.2.2 + r * 4) (by omega) (caps 0 (r * 4) (by omega) (by omega)).2, fun A1 T1 eA eS => ⟨by rw [eA]; exact (I.2.1.trans I.1.ax) _ _ hq, fun T2 eR => ?_⟩⟩
  have I := I.step (by omega) eA eS eR rfl rfl (by intro i hi; omega)
  refine ⟨I.2.1 _ _ hq, ?_⟩
  rw [(I.2.2.2.2.2.2.1 a 0 (by omega)).1, g0, cl_n (by omega)]
  refine ⟨nn, le5, by rw [I.2.2.2.1]; exact (caps 5 0 (by omega) (by omega)).1, by rw [I.2.2.2.2.1]; exact Nat.le_trans (m := A.2.2.2 + r * 5) (by omega) (caps 0 (r * 5) (by omega) (by omega)).2, fun A1 T1 eA eS => ⟨by rw [eA]; exact (I.2.1.trans I.1.ax) _ _ hq, fun T2 eR => ?_⟩⟩
  have I := I.step (by omega) eA eS eR rfl rfl (by intro i hi; omega)
  refine ⟨I.2.1 _ _ hq, ?_⟩
  rw [(I.2.2.2.2.2.2.1 a 0 (by omega)).1, g0, cl_n (by omega)]
  refine ⟨nn, le5, by rw [I.2.2.2.1]; exact (caps 6 0 (by omega) (by omega)).1, by rw [I.2.2.2.2.1]; exact Nat.le_trans (m := A.2.2.2 + r * 6) (by omega) (caps 0 (r * 6) (by omega) (by omega)).2, fun A1 T1 eA eS => ⟨by rw [eA]; exact (I.2.1.trans I.1.ax) _ _ hq, fun T2 eR => ?_⟩⟩
  have I := I.step (by omega) eA eS eR rfl rfl (by intro i hi; omega)
  have hI := I
  obtain ⟨i1, i2, i3, i4, i5, i6, i7, i8, i9⟩ := I
  have fr0 : Fr S T2 a (a + 7) := by
    have := hI.fr (by omega)
    rw [e0] at this
    exact (Fr.rf.uI (by omega) (by omega)).trans (this.wide (Nat.le_refl _) (by omega))
  refine ⟨rfl, rfl, rfl, hf _ _ ⟨i1, i2, by rw [i3], rfl, rfl, fr0⟩ ⟨⟨i2 _ _ hq, (i6 0 (by omega)).1, (i6 1 (by omega)).1, (i6 2 (by omega)).1, (i6 3 (by omega)).1, (i6 4 (by omega)).1, (i6 5 (by omega)).1⟩, ⟨(i7 a 0 (by omega)).1.trans g0, (i6 0 (by omega)).2.1, (i6 1 (by omega)).2.1, (i6 2 (by omega)).2.1, (i6 3 (by omega)).2.1, (i6 4 (by omega)).2.1, (i6 5 (by omega)).2.1⟩, ⟨?_, fun i hi => absurd hi (Nat.not_lt_zero _)⟩, Nat.zero_le _, hr⟩⟩
  rw [(i7 a 7 (by omega)).1, e0, gI_uI, if_neg (by omega)]
  exact (hz 7).1
set_option maxRecDepth 20000 in
theorem ct_tdInit {f : qA → qS → Prop} (hN : Nw A S a 7) (hf : ∀ A' S', Cn A S a 12 11 172 A' S' → TdAt A' S' a td0 → f A' S') : Run (d + 2) 52 [.ref a] A S (kVa (A.2.2.1 + 11) (A.2.2.2 + 172) f) := by
  refine Run.i (C := mX7_init) rfl rfl rfl fun J hJ => ?_
  obtain ⟨hA, hq, hn, hz⟩ := hN
  have caps : ∀ u b, u ≤ 11 → b ≤ 172 → A.2.2.1 + u ≤ A.2.2.1 + 11 ∧ A.2.2.2 + b ≤ A.2.2.2 + 172 := fun u b h1 h2 => by omega
  have e4 : (4 : Int32).toNatClampNeg = 4 := by decide
  have e6 : (6 : Int32).toNatClampNeg = 6 := by decide
  refine sX7_init_0 hJ ?_
  rw [e4, e6]
  refine ⟨(caps 1 8 (by omega) (by omega)).1, (caps 1 8 (by omega) (by omega)).2, fun A1 S1 eA0 eS0 => ?_⟩
  have N1 : Nw A1 S1 (a + 1) 8 := Nw.new hA hn eA0 eS0
  have c1 : A1.2.2.1 = A.2.2.1 + 1 := by rw [eA0]; rfl
  have s1 : A1.2.2.2 = A.2.2.2 + 8 := by rw [eA0]; rfl
  have x1 : Ax A A1 := by rw [eA0]; exact hA.ax
  rw [hn]
  refine ⟨wc rfl, by rw [c1]; exact (caps 7 0 (by omega) (by omega)).1, by rw [s1]; exact (caps 0 152 (by omega) (by omega)).2, ct_trInit (r := 16) N1 (by omega) fun A2 S2 cn t2 => ?_⟩
  obtain ⟨n1, n2, n3, n4, n5, n6⟩ := cn
  have q2 := n2 _ _ (x1 _ _ hq)
  refine ⟨q2, fun S3 e3 => ?_⟩
  have gS : ∀ b k, b < a + 1 ∨ a + 8 ≤ b → gI S3 b k = gI S b k ∧ gL S3 b k = gL S b k ∧ (¬ (b = a ∧ k = 2) → gR S3 b k = gR S b k) := by
    intro b k hb
    obtain ⟨w1, w2, w3⟩ := n6 b (by omega) k
    rw [e3]
    refine ⟨by rw [gI_uR, w1, eS0, hn, gI_uZ, if_neg (by omega)], by rw [gL_uR, w2, eS0, hn, gL_uZ, if_neg (by omega)], fun c => by rw [gR_uR, if_neg c, w3, eS0, hn, gR_uZ, if_neg (by omega)]⟩
  have I := Iq.zero (S0 := S3) (a := a) (kd := fun i => if i < 2 then (13, 4) else (13, 6)) (rf := fun i => if i < 2 then i + 3 else i + 4) n1 n3
  refine ⟨by decide, by decide, by rw [I.2.2.2.1, n4, c1]; exact (caps 8 0 (by omega) (by omega)).1, by rw [I.2.2.2.2.1, n5, s1]; exact (caps 0 156 (by omega) (by omega)).2, fun A1 T1 eA eS => ⟨by rw [eA]; exact (I.2.1.trans I.1.ax) _ _ q2, fun T2 eR => ?_⟩⟩
  have I := I.step (by omega) eA eS eR rfl rfl (by decide)
  refine ⟨by decide, by decide, by rw [I.2.2.2.1, n4, c1]; exact (caps 9 0 (by omega) (by omega)).1, by rw [I.2.2.2.2.1, n5, s1]; exact (caps 0 160 (by omega) (by omega)).2, fun A1 T1 eA eS => ⟨by rw [eA]; exact (I.2.1.trans I.1.ax) _ _ q2, fun T2 eR => ?_⟩⟩
  have I := I.step (by omega) eA eS eR rfl rfl (by decide)
  refine ⟨by decide, by decide, by rw [I.2.2.2.1, n4, c1]; exact (caps 10 0 (by omega) (by omega)).1, by rw [I.2.2.2.2.1, n5, s1]; exact (caps 0 166 (by omega) (by omega)).2, fun A1 T1 eA eS => ⟨by rw [eA]; exact (I.2.1.trans I.1.ax) _ _ q2, fun T2 eR => ?_⟩⟩
  have I := I.step (by omega) eA eS eR rfl rfl (by decide)
  refine ⟨by decide, by decide, by rw [I.2.2.2.1, n4, c1]; exact (caps 11 0 (by omega) (by omega)).1, by rw [I.2.2.2.2.1, n5, s1]; exact (caps 0 172 (by omega) (by omega)).2, fun A1 T1 eA eS => ⟨by rw [eA]; exact (I.2.1.trans I.1.ax) _ _ q2, fun T2 eR => ?_⟩⟩
  have I := I.step (by omega) eA eS eR rfl rfl (by decide)
  have hI := I
  obtain ⟨i1, i2, i3, i4, i5, i6, i7, i8, i9⟩ := I
  have gT : ∀ b k, b < a + 8 → gI T2 b k = gI S3 b k ∧ gL T2 b k = gL S3 b k := fun b k hb => i7 b k (by omega)
  have gr2 : ∀ b k, b < a + 8 → ¬ b = a → gR T2 b k = gR S3 b k := fun b k hb c => i8 b k (by omega) (fun z => absurd z c)
  have fr0 : Fr S T2 a (a + 12) := by
    intro b hb k
    by_cases c : b < a
    · exact ⟨(gT b k (by omega)).1.trans (gS b k (by omega)).1, (gT b k (by omega)).2.trans (gS b k (by omega)).2.1, (gr2 b k (by omega) (by omega)).trans ((gS b k (by omega)).2.2 (by omega))⟩
    · obtain ⟨w1, w2, w3⟩ := i9 b k (by omega)
      exact ⟨w1.trans (gS b k (by omega)).1, w2.trans (gS b k (by omega)).2.1, w3.trans ((gS b k (by omega)).2.2 (by omega))⟩
  have s23 : ∀ b, a + 1 ≤ b → b < a + 8 → ∀ k, gI T2 b k = gI S2 b k ∧ gL T2 b k = gL S2 b k ∧ gR T2 b k = gR S2 b k := by
    intro b b1 b2 k
    refine ⟨(gT b k b2).1.trans ?_, (gT b k b2).2.trans ?_, (gr2 b k b2 (by omega)).trans ?_⟩
    · rw [e3]; rfl
    · rw [e3]; rfl
    · rw [e3, gR_uR, if_neg (by omega)]
  have f23 : Fr S2 T2 a (a + 12) := by
    intro b hb k
    have w := fr0 b hb k
    have z := n6 b (by omega) k
    have y : gI S1 b k = gI S b k ∧ gL S1 b k = gL S b k ∧ gR S1 b k = gR S b k := by rw [eS0, hn]; exact ⟨by rw [gI_uZ, if_neg (by omega)], by rw [gL_uZ, if_neg (by omega)], by rw [gR_uZ, if_neg (by omega)]⟩
    exact ⟨w.1.trans (z.1.trans y.1).symm, w.2.1.trans (z.2.1.trans y.2.1).symm, w.2.2.trans (z.2.2.trans y.2.2).symm⟩
  have za : ∀ k, gI T2 a k = 0 := fun k => (gT a k (by omega)).1.trans ((gS a k (by omega)).1.trans (hz k).1)
  refine ⟨rfl, rfl, rfl, hf _ _ ⟨i1, x1.trans (n2.trans i2), by rw [i3], rfl, rfl, fr0⟩ ⟨⟨i2 _ _ q2, (i6 0 (by omega)).1, (i6 1 (by omega)).1, (i6 2 (by omega)).1, (i6 3 (by omega)).1⟩, ⟨?_, (i6 0 (by omega)).2.1, (i6 1 (by omega)).2.1, (i6 2 (by omega)).2.1, (i6 3 (by omega)).2.1⟩, (t2.cel (fun b b1 b2 k => s23 b b1 (by omega) k) f23).ax i2, za 1, za 5, Nat.zero_le _, fun i hi => absurd hi (Nat.not_lt_zero _), za 8, Nat.zero_le _, fun i hi => absurd hi (Nat.not_lt_zero _)⟩⟩
  rw [i8 a 2 (by omega) (fun _ => by decide), e3, gR_uR, if_pos ⟨rfl, rfl⟩]
set_option maxRecDepth 20000 in
theorem ct_piInit {f : qA → qS → Prop} (hN : Nw A S a 5) (hf : ∀ A' S', Cn A S a 11 10 6660 A' S' → PiAt A' S' a [] → f A' S') : Run (d + 1) 32 [.ref a] A S (kVa (A.2.2.1 + 10) (A.2.2.2 + 6660) f) := by
  refine Run.i (C := mX5_init) rfl rfl rfl fun J hJ => ?_
  obtain ⟨hA, hq, hn, hz⟩ := hN
  have caps : ∀ u b, u ≤ 10 → b ≤ 6660 → A.2.2.1 + u ≤ A.2.2.1 + 10 ∧ A.2.2.2 + b ≤ A.2.2.2 + 6660 := fun u b h1 h2 => by omega
  have e6 : (666 : Int32).toNatClampNeg = 666 := by decide
  refine sX5_init_0 hJ ?_
  rw [e6]
  have I := Iq.zero (S0 := S) (a := a) (kd := fun i => if i < 5 then (13, 666) else if i < 7 then (14, 666) else if i < 8 then (13, 666) else (14, 666)) (rf := fun i => i) hA hn
  refine ⟨by decide, by decide, by rw [I.2.2.2.1]; exact (caps 1 0 (by omega) (by omega)).1, by rw [I.2.2.2.2.1]; exact (caps 0 666 (by omega) (by omega)).2, fun A1 T1 eA eS => ⟨by rw [eA]; exact (I.2.1.trans I.1.ax) _ _ hq, fun T2 eR => ?_⟩⟩
  have I := I.step (by omega) eA eS eR rfl rfl (by decide)
  refine ⟨by decide, by decide, by rw [I.2.2.2.1]; exact (caps 2 0 (by omega) (by omega)).1, by rw [I.2.2.2.2.1]; exact (caps 0 1332 (by omega) (by omega)).2, fun A1 T1 eA eS => ⟨by rw [eA]; exact (I.2.1.trans I.1.ax) _ _ hq, fun T2 eR => ?_⟩⟩
  have I := I.step (by omega) eA eS eR rfl rfl (by decide)
  refine ⟨by decide, by decide, by rw [I.2.2.2.1]; exact (caps 3 0 (by omega) (by omega)).1, by rw [I.2.2.2.2.1]; exact (caps 0 1998 (by omega) (by omega)).2, fun A1 T1 eA eS => ⟨by rw [eA]; exact (I.2.1.trans I.1.ax) _ _ hq, fun T2 eR => ?_⟩⟩
  have I := I.step (by omega) eA eS eR rfl rfl (by decide)
  refine ⟨by decide, by decide, by rw [I.2.2.2.1]; exact (caps 4 0 (by omega) (by omega)).1, by rw [I.2.2.2.2.1]; exact (caps 0 2664 (by omega) (by omega)).2, fun A1 T1 eA eS => ⟨by rw [eA]; exact (I.2.1.trans I.1.ax) _ _ hq, fun T2 eR => ?_⟩⟩
  have I := I.step (by omega) eA eS eR rfl rfl (by decide)
  refine ⟨by decide, by decide, by rw [I.2.2.2.1]; exact (caps 5 0 (by omega) (by omega)).1, by rw [I.2.2.2.2.1]; exact (caps 0 3330 (by omega) (by omega)).2, fun A1 T1 eA eS => ⟨by rw [eA]; exact (I.2.1.trans I.1.ax) _ _ hq, fun T2 eR => ?_⟩⟩
  have I := I.step (by omega) eA eS eR rfl rfl (by decide)
  refine ⟨by decide, by decide, by rw [I.2.2.2.1]; exact (caps 6 0 (by omega) (by omega)).1, by rw [I.2.2.2.2.1]; exact (caps 0 3996 (by omega) (by omega)).2, fun A1 T1 eA eS => ⟨by rw [eA]; exact (I.2.1.trans I.1.ax) _ _ hq, fun T2 eR => ?_⟩⟩
  have I := I.step (by omega) eA eS eR rfl rfl (by decide)
  refine ⟨by decide, by decide, by rw [I.2.2.2.1]; exact (caps 7 0 (by omega) (by omega)).1, by rw [I.2.2.2.2.1]; exact (caps 0 4662 (by omega) (by omega)).2, fun A1 T1 eA eS => ⟨by rw [eA]; exact (I.2.1.trans I.1.ax) _ _ hq, fun T2 eR => ?_⟩⟩
  have I := I.step (by omega) eA eS eR rfl rfl (by decide)
  refine ⟨by decide, by decide, by rw [I.2.2.2.1]; exact (caps 8 0 (by omega) (by omega)).1, by rw [I.2.2.2.2.1]; exact (caps 0 5328 (by omega) (by omega)).2, fun A1 T1 eA eS => ⟨by rw [eA]; exact (I.2.1.trans I.1.ax) _ _ hq, fun T2 eR => ?_⟩⟩
  have I := I.step (by omega) eA eS eR rfl rfl (by decide)
  refine ⟨by decide, by decide, by rw [I.2.2.2.1]; exact (caps 9 0 (by omega) (by omega)).1, by rw [I.2.2.2.2.1]; exact (caps 0 5994 (by omega) (by omega)).2, fun A1 T1 eA eS => ⟨by rw [eA]; exact (I.2.1.trans I.1.ax) _ _ hq, fun T2 eR => ?_⟩⟩
  have I := I.step (by omega) eA eS eR rfl rfl (by decide)
  refine ⟨by decide, by decide, by rw [I.2.2.2.1]; exact (caps 10 0 (by omega) (by omega)).1, by rw [I.2.2.2.2.1]; exact (caps 0 6660 (by omega) (by omega)).2, fun A1 T1 eA eS => ⟨by rw [eA]; exact (I.2.1.trans I.1.ax) _ _ hq, fun T2 eR => ?_⟩⟩
  have I := I.step (by omega) eA eS eR rfl rfl (by decide)
  have hI := I
  obtain ⟨i1, i2, i3, i4, i5, i6, i7, i8, i9⟩ := I
  have kk : ∀ i, i < 10 → A1.1 (a + 1 + i) = some (if i < 5 then (13, 666) else if i < 7 then (14, 666) else if i < 8 then (13, 666) else (14, 666)) := fun i hi => (i6 i hi).1
  have rr : ∀ i, i < 10 → gR T2 a i = some (a + 1 + i) := fun i hi => (i6 i hi).2.1
  exact ⟨rfl, rfl, rfl, hf _ _ ⟨i1, i2, by rw [i3], rfl, rfl, (hI.fr (by omega)).wide (Nat.le_refl _) (by omega)⟩ ⟨⟨i2 _ _ hq, kk 0 (by omega), kk 1 (by omega), kk 2 (by omega), kk 3 (by omega), kk 4 (by omega), kk 5 (by omega), kk 6 (by omega), kk 7 (by omega), kk 8 (by omega), kk 9 (by omega)⟩, ⟨rr 0 (by omega), rr 1 (by omega), rr 2 (by omega), rr 3 (by omega), rr 4 (by omega), rr 5 (by omega), rr 6 (by omega), rr 7 (by omega), rr 8 (by omega), rr 9 (by omega)⟩, ⟨(i7 a 10 (by omega)).1.trans (hz 10).1, fun i hi => absurd hi (Nat.not_lt_zero _)⟩, Nat.zero_le _⟩⟩
end
