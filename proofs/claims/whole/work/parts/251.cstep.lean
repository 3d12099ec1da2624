/-! the class's reader: tokens -/
def kmp (s : Int32) : Int32 := if s = 1 then 0 else if s = 2 then 1 else if s = 3 then 2 else if s = 4 then 3 else 4
theorem kmpv : kmp 0 = 4 ∧ kmp 1 = 0 ∧ kmp 2 = 1 ∧ kmp 3 = 2 ∧ kmp 4 = 3 := by decide
def Rx (A : qA) (S : qS) (r t a : Nat) (tp : Nat → Int32) (n : Nat) : Prop := A.1 r = some (6, 0) ∧ gR S r 2 = some t ∧ A.1 t = some (12, 900) ∧ gI S r 3 = nI n ∧ n ≤ 900 ∧ (∀ k, k < 900 → gI S t k = tp k) ∧ gR S r 8 = some a ∧ ¬ t = r ∧ ∀ k, isBy (tp k)
/-- nothing but the reader's ints changed -/
def Ro (S S' : qS) (r : Nat) : Prop := (∀ b k, ¬ (b = r ∧ (k < 2 ∨ 4 ≤ k ∧ k ≤ 7)) → gI S' b k = gI S b k) ∧ (∀ b k, gL S' b k = gL S b k) ∧ ∀ b k, gR S' b k = gR S b k
theorem Ro.rf {S : qS} {r : Nat} : Ro S S r := ⟨fun _ _ _ => rfl, fun _ _ => rfl, fun _ _ => rfl⟩
theorem Ro.trans {S S' S'' : qS} {r : Nat} (h : Ro S S' r) (h' : Ro S' S'' r) : Ro S S'' r := ⟨fun b k n => (h'.1 b k n).trans (h.1 b k n), fun b k => (h'.2.1 b k).trans (h.2.1 b k), fun b k => (h'.2.2 b k).trans (h.2.2 b k)⟩
theorem Ro.uI {S S' : qS} {r k : Nat} {v : Int32} (h : Ro S S' r) (hk : k < 2 ∨ 4 ≤ k ∧ k ≤ 7) : Ro S (uI S' r k v) r := ⟨fun b j n => by rw [gI_uI, if_neg (by omega)]; exact h.1 b j n, h.2.1, h.2.2⟩
theorem Rx.ro {A : qA} {S S' : qS} {r t a n : Nat} {tp : Nat → Int32} (h : Rx A S r t a tp n) (l : Ro S S' r) : Rx A S' r t a tp n := by
  obtain ⟨h1, h2, h3, h4, h5, h6, h7, h8, h9⟩ := h
  exact ⟨h1, (l.2.2 _ _).trans h2, h3, (l.1 _ _ (by omega)).trans h4, h5, fun k hk => (l.1 _ _ (by omega)).trans (h6 k hk), (l.2.2 _ _).trans h7, h8, h9⟩
/-- the token x stands in the reader -/
def CT (S : qS) (r : Nat) (x : Tks) : Prop := gI S r 4 = nI x.2.2.1 ∧ gI S r 6 = kmp x.2.1 ∧ (¬ x.2.1 = 0 → gI S r 5 = nI x.1) ∧ (x.2.1 = 3 → gI S r 7 = x.2.2.2.1)
section
variable {d : Nat} {A : qA} {S : qS} {r t a n : Nat} {tp : Nat → Int32}
set_option maxRecDepth 20000 in
theorem ct_rLetter {c : Int32} {f : Bool → qS → Prop} (hf : f (ltB c) S) : Run (d + 1) 50 [.int c] A S (kZ A f) := by
  refine Run.i (C := mX6_isLetter) rfl rfl rfl fun J hJ => ?_
  refine sX6_isLetter_0 hJ ⟨fun z => ⟨Or.inl rfl, kZ_0 ?_⟩, fun z => ⟨fun z1 => ⟨Or.inl rfl, kZ_0 ?_⟩, fun z1 => ⟨Or.inr rfl, kZ_1 ?_⟩⟩⟩
  · rwa [show ltB c = false from decide_eq_false (fun w => w.1 z)] at hf
  · rwa [show ltB c = false from decide_eq_false (fun w => w.2 z1)] at hf
  · rwa [show ltB c = true from decide_eq_true ⟨z, z1⟩] at hf
set_option maxRecDepth 20000 in
theorem ct_rDigit {c : Int32} {f : Bool → qS → Prop} (hf : f (dgB c) S) : Run (d + 1) 51 [.int c] A S (kZ A f) := by
  refine Run.i (C := mX6_isDigit) rfl rfl rfl fun J hJ => ?_
  refine sX6_isDigit_0 hJ ⟨fun z => ⟨Or.inl rfl, kZ_0 ?_⟩, fun z => ⟨fun z1 => ⟨Or.inl rfl, kZ_0 ?_⟩, fun z1 => ⟨Or.inr rfl, kZ_1 ?_⟩⟩⟩
  · rwa [show dgB c = false from decide_eq_false (fun w => w.1 z)] at hf
  · rwa [show dgB c = false from decide_eq_false (fun w => w.2 z1)] at hf
  · rwa [show dgB c = true from decide_eq_true ⟨z, z1⟩] at hf
set_option maxRecDepth 20000 in
theorem ct_stepOverDigits {k : Nat} {f : qS → Prop} (h : Rx A S r t a tp n) (h4 : gI S r 4 = nI k) (h5 : gI S r 5 = nI k) (hk : k ≤ n) (hf : ∀ S', CT S' r (dge tp n (n - k) k, if 6 < dge tp n (n - k) k - k then 0 else 3, k, nbG tp n k (dge tp n (n - k) k - k), 0) → Ro S S' r → f S') : Run (d + 2) 49 [.ref r] A S (kV A f) := by
  refine Run.i (C := mX6_stepOverDigits) rfl rfl rfl fun J hJ => ?_
  have hk0 := h.1
  have hn := h.2.2.2.2.1
  generalize eD : dge tp n (n - k) k = D at hf
  have exit : ∀ e Sj, k ≤ e → e ≤ n → e = D → gI Sj r 5 = nI e → gI Sj r 4 = nI k → gI Sj r 7 = nbG tp n k (e - k) → Ro S Sj r → (A.1 r = some (6, 0) ∧ A.1 r = some (6, 0) ∧ ((6 < ((gI Sj r 5) - (gI Sj r 4)) → A.1 r = some (6, 0) ∧ ∀ S_1, S_1 = uI Sj r 6 4 → kV A f none A S_1) ∧ (¬ 6 < ((gI Sj r 5) - (gI Sj r 4)) → A.1 r = some (6, 0) ∧ ∀ S_2, S_2 = uI Sj r 6 2 → kV A f none A S_2))) := by
    intro e Sj h1 h2 h3 g5 g4 g7 l
    rw [g5, g4, nI_sub h1, show (6 : Int32) = nI 6 from rfl, nIlt (by omega) (by omega)]
    subst h3
    refine ⟨hk0, hk0, fun z => ⟨hk0, fun S1 e1 => kV_i (hf S1 ?_ (by rw [e1]; exact l.uI (by omega)))⟩, fun z => ⟨hk0, fun S1 e1 => kV_i (hf S1 ?_ (by rw [e1]; exact l.uI (by omega)))⟩⟩
    · rw [e1, if_pos z]
      exact ⟨by rw [gI_uI, if_neg (by omega)]; exact g4, by rw [gI_uI, if_pos ⟨rfl, rfl⟩]; exact kmpv.1.symm, fun c => absurd rfl c, fun c => absurd (show (0 : Int32) = 3 from c) (by decide)⟩
    · rw [e1, if_neg z]
      exact ⟨by rw [gI_uI, if_neg (by omega)]; exact g4, by rw [gI_uI, if_pos ⟨rfl, rfl⟩]; exact kmpv.2.2.2.1.symm, fun _ => by rw [gI_uI, if_neg (by omega)]; exact g5, fun _ => by rw [gI_uI, if_neg (by omega)]; exact g7⟩
  have loop : ∀ g e Sj, e + g = n → k ≤ e → dge tp n g e = D → gI Sj r 5 = nI e → gI Sj r 4 = nI k → gI Sj r 7 = nbG tp n k (e - k) → Ro S Sj r → J 5 [some (.ref r)] [] A Sj := by
    intro g
    induction g with
    | zero =>
      intro e Sj he hke hD g5 g4 g7 l
      have hx := h.ro l
      refine sX6_stepOverDigits_5 hJ ⟨hk0, hk0, fun _ => exit e Sj hke (by omega) hD g5 g4 g7 l, fun z => absurd ?_ z⟩
      rw [hx.2.2.2.1, g5, nIle (by omega) (by omega)]
      omega
    | succ g ih =>
      intro e Sj he hke hD g5 g4 g7 l
      have hx := h.ro l
      have hb : byN tp n e = tp e &&& 255 := if_pos (by omega)
      have hy := by_all (hx.2.2.2.2.2.2.2.2 e)
      have ht : gI Sj t (nI e).toNatClampNeg = tp e := by rw [cl_n (by omega)]; exact hx.2.2.2.2.2.1 e (by omega)
      refine sX6_stepOverDigits_5 hJ ⟨hk0, hk0, fun z => ?_, fun z => ⟨hk0, t, hx.2.1, hk0, 900, hx.2.2.1, by rw [g5]; exact vp_n (by omega) (by omega), wc rfl, ?_⟩⟩
      · rw [hx.2.2.2.1, g5, nIle (by omega) (by omega)] at z
        omega
      · rw [g5, ht]
        rw [dge, hb, hy.2.2.1] at hD
        refine ct_rDigit (q_eqb (fun c => ?_) (fun c => ⟨hk0, hk0, ?_⟩))
        · rw [c, if_neg (by decide)] at hD
          exact exit e Sj hke (by omega) hD g5 g4 g7 l
        · rw [if_pos c] at hD
          have e7 := hy.2.2.2.2.2.2 c
          rw [g5, g4, nI_sub hke, show (6 : Int32) = nI 6 from rfl, nIle (by omega) (by omega)]
          have e8 : e + 1 - k = (e - k) + 1 := by omega
          refine ⟨fun z6 => ⟨hk0, hk0, fun S1 e1 => ?_⟩, fun z6 => ⟨hk0, hk0, t, hx.2.1, hk0, 900, hx.2.2.1, vp_n (by omega) (by omega), hk0, fun S1 e1 => ⟨hk0, hk0, fun S2 e2 => ?_⟩⟩⟩
          · rw [nI_1] at e1
            refine ih (e + 1) S1 (by omega) (by omega) hD (by rw [e1, gI_uI, if_pos ⟨rfl, rfl⟩]) (by rw [e1, gI_uI, if_neg (by omega)]; exact g4) ?_ (by rw [e1]; exact l.uI (by omega))
            rw [e1, gI_uI, if_neg (by omega), g7, e8, nbG, if_pos z6]
          · rw [ht] at e1
            have g51 : gI S1 r 5 = nI e := by rw [e1, gI_uI, if_neg (by omega)]; exact g5
            rw [g51, nI_1] at e2
            refine ih (e + 1) S2 (by omega) (by omega) hD (by rw [e2, gI_uI, if_pos ⟨rfl, rfl⟩]) (by rw [e2, gI_uI, if_neg (by omega), e1, gI_uI, if_neg (by omega)]; exact g4) ?_ (by rw [e2, e1]; exact (l.uI (by omega)).uI (by omega))
            rw [e2, gI_uI, if_neg (by omega), e1, gI_uI, if_pos ⟨rfl, rfl⟩, g7, e8, nbG, if_neg z6, show k + (e - k) = e by omega, hb, e7, Int32.mul_comm]
  refine sX6_stepOverDigits_0 hJ ⟨hk0, fun S1 e1 => loop (n - k) k S1 (by omega) (Nat.le_refl _) eD (by rw [e1, gI_uI, if_neg (by omega)]; exact h5) (by rw [e1, gI_uI, if_neg (by omega)]; exact h4) ?_ (by rw [e1]; exact Ro.rf.uI (by omega))⟩
  rw [e1, gI_uI, if_pos ⟨rfl, rfl⟩, Nat.sub_self]
  rfl
end
