/-! the reference's parser: what its state is, the smallest steps (OVER stays) -/
theorem lte_le {tp : Nat → Int32} {n : Nat} : ∀ f k, k + f ≤ n → lte tp n f k ≤ n ∧ k ≤ lte tp n f k
  | 0, k, h => ⟨h, Nat.le_refl _⟩
  | f + 1, k, h => by
    rw [lte]
    split
    · have := lte_le (tp := tp) (n := n) f (k + 1) (by omega); omega
    · omega
theorem dge_le {tp : Nat → Int32} {n : Nat} : ∀ f k, k + f ≤ n → dge tp n f k ≤ n ∧ k ≤ dge tp n f k
  | 0, k, h => ⟨h, Nat.le_refl _⟩
  | f + 1, k, h => by
    rw [dge]
    split
    · have := dge_le (tp := tp) (n := n) f (k + 1) (by omega); omega
    · omega
theorem tokAt_le {tp : Nat → Int32} {n st : Nat} {nu : Int32} {wd : Int64} (h : st ≤ n) : (tokAt tp n st nu wd).1 ≤ n := by
  rw [tokAt]
  split
  · exact h
  · split
    · exact (lte_le _ _ (by omega)).1
    · split
      · exact (dge_le _ _ (by omega)).1
      · split
        · rename_i h1 _ _ _
          have : ¬ st = n := fun c => h1 (by rw [c, byN_end])
          show st + 1 ≤ n
          omega
        · exact h
theorem tokN_le {tp : Nat → Int32} {n : Nat} {x : Tks} (h : x.1 ≤ n) : (tokN tp n x).1 ≤ n := tokAt_le (skp_le _ _ (by omega)).1
/-- token, fault, place of the fault -/
abbrev Psr : Type := Tks × Int32 × Int32
def PsAt (S : qS) (m : Nat) (p : Psr) : Prop := TkAt S m p.1 ∧ gI S m 12 = p.2.1 ∧ gI S m 13 = p.2.2
def gon (tp : Nat → Int32) (n : Nat) (p : Psr) : Psr := if p.1.2.1 = 5 then p else (tokN tp n p.1, p.2)
def flw (k : Int32) (p : Psr) : Psr := if p.1.2.1 = 5 then p else ((p.1.1, 5, p.1.2.2), k, nI p.1.2.2.1)
theorem gon_le {tp : Nat → Int32} {n : Nat} {p : Psr} (h : p.1.1 ≤ n) : (gon tp n p).1.1 ≤ n := by
  rw [gon]
  split
  · exact h
  · exact tokN_le h
theorem flw_1 {k : Int32} {p : Psr} : (flw k p).1.1 = p.1.1 := by
  rw [flw]
  split <;> rfl
theorem flw_5 {k : Int32} {p : Psr} : (flw k p).1.2.1 = 5 := by
  rw [flw]
  split
  · assumption
  · rfl
/-- nothing but the parser's fields changed -/
def Ly (S S' : qS) (m : Nat) : Prop := (∀ b k, ¬ (b = m ∧ 8 ≤ k ∧ k ≤ 13) → gI S' b k = gI S b k) ∧ (∀ b k, ¬ (b = m ∧ k = 14) → gL S' b k = gL S b k) ∧ ∀ b k, gR S' b k = gR S b k
theorem Ly.rf {S : qS} {m : Nat} : Ly S S m := ⟨fun _ _ _ => rfl, fun _ _ _ => rfl, fun _ _ => rfl⟩
theorem Ly.uI {S S' : qS} {m k : Nat} {v : Int32} (h : Ly S S' m) (hk : 8 ≤ k ∧ k ≤ 13) : Ly S (uI S' m k v) m := ⟨fun b j n => by rw [gI_uI, if_neg (by omega)]; exact h.1 b j n, h.2.1, h.2.2⟩
theorem Ly.trans {S S' S'' : qS} {m : Nat} (h : Ly S S' m) (h' : Ly S' S'' m) : Ly S S'' m := ⟨fun b k n => (h'.1 b k n).trans (h.1 b k n), fun b k n => (h'.2.1 b k n).trans (h.2.1 b k n), fun b k => (h'.2.2 b k).trans (h.2.2 b k)⟩
theorem Lx.ly {S S' : qS} {m : Nat} (h : Lx S S' m) : Ly S S' m := ⟨fun b k n => h.1 b k (by omega), h.2.1, h.2.2⟩
theorem TxAt.ly {A : qA} {S S' : qS} {m n : Nat} {tp : Nat → Int32} (h : TxAt A S m tp n) (hl : Ly S S' m) : TxAt A S' m tp n := ⟨⟨h.1.1, h.1.2.fr fun k => hl.2.2 m k⟩, h.2.1, (hl.1 m 7 (by omega)).trans h.2.2.1, fun k hk => (hl.1 _ _ (by omega)).trans (h.2.2.2 k hk)⟩
section
variable {d : Nat} {A : qA} {S : qS} {m n : Nat} {tp : Nat → Int32} {p : Psr}
set_option maxRecDepth 20000 in
theorem cm_gon {f : qS → Prop} (h : TxAt A S m tp n) (hx : PsAt S m p) (hp : p.1.1 ≤ n) (hf : ∀ S', PsAt S' m (gon tp n p) → Ly S S' m → f S') : Run (d + 2) 153 [.ref m] A S (kV A f) := by
  by_cases h5 : p.1.2.1 = 5
  · refine cm_goesOn5 h.1 (hx.1.2.1.trans h5) (hf S ?_ Ly.rf)
    rw [gon, if_pos h5]
    exact hx
  · refine cm_goesOn h hx.1 hp h5 fun S' h1 h2 => hf S' ?_ h2.ly
    rw [gon, if_neg h5]
    exact ⟨h1, (h2.1 m 12 (by omega)).trans hx.2.1, (h2.1 m 13 (by omega)).trans hx.2.2⟩
set_option maxRecDepth 20000 in
theorem cm_over {f : Bool → qS → Prop} (h : mI A S m) (hx : PsAt S m p) (hf : f (decide (p.1.2.1 = 5)) S) : Run (d + 1) 154 [.ref m] A S (kZ A f) := by
  refine Run.i (C := mX11_over) rfl rfl rfl fun J hJ => ?_
  refine sX11_over_0 hJ ⟨h.1.1, fun z => ⟨Or.inl rfl, kZ_0 ?_⟩, fun z => ⟨Or.inr rfl, kZ_1 ?_⟩⟩
  · rwa [decide_eq_false (fun c => z (hx.1.2.1.trans c))] at hf
  · rwa [decide_eq_true (hx.1.2.1.symm.trans z)] at hf
set_option maxRecDepth 20000 in
theorem cm_flaw {k : Int32} {f : qS → Prop} (h : mI A S m) (hx : PsAt S m p) (hf : ∀ S', PsAt S' m (flw k p) → Ly S S' m → f S') : Run (d + 1) 155 [.ref m, .int k] A S (kV A f) := by
  refine Run.i (C := mX11_flaw) rfl rfl rfl fun J hJ => ?_
  have hk0 := h.1.1
  obtain ⟨⟨x1, x2, x3, x4, x5⟩, x6, x7⟩ := hx
  refine sX11_flaw_0 hJ ⟨hk0, fun z => ⟨hk0, fun T eT => ?_⟩, fun z => kV_i (hf S ?_ Ly.rf)⟩
  · subst eT
    refine ⟨hk0, hk0, fun T eT => ?_⟩
    subst eT
    refine ⟨hk0, fun T eT => ?_⟩
    subst eT
    refine kV_i (hf _ ?_ (((Ly.rf.uI (by omega)).uI (by omega)).uI (by omega)))
    rw [flw, if_neg (fun c => z (x2.trans c))]
    refine ⟨⟨?_, ?_, ?_, ?_, x5⟩, ?_, ?_⟩
    · simp only [gI_uI, gL_uL, gR_uR, gI_uL, gI_uR, gL_uI, gL_uR, gR_uI, gR_uL, true_and, and_true, Nat.add_right_cancel_iff, Nat.add_left_cancel_iff, Nat.reduceEqDiff, Nat.left_eq_add, Nat.right_eq_add, Nat.add_eq_left, Nat.add_eq_right, Nat.reduceAdd, Nat.succ_ne_self, reduceCtorEq, false_and, and_false, if_false, if_true, ite_true, ite_false, ite_self, Nat.succ_ne_zero, Nat.add_one_ne_zero, not_false_eq_true, not_true_eq_false, Nat.one_ne_zero, Nat.zero_ne_one]; exact x1
    · simp only [gI_uI, gL_uL, gR_uR, gI_uL, gI_uR, gL_uI, gL_uR, gR_uI, gR_uL, true_and, and_true, Nat.add_right_cancel_iff, Nat.add_left_cancel_iff, Nat.reduceEqDiff, Nat.left_eq_add, Nat.right_eq_add, Nat.add_eq_left, Nat.add_eq_right, Nat.reduceAdd, Nat.succ_ne_self, reduceCtorEq, false_and, and_false, if_false, if_true, ite_true, ite_false, ite_self, Nat.succ_ne_zero, Nat.add_one_ne_zero, not_false_eq_true, not_true_eq_false, Nat.one_ne_zero, Nat.zero_ne_one]
    · simp only [gI_uI, gL_uL, gR_uR, gI_uL, gI_uR, gL_uI, gL_uR, gR_uI, gR_uL, true_and, and_true, Nat.add_right_cancel_iff, Nat.add_left_cancel_iff, Nat.reduceEqDiff, Nat.left_eq_add, Nat.right_eq_add, Nat.add_eq_left, Nat.add_eq_right, Nat.reduceAdd, Nat.succ_ne_self, reduceCtorEq, false_and, and_false, if_false, if_true, ite_true, ite_false, ite_self, Nat.succ_ne_zero, Nat.add_one_ne_zero, not_false_eq_true, not_true_eq_false, Nat.one_ne_zero, Nat.zero_ne_one]; exact x3
    · simp only [gI_uI, gL_uL, gR_uR, gI_uL, gI_uR, gL_uI, gL_uR, gR_uI, gR_uL, true_and, and_true, Nat.add_right_cancel_iff, Nat.add_left_cancel_iff, Nat.reduceEqDiff, Nat.left_eq_add, Nat.right_eq_add, Nat.add_eq_left, Nat.add_eq_right, Nat.reduceAdd, Nat.succ_ne_self, reduceCtorEq, false_and, and_false, if_false, if_true, ite_true, ite_false, ite_self, Nat.succ_ne_zero, Nat.add_one_ne_zero, not_false_eq_true, not_true_eq_false, Nat.one_ne_zero, Nat.zero_ne_one]; exact x4
    · simp only [gI_uI, gL_uL, gR_uR, gI_uL, gI_uR, gL_uI, gL_uR, gR_uI, gR_uL, true_and, and_true, Nat.add_right_cancel_iff, Nat.add_left_cancel_iff, Nat.reduceEqDiff, Nat.left_eq_add, Nat.right_eq_add, Nat.add_eq_left, Nat.add_eq_right, Nat.reduceAdd, Nat.succ_ne_self, reduceCtorEq, false_and, and_false, if_false, if_true, ite_true, ite_false, ite_self, Nat.succ_ne_zero, Nat.add_one_ne_zero, not_false_eq_true, not_true_eq_false, Nat.one_ne_zero, Nat.zero_ne_one]
    · simp only [gI_uI, gL_uL, gR_uR, gI_uL, gI_uR, gL_uI, gL_uR, gR_uI, gR_uL, true_and, and_true, Nat.add_right_cancel_iff, Nat.add_left_cancel_iff, Nat.reduceEqDiff, Nat.left_eq_add, Nat.right_eq_add, Nat.add_eq_left, Nat.add_eq_right, Nat.reduceAdd, Nat.succ_ne_self, reduceCtorEq, false_and, and_false, if_false, if_true, ite_true, ite_false, ite_self, Nat.succ_ne_zero, Nat.add_one_ne_zero, not_false_eq_true, not_true_eq_false, Nat.one_ne_zero, Nat.zero_ne_one]; exact x3
  · rw [flw, if_pos (x2.symm.trans z)]
    exact ⟨⟨x1, x2, x3, x4, x5⟩, x6, x7⟩
end
