/-! the reference goes on to the next token -/
theorem lte_z {tp : Nat → Int32} {n f k : Nat} (h : ltB (byN tp n k) = false) : lte tp n f k = k := by
  cases f with
  | zero => rfl
  | succ f => rw [lte, if_neg (by rw [h]; decide)]
theorem dge_z {tp : Nat → Int32} {n f k : Nat} (h : dgB (byN tp n k) = false) : dge tp n f k = k := by
  cases f with
  | zero => rfl
  | succ f => rw [dge, if_neg (by rw [h]; decide)]
theorem skp_z {tp : Nat → Int32} {n f k : Nat} (h : ¬ byN tp n k = 32) : skp tp n f k = k := by
  cases f with
  | zero => rfl
  | succ f => rw [skp, if_neg h]
section
variable {d : Nat} {A : qA} {S : qS} {m n : Nat} {tp : Nat → Int32}
set_option maxRecDepth 20000 in
theorem cm_goesOn5 {f : qS → Prop} (h : mI A S m) (h9 : gI S m 9 = 5) (hf : f S) : Run (d + 2) 153 [.ref m] A S (kV A f) := by
  refine Run.i (C := mX11_goesOn) rfl rfl rfl fun J hJ => ?_
  exact sX11_goesOn_0 hJ ⟨h.1.1, fun z => absurd h9 z, fun _ => kV_i hf⟩
set_option maxRecDepth 20000 in
set_option maxHeartbeats 2000000 in
theorem cm_goesOn {x : Tks} {f : qS → Prop} (h : TxAt A S m tp n) (hx : TkAt S m x) (hp : x.1 ≤ n) (ho : ¬ x.2.1 = 5) (hf : ∀ S', TkAt S' m (tokN tp n x) → Lx S S' m → f S') : Run (d + 2) 153 [.ref m] A S (kV A f) := by
  refine Run.i (C := mX11_goesOn) rfl rfl rfl fun J hJ => ?_
  have hn := h.2.1
  have hk0 := h.1.1.1
  obtain ⟨x1, x2, x3, x4, x5⟩ := hx
  -- letters
  have letters : ∀ st, st ≤ n → ¬ byN tp n st = -1 → ltB (byN tp n st) = true → (∀ S', TkAt S' m (tokAt tp n st x.2.2.2.1 x.2.2.2.2) → Lx S S' m → f S') → ∀ g i (Sj : qS) (w1 : Option Value), st + i + g = n → TkAt Sj m (st + i, 0, st, x.2.2.2.1, wdG tp n st i) → Lx S Sj m → lte tp n g (st + i) = lte tp n (n - st) st → J 84 [some (.ref m), w1, some (.int (nI i))] [] A Sj := by
    intro st hst e1 e2 hf g
    have stop : ∀ i (Sj : qS) (w1 : Option Value), st + i ≤ n → TkAt Sj m (st + i, 0, st, x.2.2.2.1, wdG tp n st i) → Lx S Sj m → st + i = lte tp n (n - st) st → ltB (byN tp n (st + i)) = false → J 84 [some (.ref m), w1, some (.int (nI i))] [] A Sj := by
      intro i Sj w1 hi hj hl he hb
      have hi0 := hj
      obtain ⟨j1, j2, j3, j4, j5⟩ := hj
      refine sX11_goesOn_84 hJ ?_
      rw [j1]
      refine ⟨hk0, hk0, wc rfl, cm_byteAt (h.lx hl) (by show st + i ≤ 1000; omega) ⟨wc rfl, cm_isLetter ?_⟩⟩
      rw [hb]
      have et : tokAt tp n st x.2.2.2.1 x.2.2.2.2 = (st + i, if 8 < i then 0 else 2, st, x.2.2.2.1, wdG tp n st i) := by
        rw [tokAt, if_neg e1, if_pos e2, ← he, Nat.add_sub_cancel_left]
      rw [et] at hf
      refine ⟨fun _ => ⟨fun z => kV_i ?_, fun z => ⟨hk0, fun T eT => ?_⟩⟩, fun c => absurd rfl c⟩
      · rw [show (8 : Int32) = nI 8 from rfl, nIlt (by omega) (by omega)] at z
        have := hf Sj
        rw [if_pos z] at this
        exact this hi0 hl
      · subst eT
        rw [show (8 : Int32) = nI 8 from rfl, nIlt (by omega) (by omega)] at z
        have := hf (uI Sj m 9 2)
        rw [if_neg z] at this
        exact kV_i (this ⟨by simp only [gI_uI, gL_uL, gR_uR, gI_uL, gI_uR, gL_uI, gL_uR, gR_uI, gR_uL, true_and, and_true, Nat.add_right_cancel_iff, Nat.add_left_cancel_iff, Nat.reduceEqDiff, Nat.left_eq_add, Nat.right_eq_add, Nat.add_eq_left, Nat.add_eq_right, Nat.reduceAdd, Nat.succ_ne_self, reduceCtorEq, false_and, and_false, if_false, if_true, ite_true, ite_false, ite_self, Nat.succ_ne_zero, Nat.add_one_ne_zero, not_false_eq_true, not_true_eq_false, Nat.one_ne_zero, Nat.zero_ne_one]; exact j1, by simp only [gI_uI, gL_uL, gR_uR, gI_uL, gI_uR, gL_uI, gL_uR, gR_uI, gR_uL, true_and, and_true, Nat.add_right_cancel_iff, Nat.add_left_cancel_iff, Nat.reduceEqDiff, Nat.left_eq_add, Nat.right_eq_add, Nat.add_eq_left, Nat.add_eq_right, Nat.reduceAdd, Nat.succ_ne_self, reduceCtorEq, false_and, and_false, if_false, if_true, ite_true, ite_false, ite_self, Nat.succ_ne_zero, Nat.add_one_ne_zero, not_false_eq_true, not_true_eq_false, Nat.one_ne_zero, Nat.zero_ne_one], by simp only [gI_uI, gL_uL, gR_uR, gI_uL, gI_uR, gL_uI, gL_uR, gR_uI, gR_uL, true_and, and_true, Nat.add_right_cancel_iff, Nat.add_left_cancel_iff, Nat.reduceEqDiff, Nat.left_eq_add, Nat.right_eq_add, Nat.add_eq_left, Nat.add_eq_right, Nat.reduceAdd, Nat.succ_ne_self, reduceCtorEq, false_and, and_false, if_false, if_true, ite_true, ite_false, ite_self, Nat.succ_ne_zero, Nat.add_one_ne_zero, not_false_eq_true, not_true_eq_false, Nat.one_ne_zero, Nat.zero_ne_one]; exact j3, by simp only [gI_uI, gL_uL, gR_uR, gI_uL, gI_uR, gL_uI, gL_uR, gR_uI, gR_uL, true_and, and_true, Nat.add_right_cancel_iff, Nat.add_left_cancel_iff, Nat.reduceEqDiff, Nat.left_eq_add, Nat.right_eq_add, Nat.add_eq_left, Nat.add_eq_right, Nat.reduceAdd, Nat.succ_ne_self, reduceCtorEq, false_and, and_false, if_false, if_true, ite_true, ite_false, ite_self, Nat.succ_ne_zero, Nat.add_one_ne_zero, not_false_eq_true, not_true_eq_false, Nat.one_ne_zero, Nat.zero_ne_one]; exact j4, j5⟩ (hl.uI (by omega)))
    induction g with
    | zero =>
      intro i Sj w1 hi hj hl he
      have hb : ltB (byN tp n (st + i)) = false := by rw [show st + i = n by omega, byN_end]; exact ltB_m1
      exact stop i Sj w1 (by omega) hj hl (by rw [← he]; rfl) hb
    | succ g ih =>
      intro i Sj w1 hi hj hl he
      cases hb : ltB (byN tp n (st + i))
      · exact stop i Sj w1 (by omega) hj hl (by rw [← he, lte_z hb]) hb
      · obtain ⟨j1, j2, j3, j4, j5⟩ := hj
        refine sX11_goesOn_84 hJ ?_
        rw [j1]
        refine ⟨hk0, hk0, wc rfl, cm_byteAt (h.lx hl) (by show st + i ≤ 1000; omega) ⟨wc rfl, cm_isLetter ?_⟩⟩
        rw [hb]
        rw [lte, if_pos hb] at he
        refine ⟨fun c => absurd c (by decide), fun _ => ⟨fun z => ⟨hk0, hk0, fun T eT => ?_⟩, fun z => ?_⟩⟩
        · subst eT
          rw [show (8 : Int32) = nI 8 from rfl, nIle (by omega) (by omega)] at z
          rw [j1, nI_1, nI_1]
          refine ih (i + 1) _ _ (by omega) ⟨by simp only [gI_uI, gL_uL, gR_uR, gI_uL, gI_uR, gL_uI, gL_uR, gR_uI, gR_uL, true_and, and_true, Nat.add_right_cancel_iff, Nat.add_left_cancel_iff, Nat.reduceEqDiff, Nat.left_eq_add, Nat.right_eq_add, Nat.add_eq_left, Nat.add_eq_right, Nat.reduceAdd, Nat.succ_ne_self, reduceCtorEq, false_and, and_false, if_false, if_true, ite_true, ite_false, ite_self, Nat.succ_ne_zero, Nat.add_one_ne_zero, not_false_eq_true, not_true_eq_false, Nat.one_ne_zero, Nat.zero_ne_one]; rfl, by simp only [gI_uI, gL_uL, gR_uR, gI_uL, gI_uR, gL_uI, gL_uR, gR_uI, gR_uL, true_and, and_true, Nat.add_right_cancel_iff, Nat.add_left_cancel_iff, Nat.reduceEqDiff, Nat.left_eq_add, Nat.right_eq_add, Nat.add_eq_left, Nat.add_eq_right, Nat.reduceAdd, Nat.succ_ne_self, reduceCtorEq, false_and, and_false, if_false, if_true, ite_true, ite_false, ite_self, Nat.succ_ne_zero, Nat.add_one_ne_zero, not_false_eq_true, not_true_eq_false, Nat.one_ne_zero, Nat.zero_ne_one]; exact j2, by simp only [gI_uI, gL_uL, gR_uR, gI_uL, gI_uR, gL_uI, gL_uR, gR_uI, gR_uL, true_and, and_true, Nat.add_right_cancel_iff, Nat.add_left_cancel_iff, Nat.reduceEqDiff, Nat.left_eq_add, Nat.right_eq_add, Nat.add_eq_left, Nat.add_eq_right, Nat.reduceAdd, Nat.succ_ne_self, reduceCtorEq, false_and, and_false, if_false, if_true, ite_true, ite_false, ite_self, Nat.succ_ne_zero, Nat.add_one_ne_zero, not_false_eq_true, not_true_eq_false, Nat.one_ne_zero, Nat.zero_ne_one]; exact j3, by simp only [gI_uI, gL_uL, gR_uR, gI_uL, gI_uR, gL_uI, gL_uR, gR_uI, gR_uL, true_and, and_true, Nat.add_right_cancel_iff, Nat.add_left_cancel_iff, Nat.reduceEqDiff, Nat.left_eq_add, Nat.right_eq_add, Nat.add_eq_left, Nat.add_eq_right, Nat.reduceAdd, Nat.succ_ne_self, reduceCtorEq, false_and, and_false, if_false, if_true, ite_true, ite_false, ite_self, Nat.succ_ne_zero, Nat.add_one_ne_zero, not_false_eq_true, not_true_eq_false, Nat.one_ne_zero, Nat.zero_ne_one]; exact j4, ?_⟩ (hl.uI (by omega)) he
          show gL _ m 14 = wdG tp n st (i + 1)
          rw [wdG, if_pos z]
          exact j5
        · rw [show (8 : Int32) = nI 8 from rfl, nIle (by omega) (by omega)] at z
          rw [j1]
          refine ⟨hk0, hk0, hk0, wc rfl, cm_byteAt (h.lx hl) (by show st + i ≤ 1000; omega) ⟨hk0, fun T eT => ?_⟩⟩
          subst eT
          refine ⟨hk0, hk0, fun T eT => ?_⟩
          subst eT
          have ej : gI (uL Sj m 14 (32 * gL Sj m 14 + ((byN tp n (st + i) - 97) + 1).toInt64)) m 8 = nI (st + i) := j1
          rw [ej, nI_1, nI_1, j5]
          refine ih (i + 1) _ _ (by omega) ⟨by simp only [gI_uI, gL_uL, gR_uR, gI_uL, gI_uR, gL_uI, gL_uR, gR_uI, gR_uL, true_and, and_true, Nat.add_right_cancel_iff, Nat.add_left_cancel_iff, Nat.reduceEqDiff, Nat.left_eq_add, Nat.right_eq_add, Nat.add_eq_left, Nat.add_eq_right, Nat.reduceAdd, Nat.succ_ne_self, reduceCtorEq, false_and, and_false, if_false, if_true, ite_true, ite_false, ite_self, Nat.succ_ne_zero, Nat.add_one_ne_zero, not_false_eq_true, not_true_eq_false, Nat.one_ne_zero, Nat.zero_ne_one]; rfl, by simp only [gI_uI, gL_uL, gR_uR, gI_uL, gI_uR, gL_uI, gL_uR, gR_uI, gR_uL, true_and, and_true, Nat.add_right_cancel_iff, Nat.add_left_cancel_iff, Nat.reduceEqDiff, Nat.left_eq_add, Nat.right_eq_add, Nat.add_eq_left, Nat.add_eq_right, Nat.reduceAdd, Nat.succ_ne_self, reduceCtorEq, false_and, and_false, if_false, if_true, ite_true, ite_false, ite_self, Nat.succ_ne_zero, Nat.add_one_ne_zero, not_false_eq_true, not_true_eq_false, Nat.one_ne_zero, Nat.zero_ne_one]; exact j2, by simp only [gI_uI, gL_uL, gR_uR, gI_uL, gI_uR, gL_uI, gL_uR, gR_uI, gR_uL, true_and, and_true, Nat.add_right_cancel_iff, Nat.add_left_cancel_iff, Nat.reduceEqDiff, Nat.left_eq_add, Nat.right_eq_add, Nat.add_eq_left, Nat.add_eq_right, Nat.reduceAdd, Nat.succ_ne_self, reduceCtorEq, false_and, and_false, if_false, if_true, ite_true, ite_false, ite_self, Nat.succ_ne_zero, Nat.add_one_ne_zero, not_false_eq_true, not_true_eq_false, Nat.one_ne_zero, Nat.zero_ne_one]; exact j3, by simp only [gI_uI, gL_uL, gR_uR, gI_uL, gI_uR, gL_uI, gL_uR, gR_uI, gR_uL, true_and, and_true, Nat.add_right_cancel_iff, Nat.add_left_cancel_iff, Nat.reduceEqDiff, Nat.left_eq_add, Nat.right_eq_add, Nat.add_eq_left, Nat.add_eq_right, Nat.reduceAdd, Nat.succ_ne_self, reduceCtorEq, false_and, and_false, if_false, if_true, ite_true, ite_false, ite_self, Nat.succ_ne_zero, Nat.add_one_ne_zero, not_false_eq_true, not_true_eq_false, Nat.one_ne_zero, Nat.zero_ne_one]; exact j4, ?_⟩ (hl.uL.uI (by omega)) he
          show gL _ m 14 = wdG tp n st (i + 1)
          rw [wdG, if_neg z]
          simp only [gI_uI, gL_uL, gR_uR, gI_uL, gI_uR, gL_uI, gL_uR, gR_uI, gR_uL, true_and, and_true, Nat.add_right_cancel_iff, Nat.add_left_cancel_iff, Nat.reduceEqDiff, Nat.left_eq_add, Nat.right_eq_add, Nat.add_eq_left, Nat.add_eq_right, Nat.reduceAdd, Nat.succ_ne_self, reduceCtorEq, false_and, and_false, if_false, if_true, ite_true, ite_false, ite_self, Nat.succ_ne_zero, Nat.add_one_ne_zero, not_false_eq_true, not_true_eq_false, Nat.one_ne_zero, Nat.zero_ne_one]
  -- digits
  have digits : ∀ st, st ≤ n → ¬ byN tp n st = -1 → ltB (byN tp n st) = false → dgB (byN tp n st) = true → (∀ S', TkAt S' m (tokAt tp n st x.2.2.2.1 x.2.2.2.2) → Lx S S' m → f S') → ∀ g i (Sj : qS) (w1 : Option Value), st + i + g = n → TkAt Sj m (st + i, 0, st, nbG tp n st i, x.2.2.2.2) → Lx S Sj m → dge tp n g (st + i) = dge tp n (n - st) st → J 173 [some (.ref m), w1, some (.int (nI i))] [] A Sj := by
    intro st hst e1 e0 e2 hf g
    have stop : ∀ i (Sj : qS) (w1 : Option Value), st + i ≤ n → TkAt Sj m (st + i, 0, st, nbG tp n st i, x.2.2.2.2) → Lx S Sj m → st + i = dge tp n (n - st) st → dgB (byN tp n (st + i)) = false → J 173 [some (.ref m), w1, some (.int (nI i))] [] A Sj := by
      intro i Sj w1 hi hj hl he hb
      have hi0 := hj
      obtain ⟨j1, j2, j3, j4, j5⟩ := hj
      refine sX11_goesOn_173 hJ ?_
      rw [j1]
      refine ⟨hk0, hk0, wc rfl, cm_byteAt (h.lx hl) (by show st + i ≤ 1000; omega) ⟨wc rfl, cm_isDigit ?_⟩⟩
      rw [hb]
      have et : tokAt tp n st x.2.2.2.1 x.2.2.2.2 = (st + i, if 6 < i then 0 else 3, st, nbG tp n st i, x.2.2.2.2) := by
        rw [tokAt, if_neg e1, if_neg (by rw [e0]; decide), if_pos e2, ← he, Nat.add_sub_cancel_left]
      rw [et] at hf
      refine ⟨fun _ => ⟨fun z => kV_i ?_, fun z => ⟨hk0, fun T eT => ?_⟩⟩, fun c => absurd rfl c⟩
      · rw [show (6 : Int32) = nI 6 from rfl, nIlt (by omega) (by omega)] at z
        have := hf Sj
        rw [if_pos z] at this
        exact this hi0 hl
      · subst eT
        rw [show (6 : Int32) = nI 6 from rfl, nIlt (by omega) (by omega)] at z
        have := hf (uI Sj m 9 3)
        rw [if_neg z] at this
        exact kV_i (this ⟨by simp only [gI_uI, gL_uL, gR_uR, gI_uL, gI_uR, gL_uI, gL_uR, gR_uI, gR_uL, true_and, and_true, Nat.add_right_cancel_iff, Nat.add_left_cancel_iff, Nat.reduceEqDiff, Nat.left_eq_add, Nat.right_eq_add, Nat.add_eq_left, Nat.add_eq_right, Nat.reduceAdd, Nat.succ_ne_self, reduceCtorEq, false_and, and_false, if_false, if_true, ite_true, ite_false, ite_self, Nat.succ_ne_zero, Nat.add_one_ne_zero, not_false_eq_true, not_true_eq_false, Nat.one_ne_zero, Nat.zero_ne_one]; exact j1, by simp only [gI_uI, gL_uL, gR_uR, gI_uL, gI_uR, gL_uI, gL_uR, gR_uI, gR_uL, true_and, and_true, Nat.add_right_cancel_iff, Nat.add_left_cancel_iff, Nat.reduceEqDiff, Nat.left_eq_add, Nat.right_eq_add, Nat.add_eq_left, Nat.add_eq_right, Nat.reduceAdd, Nat.succ_ne_self, reduceCtorEq, false_and, and_false, if_false, if_true, ite_true, ite_false, ite_self, Nat.succ_ne_zero, Nat.add_one_ne_zero, not_false_eq_true, not_true_eq_false, Nat.one_ne_zero, Nat.zero_ne_one], by simp only [gI_uI, gL_uL, gR_uR, gI_uL, gI_uR, gL_uI, gL_uR, gR_uI, gR_uL, true_and, and_true, Nat.add_right_cancel_iff, Nat.add_left_cancel_iff, Nat.reduceEqDiff, Nat.left_eq_add, Nat.right_eq_add, Nat.add_eq_left, Nat.add_eq_right, Nat.reduceAdd, Nat.succ_ne_self, reduceCtorEq, false_and, and_false, if_false, if_true, ite_true, ite_false, ite_self, Nat.succ_ne_zero, Nat.add_one_ne_zero, not_false_eq_true, not_true_eq_false, Nat.one_ne_zero, Nat.zero_ne_one]; exact j3, by simp only [gI_uI, gL_uL, gR_uR, gI_uL, gI_uR, gL_uI, gL_uR, gR_uI, gR_uL, true_and, and_true, Nat.add_right_cancel_iff, Nat.add_left_cancel_iff, Nat.reduceEqDiff, Nat.left_eq_add, Nat.right_eq_add, Nat.add_eq_left, Nat.add_eq_right, Nat.reduceAdd, Nat.succ_ne_self, reduceCtorEq, false_and, and_false, if_false, if_true, ite_true, ite_false, ite_self, Nat.succ_ne_zero, Nat.add_one_ne_zero, not_false_eq_true, not_true_eq_false, Nat.one_ne_zero, Nat.zero_ne_one]; exact j4, j5⟩ (hl.uI (by omega)))
    induction g with
    | zero =>
      intro i Sj w1 hi hj hl he
      have hb : dgB (byN tp n (st + i)) = false := by rw [show st + i = n by omega, byN_end]; exact dgB_m1
      exact stop i Sj w1 (by omega) hj hl (by rw [← he]; rfl) hb
    | succ g ih =>
      intro i Sj w1 hi hj hl he
      cases hb : dgB (byN tp n (st + i))
      · exact stop i Sj w1 (by omega) hj hl (by rw [← he, dge_z hb]) hb
      · obtain ⟨j1, j2, j3, j4, j5⟩ := hj
        refine sX11_goesOn_173 hJ ?_
        rw [j1]
        refine ⟨hk0, hk0, wc rfl, cm_byteAt (h.lx hl) (by show st + i ≤ 1000; omega) ⟨wc rfl, cm_isDigit ?_⟩⟩
        rw [hb]
        rw [dge, if_pos hb] at he
        refine ⟨fun c => absurd c (by decide), fun _ => ⟨fun z => ⟨hk0, hk0, fun T eT => ?_⟩, fun z => ?_⟩⟩
        · subst eT
          rw [show (6 : Int32) = nI 6 from rfl, nIle (by omega) (by omega)] at z
          rw [j1, nI_1, nI_1]
          refine ih (i + 1) _ _ (by omega) ⟨by simp only [gI_uI, gL_uL, gR_uR, gI_uL, gI_uR, gL_uI, gL_uR, gR_uI, gR_uL, true_and, and_true, Nat.add_right_cancel_iff, Nat.add_left_cancel_iff, Nat.reduceEqDiff, Nat.left_eq_add, Nat.right_eq_add, Nat.add_eq_left, Nat.add_eq_right, Nat.reduceAdd, Nat.succ_ne_self, reduceCtorEq, false_and, and_false, if_false, if_true, ite_true, ite_false, ite_self, Nat.succ_ne_zero, Nat.add_one_ne_zero, not_false_eq_true, not_true_eq_false, Nat.one_ne_zero, Nat.zero_ne_one]; rfl, by simp only [gI_uI, gL_uL, gR_uR, gI_uL, gI_uR, gL_uI, gL_uR, gR_uI, gR_uL, true_and, and_true, Nat.add_right_cancel_iff, Nat.add_left_cancel_iff, Nat.reduceEqDiff, Nat.left_eq_add, Nat.right_eq_add, Nat.add_eq_left, Nat.add_eq_right, Nat.reduceAdd, Nat.succ_ne_self, reduceCtorEq, false_and, and_false, if_false, if_true, ite_true, ite_false, ite_self, Nat.succ_ne_zero, Nat.add_one_ne_zero, not_false_eq_true, not_true_eq_false, Nat.one_ne_zero, Nat.zero_ne_one]; exact j2, by simp only [gI_uI, gL_uL, gR_uR, gI_uL, gI_uR, gL_uI, gL_uR, gR_uI, gR_uL, true_and, and_true, Nat.add_right_cancel_iff, Nat.add_left_cancel_iff, Nat.reduceEqDiff, Nat.left_eq_add, Nat.right_eq_add, Nat.add_eq_left, Nat.add_eq_right, Nat.reduceAdd, Nat.succ_ne_self, reduceCtorEq, false_and, and_false, if_false, if_true, ite_true, ite_false, ite_self, Nat.succ_ne_zero, Nat.add_one_ne_zero, not_false_eq_true, not_true_eq_false, Nat.one_ne_zero, Nat.zero_ne_one]; exact j3, ?_, j5⟩ (hl.uI (by omega)) he
          show gI _ m 11 = nbG tp n st (i + 1)
          rw [nbG, if_pos z]
          simp only [gI_uI, gL_uL, gR_uR, gI_uL, gI_uR, gL_uI, gL_uR, gR_uI, gR_uL, true_and, and_true, Nat.add_right_cancel_iff, Nat.add_left_cancel_iff, Nat.reduceEqDiff, Nat.left_eq_add, Nat.right_eq_add, Nat.add_eq_left, Nat.add_eq_right, Nat.reduceAdd, Nat.succ_ne_self, reduceCtorEq, false_and, and_false, if_false, if_true, ite_true, ite_false, ite_self, Nat.succ_ne_zero, Nat.add_one_ne_zero, not_false_eq_true, not_true_eq_false, Nat.one_ne_zero, Nat.zero_ne_one]
          exact j4
        · rw [show (6 : Int32) = nI 6 from rfl, nIle (by omega) (by omega)] at z
          rw [j1]
          refine ⟨hk0, hk0, hk0, wc rfl, cm_byteAt (h.lx hl) (by show st + i ≤ 1000; omega) ⟨hk0, fun T eT => ?_⟩⟩
          subst eT
          refine ⟨hk0, hk0, fun T eT => ?_⟩
          subst eT
          have ej : gI (uI Sj m 11 (10 * gI Sj m 11 + byN tp n (st + i) - 48)) m 8 = nI (st + i) := by simp only [gI_uI, gL_uL, gR_uR, gI_uL, gI_uR, gL_uI, gL_uR, gR_uI, gR_uL, true_and, and_true, Nat.add_right_cancel_iff, Nat.add_left_cancel_iff, Nat.reduceEqDiff, Nat.left_eq_add, Nat.right_eq_add, Nat.add_eq_left, Nat.add_eq_right, Nat.reduceAdd, Nat.succ_ne_self, reduceCtorEq, false_and, and_false, if_false, if_true, ite_true, ite_false, ite_self, Nat.succ_ne_zero, Nat.add_one_ne_zero, not_false_eq_true, not_true_eq_false, Nat.one_ne_zero, Nat.zero_ne_one]; exact j1
          rw [ej, nI_1, nI_1, j4]
          refine ih (i + 1) _ _ (by omega) ⟨by simp only [gI_uI, gL_uL, gR_uR, gI_uL, gI_uR, gL_uI, gL_uR, gR_uI, gR_uL, true_and, and_true, Nat.add_right_cancel_iff, Nat.add_left_cancel_iff, Nat.reduceEqDiff, Nat.left_eq_add, Nat.right_eq_add, Nat.add_eq_left, Nat.add_eq_right, Nat.reduceAdd, Nat.succ_ne_self, reduceCtorEq, false_and, and_false, if_false, if_true, ite_true, ite_false, ite_self, Nat.succ_ne_zero, Nat.add_one_ne_zero, not_false_eq_true, not_true_eq_false, Nat.one_ne_zero, Nat.zero_ne_one]; rfl, by simp only [gI_uI, gL_uL, gR_uR, gI_uL, gI_uR, gL_uI, gL_uR, gR_uI, gR_uL, true_and, and_true, Nat.add_right_cancel_iff, Nat.add_left_cancel_iff, Nat.reduceEqDiff, Nat.left_eq_add, Nat.right_eq_add, Nat.add_eq_left, Nat.add_eq_right, Nat.reduceAdd, Nat.succ_ne_self, reduceCtorEq, false_and, and_false, if_false, if_true, ite_true, ite_false, ite_self, Nat.succ_ne_zero, Nat.add_one_ne_zero, not_false_eq_true, not_true_eq_false, Nat.one_ne_zero, Nat.zero_ne_one]; exact j2, by simp only [gI_uI, gL_uL, gR_uR, gI_uL, gI_uR, gL_uI, gL_uR, gR_uI, gR_uL, true_and, and_true, Nat.add_right_cancel_iff, Nat.add_left_cancel_iff, Nat.reduceEqDiff, Nat.left_eq_add, Nat.right_eq_add, Nat.add_eq_left, Nat.add_eq_right, Nat.reduceAdd, Nat.succ_ne_self, reduceCtorEq, false_and, and_false, if_false, if_true, ite_true, ite_false, ite_self, Nat.succ_ne_zero, Nat.add_one_ne_zero, not_false_eq_true, not_true_eq_false, Nat.one_ne_zero, Nat.zero_ne_one]; exact j3, ?_, j5⟩ ((hl.uI (by omega)).uI (by omega)) he
          show gI _ m 11 = nbG tp n st (i + 1)
          rw [nbG, if_neg z]
          simp only [gI_uI, gL_uL, gR_uR, gI_uL, gI_uR, gL_uI, gL_uR, gR_uI, gR_uL, true_and, and_true, Nat.add_right_cancel_iff, Nat.add_left_cancel_iff, Nat.reduceEqDiff, Nat.left_eq_add, Nat.right_eq_add, Nat.add_eq_left, Nat.add_eq_right, Nat.reduceAdd, Nat.succ_ne_self, reduceCtorEq, false_and, and_false, if_false, if_true, ite_true, ite_false, ite_self, Nat.succ_ne_zero, Nat.add_one_ne_zero, not_false_eq_true, not_true_eq_false, Nat.one_ne_zero, Nat.zero_ne_one]
  -- at a place that holds no blank
  have main : ∀ st (Sj : qS) (w1 w2 : Option Value), st ≤ n → TkAt Sj m (st, x.2.1, x.2.2.1, x.2.2.2.1, x.2.2.2.2) → Lx S Sj m → ¬ byN tp n st = 32 → st = skp tp n (n - x.1) x.1 → J 9 [some (.ref m), w1, w2] [] A Sj := by
    intro st Sj w1 w2 hst hj hl hb he
    obtain ⟨j1, j2, j3, j4, j5⟩ := hj
    have hf' : ∀ S', TkAt S' m (tokAt tp n st x.2.2.2.1 x.2.2.2.2) → Lx S S' m → f S' := by
      intro S' ht hl'
      refine hf S' ?_ hl'
      rw [tokN, ← he]
      exact ht
    refine sX11_goesOn_9 hJ ?_
    rw [j1]
    refine ⟨hk0, hk0, wc rfl, cm_byteAt (h.lx hl) (by show st ≤ 1000; omega) ⟨fun _ => ⟨hk0, hk0, fun T eT => ?_⟩, fun c => absurd c hb⟩⟩
    subst eT
    refine ⟨hk0, fun T eT => ?_⟩
    subst eT
    have hl2 : Lx S (uI (uI Sj m 10 (gI Sj m 8)) m 9 0) m := (hl.uI (by omega)).uI (by omega)
    have e8 : gI (uI (uI Sj m 10 (gI Sj m 8)) m 9 0) m 8 = nI st := by simp only [gI_uI, gL_uL, gR_uR, gI_uL, gI_uR, gL_uI, gL_uR, gR_uI, gR_uL, true_and, and_true, Nat.add_right_cancel_iff, Nat.add_left_cancel_iff, Nat.reduceEqDiff, Nat.left_eq_add, Nat.right_eq_add, Nat.add_eq_left, Nat.add_eq_right, Nat.reduceAdd, Nat.succ_ne_self, reduceCtorEq, false_and, and_false, if_false, if_true, ite_true, ite_false, ite_self, Nat.succ_ne_zero, Nat.add_one_ne_zero, not_false_eq_true, not_true_eq_false, Nat.one_ne_zero, Nat.zero_ne_one]; exact j1
    have e10 : gI (uI (uI Sj m 10 (gI Sj m 8)) m 9 0) m 10 = nI st := by simp only [gI_uI, gL_uL, gR_uR, gI_uL, gI_uR, gL_uI, gL_uR, gR_uI, gR_uL, true_and, and_true, Nat.add_right_cancel_iff, Nat.add_left_cancel_iff, Nat.reduceEqDiff, Nat.left_eq_add, Nat.right_eq_add, Nat.add_eq_left, Nat.add_eq_right, Nat.reduceAdd, Nat.succ_ne_self, reduceCtorEq, false_and, and_false, if_false, if_true, ite_true, ite_false, ite_self, Nat.succ_ne_zero, Nat.add_one_ne_zero, not_false_eq_true, not_true_eq_false, Nat.one_ne_zero, Nat.zero_ne_one]; exact j1
    have e9 : gI (uI (uI Sj m 10 (gI Sj m 8)) m 9 0) m 9 = 0 := by simp only [gI_uI, gL_uL, gR_uR, gI_uL, gI_uR, gL_uI, gL_uR, gR_uI, gR_uL, true_and, and_true, Nat.add_right_cancel_iff, Nat.add_left_cancel_iff, Nat.reduceEqDiff, Nat.left_eq_add, Nat.right_eq_add, Nat.add_eq_left, Nat.add_eq_right, Nat.reduceAdd, Nat.succ_ne_self, reduceCtorEq, false_and, and_false, if_false, if_true, ite_true, ite_false, ite_self, Nat.succ_ne_zero, Nat.add_one_ne_zero, not_false_eq_true, not_true_eq_false, Nat.one_ne_zero, Nat.zero_ne_one]
    have e11 : gI (uI (uI Sj m 10 (gI Sj m 8)) m 9 0) m 11 = x.2.2.2.1 := by simp only [gI_uI, gL_uL, gR_uR, gI_uL, gI_uR, gL_uI, gL_uR, gR_uI, gR_uL, true_and, and_true, Nat.add_right_cancel_iff, Nat.add_left_cancel_iff, Nat.reduceEqDiff, Nat.left_eq_add, Nat.right_eq_add, Nat.add_eq_left, Nat.add_eq_right, Nat.reduceAdd, Nat.succ_ne_self, reduceCtorEq, false_and, and_false, if_false, if_true, ite_true, ite_false, ite_self, Nat.succ_ne_zero, Nat.add_one_ne_zero, not_false_eq_true, not_true_eq_false, Nat.one_ne_zero, Nat.zero_ne_one]; exact j4
    have e14 : gL (uI (uI Sj m 10 (gI Sj m 8)) m 9 0) m 14 = x.2.2.2.2 := j5
    rw [e8]
    generalize uI (uI Sj m 10 (gI Sj m 8)) m 9 0 = S4 at hl2 e8 e9 e10 e11 e14
    refine ⟨hk0, hk0, wc rfl, cm_byteAt (h.lx hl2) (by show st ≤ 1000; omega) ⟨fun c1 => ⟨wc rfl, cm_isLetter ?_⟩, fun c1 => ⟨hk0, fun T eT => ?_⟩⟩⟩
    · refine q_eqb (fun c2 => ⟨wc rfl, cm_isDigit (q_eqb (fun c3 => ⟨fun c4 => kV_i ?_, fun c4 => ⟨hk0, fun T eT => ?_⟩⟩) (fun c3 => ⟨hk0, fun T eT => ?_⟩))⟩) (fun c2 => ⟨hk0, fun T eT => ?_⟩)
      · refine hf' S4 ?_ hl2
        rw [tokAt, if_neg c1, if_neg (by rw [c2]; decide), if_neg (by rw [c3]; decide), if_neg c4]
        exact ⟨e8, e9, e10, e11, e14⟩
      · subst eT
        refine ⟨hk0, hk0, fun T eT => ?_⟩
        subst eT
        have e8' : gI (uI S4 m 9 4) m 8 = nI st := by simp only [gI_uI, gL_uL, gR_uR, gI_uL, gI_uR, gL_uI, gL_uR, gR_uI, gR_uL, true_and, and_true, Nat.add_right_cancel_iff, Nat.add_left_cancel_iff, Nat.reduceEqDiff, Nat.left_eq_add, Nat.right_eq_add, Nat.add_eq_left, Nat.add_eq_right, Nat.reduceAdd, Nat.succ_ne_self, reduceCtorEq, false_and, and_false, if_false, if_true, ite_true, ite_false, ite_self, Nat.succ_ne_zero, Nat.add_one_ne_zero, not_false_eq_true, not_true_eq_false, Nat.one_ne_zero, Nat.zero_ne_one]; exact e8
        rw [e8', nI_1]
        refine kV_i (hf' _ ?_ ((hl2.uI (by omega)).uI (by omega)))
        rw [tokAt, if_neg c1, if_neg (by rw [c2]; decide), if_neg (by rw [c3]; decide), if_pos c4]
        exact ⟨by simp only [gI_uI, gL_uL, gR_uR, gI_uL, gI_uR, gL_uI, gL_uR, gR_uI, gR_uL, true_and, and_true, Nat.add_right_cancel_iff, Nat.add_left_cancel_iff, Nat.reduceEqDiff, Nat.left_eq_add, Nat.right_eq_add, Nat.add_eq_left, Nat.add_eq_right, Nat.reduceAdd, Nat.succ_ne_self, reduceCtorEq, false_and, and_false, if_false, if_true, ite_true, ite_false, ite_self, Nat.succ_ne_zero, Nat.add_one_ne_zero, not_false_eq_true, not_true_eq_false, Nat.one_ne_zero, Nat.zero_ne_one], by simp only [gI_uI, gL_uL, gR_uR, gI_uL, gI_uR, gL_uI, gL_uR, gR_uI, gR_uL, true_and, and_true, Nat.add_right_cancel_iff, Nat.add_left_cancel_iff, Nat.reduceEqDiff, Nat.left_eq_add, Nat.right_eq_add, Nat.add_eq_left, Nat.add_eq_right, Nat.reduceAdd, Nat.succ_ne_self, reduceCtorEq, false_and, and_false, if_false, if_true, ite_true, ite_false, ite_self, Nat.succ_ne_zero, Nat.add_one_ne_zero, not_false_eq_true, not_true_eq_false, Nat.one_ne_zero, Nat.zero_ne_one], by simp only [gI_uI, gL_uL, gR_uR, gI_uL, gI_uR, gL_uI, gL_uR, gR_uI, gR_uL, true_and, and_true, Nat.add_right_cancel_iff, Nat.add_left_cancel_iff, Nat.reduceEqDiff, Nat.left_eq_add, Nat.right_eq_add, Nat.add_eq_left, Nat.add_eq_right, Nat.reduceAdd, Nat.succ_ne_self, reduceCtorEq, false_and, and_false, if_false, if_true, ite_true, ite_false, ite_self, Nat.succ_ne_zero, Nat.add_one_ne_zero, not_false_eq_true, not_true_eq_false, Nat.one_ne_zero, Nat.zero_ne_one]; exact e10, by simp only [gI_uI, gL_uL, gR_uR, gI_uL, gI_uR, gL_uI, gL_uR, gR_uI, gR_uL, true_and, and_true, Nat.add_right_cancel_iff, Nat.add_left_cancel_iff, Nat.reduceEqDiff, Nat.left_eq_add, Nat.right_eq_add, Nat.add_eq_left, Nat.add_eq_right, Nat.reduceAdd, Nat.succ_ne_self, reduceCtorEq, false_and, and_false, if_false, if_true, ite_true, ite_false, ite_self, Nat.succ_ne_zero, Nat.add_one_ne_zero, not_false_eq_true, not_true_eq_false, Nat.one_ne_zero, Nat.zero_ne_one]; exact e11, e14⟩
      · subst eT
        exact digits st hst c1 c2 c3 hf' (n - st) 0 _ _ (by omega) ⟨by simp only [gI_uI, gL_uL, gR_uR, gI_uL, gI_uR, gL_uI, gL_uR, gR_uI, gR_uL, true_and, and_true, Nat.add_right_cancel_iff, Nat.add_left_cancel_iff, Nat.reduceEqDiff, Nat.left_eq_add, Nat.right_eq_add, Nat.add_eq_left, Nat.add_eq_right, Nat.reduceAdd, Nat.succ_ne_self, reduceCtorEq, false_and, and_false, if_false, if_true, ite_true, ite_false, ite_self, Nat.succ_ne_zero, Nat.add_one_ne_zero, not_false_eq_true, not_true_eq_false, Nat.one_ne_zero, Nat.zero_ne_one]; exact e8, by simp only [gI_uI, gL_uL, gR_uR, gI_uL, gI_uR, gL_uI, gL_uR, gR_uI, gR_uL, true_and, and_true, Nat.add_right_cancel_iff, Nat.add_left_cancel_iff, Nat.reduceEqDiff, Nat.left_eq_add, Nat.right_eq_add, Nat.add_eq_left, Nat.add_eq_right, Nat.reduceAdd, Nat.succ_ne_self, reduceCtorEq, false_and, and_false, if_false, if_true, ite_true, ite_false, ite_self, Nat.succ_ne_zero, Nat.add_one_ne_zero, not_false_eq_true, not_true_eq_false, Nat.one_ne_zero, Nat.zero_ne_one]; exact e9, by simp only [gI_uI, gL_uL, gR_uR, gI_uL, gI_uR, gL_uI, gL_uR, gR_uI, gR_uL, true_and, and_true, Nat.add_right_cancel_iff, Nat.add_left_cancel_iff, Nat.reduceEqDiff, Nat.left_eq_add, Nat.right_eq_add, Nat.add_eq_left, Nat.add_eq_right, Nat.reduceAdd, Nat.succ_ne_self, reduceCtorEq, false_and, and_false, if_false, if_true, ite_true, ite_false, ite_self, Nat.succ_ne_zero, Nat.add_one_ne_zero, not_false_eq_true, not_true_eq_false, Nat.one_ne_zero, Nat.zero_ne_one]; exact e10, by simp only [gI_uI, gL_uL, gR_uR, gI_uL, gI_uR, gL_uI, gL_uR, gR_uI, gR_uL, true_and, and_true, Nat.add_right_cancel_iff, Nat.add_left_cancel_iff, Nat.reduceEqDiff, Nat.left_eq_add, Nat.right_eq_add, Nat.add_eq_left, Nat.add_eq_right, Nat.reduceAdd, Nat.succ_ne_self, reduceCtorEq, false_and, and_false, if_false, if_true, ite_true, ite_false, ite_self, Nat.succ_ne_zero, Nat.add_one_ne_zero, not_false_eq_true, not_true_eq_false, Nat.one_ne_zero, Nat.zero_ne_one]; rfl, e14⟩ (hl2.uI (by omega)) rfl
      · subst eT
        exact letters st hst c1 c2 hf' (n - st) 0 _ _ (by omega) ⟨e8, e9, e10, e11, by simp only [gI_uI, gL_uL, gR_uR, gI_uL, gI_uR, gL_uI, gL_uR, gR_uI, gR_uL, true_and, and_true, Nat.add_right_cancel_iff, Nat.add_left_cancel_iff, Nat.reduceEqDiff, Nat.left_eq_add, Nat.right_eq_add, Nat.add_eq_left, Nat.add_eq_right, Nat.reduceAdd, Nat.succ_ne_self, reduceCtorEq, false_and, and_false, if_false, if_true, ite_true, ite_false, ite_self, Nat.succ_ne_zero, Nat.add_one_ne_zero, not_false_eq_true, not_true_eq_false, Nat.one_ne_zero, Nat.zero_ne_one]; rfl⟩ hl2.uL rfl
    · subst eT
      refine kV_i (hf' _ ?_ (hl2.uI (by omega)))
      rw [tokAt, if_pos c1]
      exact ⟨by simp only [gI_uI, gL_uL, gR_uR, gI_uL, gI_uR, gL_uI, gL_uR, gR_uI, gR_uL, true_and, and_true, Nat.add_right_cancel_iff, Nat.add_left_cancel_iff, Nat.reduceEqDiff, Nat.left_eq_add, Nat.right_eq_add, Nat.add_eq_left, Nat.add_eq_right, Nat.reduceAdd, Nat.succ_ne_self, reduceCtorEq, false_and, and_false, if_false, if_true, ite_true, ite_false, ite_self, Nat.succ_ne_zero, Nat.add_one_ne_zero, not_false_eq_true, not_true_eq_false, Nat.one_ne_zero, Nat.zero_ne_one]; exact e8, by simp only [gI_uI, gL_uL, gR_uR, gI_uL, gI_uR, gL_uI, gL_uR, gR_uI, gR_uL, true_and, and_true, Nat.add_right_cancel_iff, Nat.add_left_cancel_iff, Nat.reduceEqDiff, Nat.left_eq_add, Nat.right_eq_add, Nat.add_eq_left, Nat.add_eq_right, Nat.reduceAdd, Nat.succ_ne_self, reduceCtorEq, false_and, and_false, if_false, if_true, ite_true, ite_false, ite_self, Nat.succ_ne_zero, Nat.add_one_ne_zero, not_false_eq_true, not_true_eq_false, Nat.one_ne_zero, Nat.zero_ne_one], by simp only [gI_uI, gL_uL, gR_uR, gI_uL, gI_uR, gL_uI, gL_uR, gR_uI, gR_uL, true_and, and_true, Nat.add_right_cancel_iff, Nat.add_left_cancel_iff, Nat.reduceEqDiff, Nat.left_eq_add, Nat.right_eq_add, Nat.add_eq_left, Nat.add_eq_right, Nat.reduceAdd, Nat.succ_ne_self, reduceCtorEq, false_and, and_false, if_false, if_true, ite_true, ite_false, ite_self, Nat.succ_ne_zero, Nat.add_one_ne_zero, not_false_eq_true, not_true_eq_false, Nat.one_ne_zero, Nat.zero_ne_one]; exact e10, by simp only [gI_uI, gL_uL, gR_uR, gI_uL, gI_uR, gL_uI, gL_uR, gR_uI, gR_uL, true_and, and_true, Nat.add_right_cancel_iff, Nat.add_left_cancel_iff, Nat.reduceEqDiff, Nat.left_eq_add, Nat.right_eq_add, Nat.add_eq_left, Nat.add_eq_right, Nat.reduceAdd, Nat.succ_ne_self, reduceCtorEq, false_and, and_false, if_false, if_true, ite_true, ite_false, ite_self, Nat.succ_ne_zero, Nat.add_one_ne_zero, not_false_eq_true, not_true_eq_false, Nat.one_ne_zero, Nat.zero_ne_one]; exact e11, e14⟩
  have blanks : ∀ g k (Sj : qS) (w1 w2 : Option Value), k + g = n → TkAt Sj m (k, x.2.1, x.2.2.1, x.2.2.2.1, x.2.2.2.2) → Lx S Sj m → skp tp n g k = skp tp n (n - x.1) x.1 → J 9 [some (.ref m), w1, w2] [] A Sj := by
    intro g
    induction g with
    | zero =>
      intro k Sj w1 w2 hk hj hl he
      exact main k Sj w1 w2 (by omega) hj hl (by rw [show k = n by omega, byN_end]; decide) (by rw [← he]; rfl)
    | succ g ih =>
      intro k Sj w1 w2 hk hj hl he
      by_cases hb : byN tp n k = 32
      · obtain ⟨j1, j2, j3, j4, j5⟩ := hj
        rw [skp, if_pos hb] at he
        refine sX11_goesOn_9 hJ ?_
        rw [j1]
        refine ⟨hk0, hk0, wc rfl, cm_byteAt (h.lx hl) (by show k ≤ 1000; omega) ⟨fun c => absurd hb c, fun _ => ⟨hk0, hk0, fun T eT => ?_⟩⟩⟩
        subst eT
        rw [j1, nI_1]
        exact ih (k + 1) _ _ _ (by omega) ⟨by simp only [gI_uI, gL_uL, gR_uR, gI_uL, gI_uR, gL_uI, gL_uR, gR_uI, gR_uL, true_and, and_true, Nat.add_right_cancel_iff, Nat.add_left_cancel_iff, Nat.reduceEqDiff, Nat.left_eq_add, Nat.right_eq_add, Nat.add_eq_left, Nat.add_eq_right, Nat.reduceAdd, Nat.succ_ne_self, reduceCtorEq, false_and, and_false, if_false, if_true, ite_true, ite_false, ite_self, Nat.succ_ne_zero, Nat.add_one_ne_zero, not_false_eq_true, not_true_eq_false, Nat.one_ne_zero, Nat.zero_ne_one], by simp only [gI_uI, gL_uL, gR_uR, gI_uL, gI_uR, gL_uI, gL_uR, gR_uI, gR_uL, true_and, and_true, Nat.add_right_cancel_iff, Nat.add_left_cancel_iff, Nat.reduceEqDiff, Nat.left_eq_add, Nat.right_eq_add, Nat.add_eq_left, Nat.add_eq_right, Nat.reduceAdd, Nat.succ_ne_self, reduceCtorEq, false_and, and_false, if_false, if_true, ite_true, ite_false, ite_self, Nat.succ_ne_zero, Nat.add_one_ne_zero, not_false_eq_true, not_true_eq_false, Nat.one_ne_zero, Nat.zero_ne_one]; exact j2, by simp only [gI_uI, gL_uL, gR_uR, gI_uL, gI_uR, gL_uI, gL_uR, gR_uI, gR_uL, true_and, and_true, Nat.add_right_cancel_iff, Nat.add_left_cancel_iff, Nat.reduceEqDiff, Nat.left_eq_add, Nat.right_eq_add, Nat.add_eq_left, Nat.add_eq_right, Nat.reduceAdd, Nat.succ_ne_self, reduceCtorEq, false_and, and_false, if_false, if_true, ite_true, ite_false, ite_self, Nat.succ_ne_zero, Nat.add_one_ne_zero, not_false_eq_true, not_true_eq_false, Nat.one_ne_zero, Nat.zero_ne_one]; exact j3, by simp only [gI_uI, gL_uL, gR_uR, gI_uL, gI_uR, gL_uI, gL_uR, gR_uI, gR_uL, true_and, and_true, Nat.add_right_cancel_iff, Nat.add_left_cancel_iff, Nat.reduceEqDiff, Nat.left_eq_add, Nat.right_eq_add, Nat.add_eq_left, Nat.add_eq_right, Nat.reduceAdd, Nat.succ_ne_self, reduceCtorEq, false_and, and_false, if_false, if_true, ite_true, ite_false, ite_self, Nat.succ_ne_zero, Nat.add_one_ne_zero, not_false_eq_true, not_true_eq_false, Nat.one_ne_zero, Nat.zero_ne_one]; exact j4, j5⟩ (hl.uI (by omega)) he
      · exact main k Sj w1 w2 (by omega) hj hl hb (by rw [← he, skp_z hb])
  refine sX11_goesOn_0 hJ ⟨hk0, fun _ => ?_, fun c => absurd (x2.symm.trans c) ho⟩
  exact blanks (n - x.1) x.1 S _ _ (by omega) ⟨x1, x2, x3, x4, x5⟩ Lx.rf rfl
end
