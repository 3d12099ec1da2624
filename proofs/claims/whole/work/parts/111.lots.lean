/-! Lots, on: the next lot by a rule, removing, parting -/
theorem LoP.comp {S S' : qS} {a : Nat} {π σ : Nat → Nat} (h : LoP S a π) (hr : ∀ k, k < 40 → gR S' (a + 1) k = gR S (a + 1) (σ k)) (h1 : ∀ k, k < 40 → σ k < 40) (h2 : ∀ i j, i < 40 → j < 40 → σ i = σ j → i = j) : LoP S' a (fun k => π (σ k)) :=
  ⟨fun i hi => ⟨(h.1 _ (h1 i hi)).1, by rw [hr i hi]; exact (h.1 _ (h1 i hi)).2⟩, fun i j hi hj e => h2 i j hi hj (h.2 _ _ (h1 i hi) (h1 j hj) e)⟩
/-- sh shares of lot t become a lot of their own, right ahead of the rest -/
def partOwn (l : Lot) (sh : Int32) : Lot := (sh, l.2.1 * sh.toInt64 / l.1.toInt64, l.2.2)
def partRest (l : Lot) (sh : Int32) : Lot := (l.1 - sh, l.2.1 - l.2.1 * sh.toInt64 / l.1.toInt64, l.2.2)
def partL (L : List Lot) (t : Nat) (sh : Int32) : List Lot := L.take t ++ partOwn (lt L t) sh :: partRest (lt L t) sh :: L.drop (t + 1)
theorem partL_len {L : List Lot} {t : Nat} {sh : Int32} (h : t < L.length) : (partL L t sh).length = L.length + 1 := by
  simp [partL]; omega
theorem lt_part {L : List Lot} {t k : Nat} {sh : Int32} (h : t < L.length) : lt (partL L t sh) k = if k < t then lt L k else if k = t then partOwn (lt L t) sh else if k = t + 1 then partRest (lt L t) sh else lt L (k - 1) := by
  unfold partL
  generalize partOwn (lt L t) sh = x
  generalize partRest (lt L t) sh = y
  unfold lt
  rw [List.getD_eq_getElem?_getD, List.getD_eq_getElem?_getD, List.getD_eq_getElem?_getD]
  by_cases h1 : k < t
  · rw [if_pos h1, List.getElem?_append_left (by simp; omega), List.getElem?_take_of_lt h1]
  · rw [if_neg h1, List.getElem?_append_right (by simp; omega)]
    have e : (L.take t).length = t := by simp; omega
    rw [e]
    by_cases h2 : k = t
    · subst h2; simp
    · rw [if_neg h2]
      by_cases h3 : k = t + 1
      · subst h3; rw [if_pos rfl, show t + 1 - t = 1 by omega]; simp
      · rw [if_neg h3]
        obtain ⟨j, hj⟩ : ∃ j, k - t = j + 2 := ⟨k - t - 2, by omega⟩
        rw [hj]
        simp only [List.getElem?_cons_succ, List.getElem?_drop]
        congr 2
        rw [show t + 1 + j = k - 1 by omega]
section
variable {d : Nat} {A : qA} {S : qS} {a : Nat} {L : List Lot}
set_option maxRecDepth 20000 in
theorem ct_nextBy {rule : Int32} {f : Int32 → qS → Prop} (h : LoAt A S a L) (hf : (L.length = 0 → f (-1) S) ∧ (0 < L.length → f (nI (pick L rule)) S)) : Run (d + 1) 28 [.ref a, .int rule] A S (kI A f) := by
  refine Run.i (C := mX4_nextBy) rfl rfl rfl fun J hJ => ?_
  obtain ⟨⟨l0, l1, l2⟩, π, h1, h2, h3, ⟨h4, h5⟩, h6⟩ := h
  have n0 : (nI L.length = 0) = (L.length = 0) := by rw [show (0 : Int32) = nI 0 from rfl, nIeq (by omega) (by omega)]
  have loop : ∀ n i (w4 w5 : Option Value), i + 1 + n = L.length → ¬ rule = 0 → ¬ rule = 1 → J 40 [some (.ref a), some (.int rule), some (.int (nI (bst L rule i))), some (.int (nI (i + 1))), w4, w5] [] A S := by
    intro n
    induction n with
    | zero =>
      intro i w4 w5 hi r0 r1
      refine sX4_nextBy_40 hJ ?_
      simp only [l0, h2, nIle (show L.length ≤ 100000 by omega) (show i + 1 ≤ 100000 by omega), Option.some.injEq, Prod.mk.injEq, exists_eq_left', exists_eq_left, true_and, and_true, and_self, true_or, or_true, forall_const, exists_const, exists_and_left, wcat, Nat.zero_le, Nat.reduceLeDiff, Int32.lt_irrefl, not_false_eq_true, Nat.zero_add, forall_eq]
      refine ⟨fun _ => kI_i ?_, fun c => absurd (by omega) c⟩
      have := hf.2 (by omega)
      unfold pick at this
      rwa [if_neg r0, if_neg r1, show L.length - 1 = i by omega] at this
    | succ n ih =>
      intro i w4 w5 hi r0 r1
      have hb := bst_le L rule i
      refine sX4_nextBy_40 hJ ?_
      simp only [l0, l1, h1, h2, (h4 (i + 1) (by omega)).2, l2 _ (h4 (i + 1) (by omega)).1, (h4 (bst L rule i) (by omega)).2, l2 _ (h4 (bst L rule i) (by omega)).1, nIle (show L.length ≤ 100000 by omega) (show i + 1 ≤ 100000 by omega), cl_n (show i + 1 ≤ 100000 by omega), cl_n (show bst L rule i ≤ 100000 by omega), (h6 (i + 1) (by omega)).1, (h6 (i + 1) (by omega)).2.1, (h6 (bst L rule i) (by omega)).1, (h6 (bst L rule i) (by omega)).2.1, nI_1, lgc_ge, lgc_le, vp_n (show i + 1 < 40 by omega) (show 40 ≤ 100000 by omega), vp_n (show bst L rule i < 40 by omega) (show 40 ≤ 100000 by omega), Option.some.injEq, Prod.mk.injEq, exists_eq_left', exists_eq_left, true_and, and_true, and_self, true_or, or_true, forall_const, exists_const, exists_and_left, wcat, Nat.zero_le, Nat.reduceLeDiff, Int32.lt_irrefl, not_false_eq_true, Nat.zero_add, forall_eq]
      have go : ∀ (b : Nat) (v w : Option Value), b = bst L rule (i + 1) → J 40 [some (.ref a), some (.int rule), some (.int (nI b)), some (.int (nI (i + 1 + 1))), v, w] [] A S := by
        intro b v w e
        subst e
        exact ih (i + 1) v w (by omega) r0 r1
      refine ⟨fun c => absurd c (by omega), fun _ => ⟨fun r2 => ⟨fun c => ?_, fun c => ?_⟩, fun r2 => ⟨fun c => ?_, fun c => ?_⟩⟩⟩
      · exact go _ _ _ (by simp only [bst, ahead, if_neg r2]; rw [if_neg (by simpa using c)])
      · exact go _ _ _ (by simp only [bst, ahead, if_neg r2]; rw [if_pos (by simpa using c)])
      · exact go _ _ _ (by simp only [bst, ahead, if_pos r2]; rw [if_neg (by simpa using c)])
      · exact go _ _ _ (by simp only [bst, ahead, if_pos r2]; rw [if_pos (by simpa using c)])
  refine sX4_nextBy_0 hJ ?_
  simp only [l0, h2, n0, Option.some.injEq, Prod.mk.injEq, exists_eq_left', exists_eq_left, true_and, and_true, and_self, true_or, or_true, forall_const, exists_const, exists_and_left, wcat, Nat.zero_le, Nat.reduceLeDiff, Int32.lt_irrefl, not_false_eq_true, Nat.zero_add, forall_eq]
  refine ⟨fun c => ⟨fun c' => absurd c c', fun _ => kI_i (hf.1 c)⟩, fun c => ⟨fun r0 => ⟨fun r1 => ?_, fun r1 => kI_i ?_⟩, fun r0 => ⟨fun _ => kI_i ?_, fun c' => absurd c' c⟩⟩⟩
  · exact loop (L.length - 1) 0 _ _ (by omega) r0 r1
  · have := hf.2 (by omega)
    unfold pick at this
    rw [if_neg r0, if_pos r1] at this
    rwa [show L.length = (L.length - 1) + 1 by omega, nI_pred]
  · have := hf.2 (by omega)
    unfold pick at this
    rwa [if_pos r0] at this
set_option maxRecDepth 20000 in
theorem ct_lotsRemove {t : Nat} {f : qS → Prop} (h : LoAt A S a L) (ht : t < L.length) (hf : ∀ S', LoAt A S' a (L.eraseIdx t) → Fr S S' a (a + 42) → f S') : Run (d + 1) 27 [.ref a, .int (nI t)] A S (kV A f) := by
  refine Run.i (C := mX4_remove) rfl rfl rfl fun J hJ => ?_
  obtain ⟨⟨l0, l1, l2⟩, π, h1, h2, h3, hP, h6⟩ := h
  have hP' := hP
  obtain ⟨h4, h5⟩ := hP
  have loop : ∀ n j (Sj : qS) (w : Option Value), t ≤ j → j + 1 + n = L.length → (∀ b k, gI Sj b k = gI S b k) → (∀ b k, gL Sj b k = gL S b k) → (∀ b k, gR Sj b k = if b = a + 1 ∧ t ≤ k ∧ k < j then gR S b (k + 1) else gR S b k) → J 22 [some (.ref a), w, some (.ref (a + 2 + π t)), some (.int (nI j))] [] A Sj := by
    intro n
    induction n with
    | zero =>
      intro j Sj w hj hn eI eL eR
      refine sX4_remove_22 hJ ?_
      have q0 : gR Sj a 0 = some (a + 1) := by rw [eR, if_neg (by omega)]; exact h1
      have c0 : nI L.length - 1 = nI (L.length - 1) := by rw [show L.length = (L.length - 1) + 1 by omega, nI_pred, Nat.add_sub_cancel]
      simp only [l0, l1, q0, eI a 1, h2, nI_1, nIle (show L.length ≤ 100000 by omega) (show j + 1 ≤ 100000 by omega), c0, cl_n (show L.length - 1 ≤ 100000 by omega), vp_n (show L.length - 1 < 40 by omega) (show 40 ≤ 100000 by omega), l2 _ (h4 t (by omega)).1, Option.some.injEq, Prod.mk.injEq, exists_eq_left', exists_eq_left, true_and, and_true, and_self, true_or, or_true, forall_const, exists_const, exists_and_left, wcat, Nat.zero_le, Nat.reduceLeDiff, Int32.lt_irrefl, not_false_eq_true, Nat.zero_add, forall_eq, gI_uI, gL_uL, gR_uR, gI_uL, gI_uR, gL_uI, gL_uR, gR_uI, gR_uL, true_and, and_true, Nat.add_right_cancel_iff, Nat.add_left_cancel_iff, Nat.reduceEqDiff, Nat.left_eq_add, Nat.right_eq_add, Nat.add_eq_left, Nat.add_eq_right, Nat.reduceAdd, Nat.succ_ne_self, reduceCtorEq, false_and, and_false, if_false, if_true, ite_true, ite_false, ite_self, Nat.succ_ne_zero, Nat.add_one_ne_zero, not_false_eq_true, not_true_eq_false, Nat.one_ne_zero, Nat.zero_ne_one]
      refine ⟨fun _ => kV_i (hf _ ⟨⟨l0, l1, l2⟩, fun k => π (if k = L.length - 1 then t else if t ≤ k ∧ k < L.length - 1 then k + 1 else k), ?_, ?_, ?_, LoP.comp hP' (σ := fun k => if k = L.length - 1 then t else if t ≤ k ∧ k < L.length - 1 then k + 1 else k) ?_ ?_ ?_, fun i hi => ?_⟩ ?_), fun c => absurd (by omega) c⟩
      · simp only [gI_uI, gL_uL, gR_uR, gI_uL, gI_uR, gL_uI, gL_uR, gR_uI, gR_uL, true_and, and_true, Nat.add_right_cancel_iff, Nat.add_left_cancel_iff, Nat.reduceEqDiff, Nat.left_eq_add, Nat.right_eq_add, Nat.add_eq_left, Nat.add_eq_right, Nat.reduceAdd, Nat.succ_ne_self, reduceCtorEq, false_and, and_false, if_false, if_true, ite_true, ite_false, ite_self, Nat.succ_ne_zero, Nat.add_one_ne_zero, not_false_eq_true, not_true_eq_false, Nat.one_ne_zero, Nat.zero_ne_one, q0]
      · simp only [gI_uI, gL_uL, gR_uR, gI_uL, gI_uR, gL_uI, gL_uR, gR_uI, gR_uL, true_and, and_true, Nat.add_right_cancel_iff, Nat.add_left_cancel_iff, Nat.reduceEqDiff, Nat.left_eq_add, Nat.right_eq_add, Nat.add_eq_left, Nat.add_eq_right, Nat.reduceAdd, Nat.succ_ne_self, reduceCtorEq, false_and, and_false, if_false, if_true, ite_true, ite_false, ite_self, Nat.succ_ne_zero, Nat.add_one_ne_zero, not_false_eq_true, not_true_eq_false, Nat.one_ne_zero, Nat.zero_ne_one, List.length_eraseIdx_of_lt ht]
      · rw [List.length_eraseIdx_of_lt ht]; omega
      · intro k hk
        simp only [gI_uI, gL_uL, gR_uR, gI_uL, gI_uR, gL_uI, gL_uR, gR_uI, gR_uL, true_and, and_true, Nat.add_right_cancel_iff, Nat.add_left_cancel_iff, Nat.reduceEqDiff, Nat.left_eq_add, Nat.right_eq_add, Nat.add_eq_left, Nat.add_eq_right, Nat.reduceAdd, Nat.succ_ne_self, reduceCtorEq, false_and, and_false, if_false, if_true, ite_true, ite_false, ite_self, Nat.succ_ne_zero, Nat.add_one_ne_zero, not_false_eq_true, not_true_eq_false, Nat.one_ne_zero, Nat.zero_ne_one, eR]
        by_cases e1 : k = L.length - 1
        · simp only [if_pos e1]; exact (h4 t (by omega)).2.symm
        · simp only [if_neg e1]
          by_cases e2 : t ≤ k ∧ k < L.length - 1
          · rw [if_pos (by omega), if_pos e2]
          · rw [if_neg (by omega), if_neg e2]
      · intro k hk
        split
        · omega
        · split <;> omega
      · intro i k hi hk e
        split at e <;> split at e <;> (try split at e) <;> (try split at e) <;> omega
      · rw [List.length_eraseIdx_of_lt ht] at hi
        have e : (if i = L.length - 1 then t else if t ≤ i ∧ i < L.length - 1 then i + 1 else i) = if i < t then i else i + 1 := by
          rw [if_neg (by omega)]
          by_cases c : i < t
          · rw [if_neg (by omega), if_pos c]
          · rw [if_pos (by omega), if_neg c]
        dsimp only
        rw [e, lt_del]
        have g := (h4 (if i < t then i else i + 1) (by split <;> omega)).1
        have z := h6 (if i < t then i else i + 1) (by split <;> omega)
        have ne : (a + 2 + π (if i < t then i else i + 1) = a) = False := by simp only [eq_iff_iff, iff_false]; omega
        simp only [lotIs, gI_uI, gL_uL, gR_uR, gI_uL, gI_uR, gL_uI, gL_uR, gR_uI, gR_uL, ne, false_and, if_false, eI, eL]
        rw [show (if i < t then lt L i else lt L (i + 1)) = lt L (if i < t then i else i + 1) by split <;> rfl]
        exact z
      · intro b hb k
        refine ⟨?_, ?_, ?_⟩
        · simp only [gI_uI, gL_uL, gR_uR, gI_uL, gI_uR, gL_uI, gL_uR, gR_uI, gR_uL]; rw [if_neg (by omega)]; exact eI b k
        · simp only [gI_uI, gL_uL, gR_uR, gI_uL, gI_uR, gL_uI, gL_uR, gR_uI, gR_uL]; exact eL b k
        · simp only [gI_uI, gL_uL, gR_uR, gI_uL, gI_uR, gL_uI, gL_uR, gR_uI, gR_uL]; rw [if_neg (by omega), eR, if_neg (by omega)]
    | succ n ih =>
      intro j Sj w hj hn eI eL eR
      refine sX4_remove_22 hJ ?_
      have q0 : gR Sj a 0 = some (a + 1) := by rw [eR, if_neg (by omega)]; exact h1
      have q1 : gR Sj (a + 1) (j + 1) = some (a + 2 + π (j + 1)) := by rw [eR, if_neg (by omega)]; exact (h4 (j + 1) (by omega)).2
      simp only [l0, l1, q0, q1, eI a 1, h2, nI_1, nIle (show L.length ≤ 100000 by omega) (show j + 1 ≤ 100000 by omega), cl_n (show j + 1 ≤ 100000 by omega), cl_n (show j ≤ 100000 by omega), vp_n (show j + 1 < 40 by omega) (show 40 ≤ 100000 by omega), vp_n (show j < 40 by omega) (show 40 ≤ 100000 by omega), l2 _ (h4 (j + 1) (by omega)).1, Option.some.injEq, Prod.mk.injEq, exists_eq_left', exists_eq_left, true_and, and_true, and_self, true_or, or_true, forall_const, exists_const, exists_and_left, wcat, Nat.zero_le, Nat.reduceLeDiff, Int32.lt_irrefl, not_false_eq_true, Nat.zero_add, forall_eq, gI_uI, gL_uL, gR_uR, gI_uL, gI_uR, gL_uI, gL_uR, gR_uI, gR_uL, true_and, and_true, Nat.add_right_cancel_iff, Nat.add_left_cancel_iff, Nat.reduceEqDiff, Nat.left_eq_add, Nat.right_eq_add, Nat.add_eq_left, Nat.add_eq_right, Nat.reduceAdd, Nat.succ_ne_self, reduceCtorEq, false_and, and_false, if_false, if_true, ite_true, ite_false, ite_self, Nat.succ_ne_zero, Nat.add_one_ne_zero, not_false_eq_true, not_true_eq_false, Nat.one_ne_zero, Nat.zero_ne_one]
      refine ⟨fun c => absurd c (by omega), fun _ => ih (j + 1) _ _ (by omega) (by omega) eI eL ?_⟩
      intro b k
      rw [gR_uR, eR]
      by_cases e1 : b = a + 1 ∧ k = j
      · obtain ⟨rfl, rfl⟩ := e1
        rw [if_pos ⟨rfl, rfl⟩, if_pos (by omega)]
        exact (h4 (k + 1) (by omega)).2.symm
      · rw [if_neg e1]
        by_cases e2 : b = a + 1 ∧ t ≤ k ∧ k < j
        · rw [if_pos e2, if_pos (by omega)]
        · rw [if_neg e2, if_neg (by omega)]
  refine sX4_remove_0 hJ ?_
  have hn : (nI t < 0) = False := by simp only [eq_iff_iff, iff_false]; exact nI_pos (by omega)
  simp only [l0, l1, h1, h2, hn, (h4 t (by omega)).2, nIlt (show t ≤ 100000 by omega) (show L.length ≤ 100000 by omega), cl_n (show t ≤ 100000 by omega), vp_n (show t < 40 by omega) (show 40 ≤ 100000 by omega), Option.some.injEq, Prod.mk.injEq, exists_eq_left', exists_eq_left, true_and, and_true, and_self, true_or, or_true, forall_const, exists_const, exists_and_left, wcat, Nat.zero_le, Nat.reduceLeDiff, Int32.lt_irrefl, not_false_eq_true, Nat.zero_add, forall_eq]
  refine ⟨fun z => z.elim, fun _ => loop (L.length - t - 1) t S _ (Nat.le_refl t) (by omega) (fun _ _ => rfl) (fun _ _ => rfl) (fun b k => by rw [if_neg (by omega)]), fun c => absurd ht c⟩
end
