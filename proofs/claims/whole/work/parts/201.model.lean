/-! the reference: sums of lots, the next lot, sold, replaces, replacedByElder -/
def mpie (S : qS) (m j : Nat) (q : Pie) : Prop := gI S (m + 17) j = q.1 ∧ gI S (m + 19) j = q.2.1 ∧ gI S (m + 20) j = q.2.2.1 ∧ gI S (m + 18) j = q.2.2.2.1 ∧ gL S (m + 22) j = q.2.2.2.2.1 ∧ gL S (m + 23) j = q.2.2.2.2.2.1 ∧ gI S (m + 21) j = q.2.2.2.2.2.2.1 ∧ gL S (m + 24) j = q.2.2.2.2.2.2.2.1 ∧ gL S (m + 25) j = q.2.2.2.2.2.2.2.2
/-- the pieces from base on are P -/
def MPie (S : qS) (m base : Nat) (P : List Pie) : Prop := gI S m 41 = nI (base + P.length) ∧ base + P.length ≤ 640 ∧ ∀ i, i < P.length → mpie S m (base + i) (pp P i)
theorem pp_app {P Q : List Pie} {i : Nat} (h : i < P.length) : pp (P ++ Q) i = pp P i := by simp [pp, List.getElem?_append_left h]
theorem pp_end {P : List Pie} {x : Pie} : pp (P ++ [x]) P.length = x := by simp [pp]
theorem pp_mid {P Q : List Pie} {x : Pie} : pp (P ++ x :: Q) P.length = x := by simp [pp]
theorem pp_set {P : List Pie} {i j : Nat} {x : Pie} (h : i < P.length) : pp (P.set i x) j = if j = i then x else pp P j := by
  unfold pp
  rw [List.getD_eq_getElem?_getD, List.getElem?_set]
  split
  · rename_i e; subst e; simp [h]
  · rename_i e; simp [Ne.symm e]
theorem pp_mem {P : List Pie} {i : Nat} (h : i < P.length) : pp P i ∈ P := by
  rw [pp, List.getD_eq_getElem?_getD, List.getElem?_eq_getElem h, Option.getD_some]
  exact List.getElem_mem h
theorem MPie.fm {S S' : qS} {m base lo hi u v : Nat} {P : List Pie} (h : MPie S m base P) (hf : Fm S S' m lo hi u v) (hd : (hi ≤ 17 ∨ 26 ≤ lo) ∧ 0 < lo ∧ (v ≤ u ∨ 41 < u)) : MPie S' m base P := by
  obtain ⟨h1, h2, h3⟩ := h
  refine ⟨((hf.1 m (by omega) 41 (by omega)).1).trans h1, h2, fun i hi => ?_⟩
  obtain ⟨z0, z1, z2, z3, z4, z5, z6, z7, z8⟩ := h3 i hi
  have e : ∀ c, 17 ≤ c → c < 26 → gI S' (m + c) (base + i) = gI S (m + c) (base + i) ∧ gL S' (m + c) (base + i) = gL S (m + c) (base + i) := fun c c1 c2 => hf.1 (m + c) (by omega) _ (by omega)
  exact ⟨(e 17 (by omega) (by omega)).1.trans z0, (e 19 (by omega) (by omega)).1.trans z1, (e 20 (by omega) (by omega)).1.trans z2, (e 18 (by omega) (by omega)).1.trans z3, (e 22 (by omega) (by omega)).2.trans z4, (e 23 (by omega) (by omega)).2.trans z5, (e 21 (by omega) (by omega)).1.trans z6, (e 24 (by omega) (by omega)).2.trans z7, (e 25 (by omega) (by omega)).2.trans z8⟩
section
variable {d : Nat} {A : qA} {S : qS} {m : Nat} {H : Nat → List Lot}
set_option maxRecDepth 20000 in
theorem cm_sharesOf {p : Nat} {f : Int32 → qS → Prop} (h : mI A S m) (hH : MH S m H) (hp : p < 3) (hf : f (shSum (H p) (H p).length) S) : Run (d + 2) 186 [.ref m, .int (nI p)] A S (kI A f) := by
  refine Run.i (C := mX11_sharesOf) rfl rfl rfl fun J hJ => ?_
  obtain ⟨hm, hl, hrow⟩ := hH p hp
  have hI := h
  obtain ⟨⟨k0, k1, k2, k3, k4, k5, k6, k7, k8, k9, k10, k11, k12, k13, k14, k15, k16, k17, k18, k19, k20, k21, k22, k23, k24, k25, k26⟩, ⟨r5, r15, r16, r17, r18, r21, r22, r23, r24, r25, r26, r27, r28, r29, r30, r31, r32, r33, r34, r35, r36, r37, r38, r39, r40, r48⟩⟩ := h
  have loop : ∀ n i, i + n = (H p).length → J 7 [some (.ref m), some (.int (nI p)), some (.int (shSum (H p) i)), some (.int (nI (p * 40 + i)))] [] A S := by
    intro n
    induction n with
    | zero =>
      intro i hi
      refine sX11_sharesOf_7 hJ ?_
      simp only [k0, Option.some.injEq, Prod.mk.injEq, exists_eq_left', exists_eq_left, true_and, and_true, and_self, true_or, or_true, forall_const, exists_const, exists_and_left, wcat, Nat.zero_le, Nat.reduceLeDiff, Int32.lt_irrefl, not_false_eq_true, Nat.zero_add, forall_eq]
      refine cm_lotEnd hI hm hp ⟨fun _ => kI_i ?_, fun c => absurd ((nIle (by omega) (by omega)).mpr (by omega)) c⟩
      rwa [show i = (H p).length by omega]
    | succ n ih =>
      intro i hi
      refine sX11_sharesOf_7 hJ ?_
      simp only [k0, Option.some.injEq, Prod.mk.injEq, exists_eq_left', exists_eq_left, true_and, and_true, and_self, true_or, or_true, forall_const, exists_const, exists_and_left, wcat, Nat.zero_le, Nat.reduceLeDiff, Int32.lt_irrefl, not_false_eq_true, Nat.zero_add, forall_eq]
      refine cm_lotEnd hI hm hp ⟨fun c => absurd ((nIle (by omega) (by omega)).mp c) (by omega), fun _ => ?_⟩
      simp only [k9, r24, cl_n (show p * 40 + i ≤ 100000 by omega), vp_n (show p * 40 + i < 120 by omega) (show 120 ≤ 100000 by omega), (hrow i (by omega)).1, nI_1, Option.some.injEq, Prod.mk.injEq, exists_eq_left', exists_eq_left, true_and, and_true, and_self, true_or, or_true, forall_const, exists_const, exists_and_left, wcat, Nat.zero_le, Nat.reduceLeDiff, Int32.lt_irrefl, not_false_eq_true, Nat.zero_add, forall_eq]
      exact ih (i + 1) (by omega)
  refine sX11_sharesOf_0 hJ ?_
  rw [nI40]
  exact loop (H p).length 0 (by omega)
set_option maxRecDepth 20000 in
theorem cm_costOf {p : Nat} {f : Int64 → qS → Prop} (h : mI A S m) (hH : MH S m H) (hp : p < 3) (hf : f (coSum (H p) (H p).length) S) : Run (d + 2) 187 [.ref m, .int (nI p)] A S (kL A f) := by
  refine Run.i (C := mX11_costOf) rfl rfl rfl fun J hJ => ?_
  obtain ⟨hm, hl, hrow⟩ := hH p hp
  have hI := h
  obtain ⟨⟨k0, k1, k2, k3, k4, k5, k6, k7, k8, k9, k10, k11, k12, k13, k14, k15, k16, k17, k18, k19, k20, k21, k22, k23, k24, k25, k26⟩, ⟨r5, r15, r16, r17, r18, r21, r22, r23, r24, r25, r26, r27, r28, r29, r30, r31, r32, r33, r34, r35, r36, r37, r38, r39, r40, r48⟩⟩ := h
  have loop : ∀ n i (w : Option Value), i + n = (H p).length → J 8 [some (.ref m), some (.int (nI p)), some (.long (coSum (H p) i)), w, some (.int (nI (p * 40 + i)))] [] A S := by
    intro n
    induction n with
    | zero =>
      intro i w hi
      refine sX11_costOf_8 hJ ?_
      simp only [k0, Option.some.injEq, Prod.mk.injEq, exists_eq_left', exists_eq_left, true_and, and_true, and_self, true_or, or_true, forall_const, exists_const, exists_and_left, wcat, Nat.zero_le, Nat.reduceLeDiff, Int32.lt_irrefl, not_false_eq_true, Nat.zero_add, forall_eq]
      refine cm_lotEnd hI hm hp ⟨fun _ => kL_i ?_, fun c => absurd ((nIle (by omega) (by omega)).mpr (by omega)) c⟩
      rwa [show i = (H p).length by omega]
    | succ n ih =>
      intro i w hi
      refine sX11_costOf_8 hJ ?_
      simp only [k0, Option.some.injEq, Prod.mk.injEq, exists_eq_left', exists_eq_left, true_and, and_true, and_self, true_or, or_true, forall_const, exists_const, exists_and_left, wcat, Nat.zero_le, Nat.reduceLeDiff, Int32.lt_irrefl, not_false_eq_true, Nat.zero_add, forall_eq]
      refine cm_lotEnd hI hm hp ⟨fun c => absurd ((nIle (by omega) (by omega)).mp c) (by omega), fun _ => ?_⟩
      simp only [k14, r29, cl_n (show p * 40 + i ≤ 100000 by omega), vp_n (show p * 40 + i < 120 by omega) (show 120 ≤ 100000 by omega), (hrow i (by omega)).2.1, nI_1, Option.some.injEq, Prod.mk.injEq, exists_eq_left', exists_eq_left, true_and, and_true, and_self, true_or, or_true, forall_const, exists_const, exists_and_left, wcat, Nat.zero_le, Nat.reduceLeDiff, Int32.lt_irrefl, not_false_eq_true, Nat.zero_add, forall_eq]
      exact ih (i + 1) _ (by omega)
  refine sX11_costOf_0 hJ ?_
  rw [nI40]
  exact loop (H p).length 0 _ (by omega)
set_option maxRecDepth 20000 in
set_option maxHeartbeats 1000000 in
theorem cm_nextLot {p : Nat} {rule : Int32} {f : Int32 → qS → Prop} (h : mI A S m) (hH : MH S m H) (hp : p < 3) (hn : 0 < (H p).length) (hf : f (nI (p * 40 + pick (H p) rule)) S) : Run (d + 2) 188 [.ref m, .int (nI p), .int rule] A S (kI A f) := by
  refine Run.i (C := mX11_nextLot) rfl rfl rfl fun J hJ => ?_
  obtain ⟨hm, hl, hrow⟩ := hH p hp
  have hI := h
  obtain ⟨⟨k0, k1, k2, k3, k4, k5, k6, k7, k8, k9, k10, k11, k12, k13, k14, k15, k16, k17, k18, k19, k20, k21, k22, k23, k24, k25, k26⟩, ⟨r5, r15, r16, r17, r18, r21, r22, r23, r24, r25, r26, r27, r28, r29, r30, r31, r32, r33, r34, r35, r36, r37, r38, r39, r40, r48⟩⟩ := h
  have loop : ∀ n i (w5 w6 : Option Value), i + 1 + n = (H p).length → ¬ rule = 0 → ¬ rule = 1 → J 32 [some (.ref m), some (.int (nI p)), some (.int rule), some (.int (nI (p * 40 + bst (H p) rule i))), some (.int (nI (p * 40 + i + 1))), w5, w6] [] A S := by
    intro n
    induction n with
    | zero =>
      intro i w5 w6 hi r0 r1
      refine sX11_nextLot_32 hJ ?_
      simp only [k0, Option.some.injEq, Prod.mk.injEq, exists_eq_left', exists_eq_left, true_and, and_true, and_self, true_or, or_true, forall_const, exists_const, exists_and_left, wcat, Nat.zero_le, Nat.reduceLeDiff, Int32.lt_irrefl, not_false_eq_true, Nat.zero_add, forall_eq]
      refine cm_lotEnd hI hm hp ⟨fun _ => kI_i ?_, fun c => absurd ((nIle (by omega) (by omega)).mpr (by omega)) c⟩
      unfold pick at hf
      rwa [if_neg r0, if_neg r1, show (H p).length - 1 = i by omega] at hf
    | succ n ih =>
      intro i w5 w6 hi r0 r1
      have hb := bst_le (H p) rule i
      refine sX11_nextLot_32 hJ ?_
      simp only [k0, Option.some.injEq, Prod.mk.injEq, exists_eq_left', exists_eq_left, true_and, and_true, and_self, true_or, or_true, forall_const, exists_const, exists_and_left, wcat, Nat.zero_le, Nat.reduceLeDiff, Int32.lt_irrefl, not_false_eq_true, Nat.zero_add, forall_eq]
      refine cm_lotEnd hI hm hp ⟨fun c => absurd ((nIle (by omega) (by omega)).mp c) (by omega), fun _ => ?_⟩
      have hr1 := hrow (i + 1) (by omega)
      rw [show p * 40 + (i + 1) = p * 40 + i + 1 by omega] at hr1
      simp only [k9, k14, r24, r29, cl_n (show p * 40 + i + 1 ≤ 100000 by omega), vp_n (show p * 40 + i + 1 < 120 by omega) (show 120 ≤ 100000 by omega), cl_n (show p * 40 + bst (H p) rule i ≤ 100000 by omega), vp_n (show p * 40 + bst (H p) rule i < 120 by omega) (show 120 ≤ 100000 by omega), hr1.1, hr1.2.1, (hrow (bst (H p) rule i) (by omega)).1, (hrow (bst (H p) rule i) (by omega)).2.1, nI_1, lgc_ge, lgc_le, Option.some.injEq, Prod.mk.injEq, exists_eq_left', exists_eq_left, true_and, and_true, and_self, true_or, or_true, forall_const, exists_const, exists_and_left, wcat, Nat.zero_le, Nat.reduceLeDiff, Int32.lt_irrefl, not_false_eq_true, Nat.zero_add, forall_eq]
      have go : ∀ (b : Nat) (v w : Option Value), b = bst (H p) rule (i + 1) → J 32 [some (.ref m), some (.int (nI p)), some (.int rule), some (.int (nI (p * 40 + b))), some (.int (nI (p * 40 + i + 1 + 1))), v, w] [] A S := by
        intro b v w e
        subst e
        exact ih (i + 1) v w (by omega) r0 r1
      have go' : ∀ (v w : Option Value), i + 1 = bst (H p) rule (i + 1) → J 32 [some (.ref m), some (.int (nI p)), some (.int rule), some (.int (nI (p * 40 + i + 1))), some (.int (nI (p * 40 + i + 1 + 1))), v, w] [] A S := go (i + 1)
      refine ⟨fun r2 => ⟨fun c => ?_, fun c => ?_⟩, fun r2 => ⟨fun c => ?_, fun c => ?_⟩⟩
      · exact go _ _ _ (by simp only [bst, ahead, if_neg r2]; rw [if_neg (by simpa using c)])
      · exact go' _ _ (by simp only [bst, ahead, if_neg r2]; rw [if_pos (by simpa using c)])
      · exact go _ _ _ (by simp only [bst, ahead, if_pos r2]; rw [if_neg (by simpa using c)])
      · exact go' _ _ (by simp only [bst, ahead, if_pos r2]; rw [if_pos (by simpa using c)])
  refine sX11_nextLot_0 hJ ?_
  simp only [k0, nI40, nI_1, Option.some.injEq, Prod.mk.injEq, exists_eq_left', exists_eq_left, true_and, and_true, and_self, true_or, or_true, forall_const, exists_const, exists_and_left, wcat, Nat.zero_le, Nat.reduceLeDiff, Int32.lt_irrefl, not_false_eq_true, Nat.zero_add, forall_eq]
  refine ⟨fun r0 => ⟨fun r1 => loop ((H p).length - 1) 0 _ _ (by omega) r0 r1, fun r1 => cm_lotEnd hI hm hp ?_⟩, fun r0 => kI_i ?_⟩
  · have e : nI (p * 40 + (H p).length) - 1 = nI (p * 40 + ((H p).length - 1)) := by
      have := nI_pred (p * 40 + ((H p).length - 1))
      rwa [show p * 40 + ((H p).length - 1) + 1 = p * 40 + (H p).length by omega] at this
    rw [e]
    unfold pick at hf
    rw [if_neg r0, if_pos r1] at hf
    exact kI_i hf
  · unfold pick at hf
    rwa [if_pos r0] at hf
set_option maxRecDepth 20000 in
set_option maxHeartbeats 4000000 in
theorem cm_sold {j base : Nat} {P : List Pie} {l : Lot} {day pr : Int32} {f : qS → Prop} (h : mI A S m) (hl : mlot S m j l) (hj : j < 120) (hP : MPie S m base P) (hn : base + P.length < 640) (hf : ∀ S', MPie S' m base (P ++ [newPie day l pr]) → Fm S S' m 17 26 41 42 → f S') : Run (d + 1) 189 [.ref m, .int (nI j), .int day, .int pr] A S (kV A f) := by
  refine Run.i (C := mX11_sold) rfl rfl rfl fun J hJ => ?_
  obtain ⟨⟨k0, k1, k2, k3, k4, k5, k6, k7, k8, k9, k10, k11, k12, k13, k14, k15, k16, k17, k18, k19, k20, k21, k22, k23, k24, k25, k26⟩, ⟨r5, r15, r16, r17, r18, r21, r22, r23, r24, r25, r26, r27, r28, r29, r30, r31, r32, r33, r34, r35, r36, r37, r38, r39, r40, r48⟩⟩ := h
  obtain ⟨p1, p2, p3⟩ := hP
  obtain ⟨z0, z1, z2, z3, z4, z5⟩ := hl
  refine sX11_sold_0 hJ ?_
  have o10 : ((1 : Int32) = 0) = False := by decide
  have v := vp_n hn (show 640 ≤ 100000 by omega)
  have vj := vp_n hj (show 120 ≤ 100000 by omega)
  simp only [k0, k9, k11, k12, k14, k17, k18, k19, k20, k21, k22, k23, k24, k25, r24, r26, r27, r29, r32, r33, r34, r35, r36, r37, r38, r39, r40, p1, z0, z1, z3, z5, o10, v, vj, lgc_ge, cl_n (show base + P.length ≤ 100000 by omega), cl_n (show j ≤ 100000 by omega), nI_1, eq_self, not_true_eq_false, not_false_eq_true, false_imp_iff, true_imp_iff, Option.some.injEq, Prod.mk.injEq, exists_eq_left', exists_eq_left, true_and, and_true, and_self, true_or, or_true, forall_const, exists_const, exists_and_left, wcat, Nat.zero_le, Nat.reduceLeDiff, Int32.lt_irrefl, not_false_eq_true, Nat.zero_add, forall_eq, gI_uI, gL_uL, gR_uR, gI_uL, gI_uR, gL_uI, gL_uR, gR_uI, gR_uL, true_and, and_true, Nat.add_right_cancel_iff, Nat.add_left_cancel_iff, Nat.reduceEqDiff, Nat.left_eq_add, Nat.right_eq_add, Nat.add_eq_left, Nat.add_eq_right, Nat.reduceAdd, Nat.succ_ne_self, reduceCtorEq, false_and, and_false, if_false, if_true, ite_true, ite_false, ite_self, Nat.succ_ne_zero, Nat.add_one_ne_zero, not_false_eq_true, not_true_eq_false, Nat.one_ne_zero, Nat.zero_ne_one]
  have fin : ∀ (lf : Int32) (lo : Int64), lf = (newPie day l pr).2.2.2.2.2.2.1 → lo = (newPie day l pr).2.2.2.2.2.2.2.1 → f (uI (uL (uL (uI (uL (uL (uI (uI (uI (uI S (m + 17) (base + P.length) day) (m + 18) (base + P.length) l.1) (m + 19) (base + P.length) l.2.2.2.1) (m + 20) (base + P.length) l.2.2.2.2.2) (m + 22) (base + P.length) l.2.1) (m + 23) (base + P.length) (l.1.toInt64 * pr.toInt64)) (m + 21) (base + P.length) lf) (m + 24) (base + P.length) lo) (m + 25) (base + P.length) 0) m 41 (nI (base + P.length + 1))) := by
    intro lf lo hlf hlo
    refine hf _ ⟨?_, ?_, fun i hi => ?_⟩ ?_
    · simp only [gI_uI, gL_uL, gR_uR, gI_uL, gI_uR, gL_uI, gL_uR, gR_uI, gR_uL, true_and, and_true, Nat.add_right_cancel_iff, Nat.add_left_cancel_iff, Nat.reduceEqDiff, Nat.left_eq_add, Nat.right_eq_add, Nat.add_eq_left, Nat.add_eq_right, Nat.reduceAdd, Nat.succ_ne_self, reduceCtorEq, false_and, and_false, if_false, if_true, ite_true, ite_false, ite_self, Nat.succ_ne_zero, Nat.add_one_ne_zero, not_false_eq_true, not_true_eq_false, Nat.one_ne_zero, Nat.zero_ne_one, List.length_append, List.length_singleton]
      rw [Nat.add_assoc]
    · simp only [List.length_append, List.length_singleton]; omega
    · simp only [List.length_append, List.length_singleton] at hi
      by_cases hi' : i = P.length
      · subst hi'
        rw [pp_end]
        unfold mpie
        simp only [gI_uI, gL_uL, gR_uR, gI_uL, gI_uR, gL_uI, gL_uR, gR_uI, gR_uL, true_and, and_true, Nat.add_right_cancel_iff, Nat.add_left_cancel_iff, Nat.reduceEqDiff, Nat.left_eq_add, Nat.right_eq_add, Nat.add_eq_left, Nat.add_eq_right, Nat.reduceAdd, Nat.succ_ne_self, reduceCtorEq, false_and, and_false, if_false, if_true, ite_true, ite_false, ite_self, Nat.succ_ne_zero, Nat.add_one_ne_zero, not_false_eq_true, not_true_eq_false, Nat.one_ne_zero, Nat.zero_ne_one, hlf, hlo]
        simp only [newPie, and_self]
      · rw [pp_app (by omega)]
        have e : (base + i = base + P.length) = False := by simp only [eq_iff_iff, iff_false]; omega
        have := p3 i (by omega)
        unfold mpie at this ⊢
        simp only [gI_uI, gL_uL, gR_uR, gI_uL, gI_uR, gL_uI, gL_uR, gR_uI, gR_uL, true_and, and_true, Nat.add_right_cancel_iff, Nat.add_left_cancel_iff, Nat.reduceEqDiff, Nat.left_eq_add, Nat.right_eq_add, Nat.add_eq_left, Nat.add_eq_right, Nat.reduceAdd, Nat.succ_ne_self, reduceCtorEq, false_and, and_false, if_false, if_true, ite_true, ite_false, ite_self, Nat.succ_ne_zero, Nat.add_one_ne_zero, not_false_eq_true, not_true_eq_false, Nat.one_ne_zero, Nat.zero_ne_one, e, hi']
        exact this
    · exact (((((((((Fm.rf.uI (by omega)).uI (by omega)).uI (by omega)).uI (by omega)).uL (by omega)).uL (by omega)).uI (by omega)).uL (by omega)).uL (by omega)).uI (by omega)
  exact ⟨fun c => kV_i (fin _ _ (by simp only [newPie, if_pos c]) (by simp only [newPie, if_pos c])), fun c => kV_i (fin _ _ (by simp only [newPie, if_neg c]) (by simp only [newPie, if_neg c]))⟩
end
