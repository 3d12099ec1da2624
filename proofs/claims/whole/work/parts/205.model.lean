/-! the reference: splits -/
theorem spL_take {a b : Int32} {L : List Lot} {i : Nat} (h : i < L.length) : spL a b (L.take (i + 1)) = spL a b (L.take i) ++ (if a * (lt L i).1 / b = 0 then [] else [spS a b (lt L i)]) := by
  unfold spL
  rw [take_lt h, List.map_append, List.filter_append]
  congr 1
  by_cases c : a * (lt L i).1 / b = 0
  · rw [if_pos c, List.map_cons, List.map_nil, List.filter_cons_of_neg (show ¬ spK (spS a b (lt L i)) = true from fun w => absurd c (of_decide_eq_true w))]; rfl
  · rw [if_neg c, List.map_cons, List.map_nil, List.filter_cons_of_pos (show spK (spS a b (lt L i)) = true from decide_eq_true c)]; rfl
theorem spZ_app (a b : Int32) : ∀ (L : List Lot) (l : Lot) (z : Int64), spZ a b (L ++ [l]) z = if a * l.1 / b = 0 then spZ a b L z + l.2.1 else spZ a b L z := by
  intro L
  induction L with
  | nil => intro l z; rfl
  | cons x L ih =>
    intro l z
    rw [List.cons_append, spZ, spZ, ih]
    repeat' split
    all_goals first | rfl | exact i64_swap _ _ _
theorem spZ_take {a b : Int32} {L : List Lot} {i : Nat} {z : Int64} (h : i < L.length) : spZ a b (L.take (i + 1)) z = if a * (lt L i).1 / b = 0 then spZ a b (L.take i) z + (lt L i).2.1 else spZ a b (L.take i) z := by
  rw [take_lt h, spZ_app]
theorem MPie.left {S : qS} {m base k : Nat} {P : List Pie} {v : Int32} (h : MPie S m base P) (hk : k < P.length) : MPie (uI S (m + 21) (base + k) v) m base (P.set k (setLeft (pp P k) v)) := by
  obtain ⟨h1, h2, h3⟩ := h
  refine ⟨by simp only [gI_uI, gL_uL, gR_uR, gI_uL, gI_uR, gL_uI, gL_uR, gR_uI, gR_uL, true_and, and_true, Nat.add_right_cancel_iff, Nat.add_left_cancel_iff, Nat.reduceEqDiff, Nat.left_eq_add, Nat.right_eq_add, Nat.add_eq_left, Nat.add_eq_right, Nat.reduceAdd, Nat.succ_ne_self, reduceCtorEq, false_and, and_false, if_false, if_true, ite_true, ite_false, ite_self, Nat.succ_ne_zero, Nat.add_one_ne_zero, not_false_eq_true, not_true_eq_false, Nat.one_ne_zero, Nat.zero_ne_one, List.length_set]; exact h1, by rw [List.length_set]; exact h2, fun j hj => ?_⟩
  rw [List.length_set] at hj
  rw [pp_set hk]
  have := h3 j hj
  by_cases e : j = k
  · subst e
    rw [if_pos rfl]
    unfold mpie setLeft at *
    simp only [gI_uI, gL_uL, gR_uR, gI_uL, gI_uR, gL_uI, gL_uR, gR_uI, gR_uL, true_and, and_true, Nat.add_right_cancel_iff, Nat.add_left_cancel_iff, Nat.reduceEqDiff, Nat.left_eq_add, Nat.right_eq_add, Nat.add_eq_left, Nat.add_eq_right, Nat.reduceAdd, Nat.succ_ne_self, reduceCtorEq, false_and, and_false, if_false, if_true, ite_true, ite_false, ite_self, Nat.succ_ne_zero, Nat.add_one_ne_zero, not_false_eq_true, not_true_eq_false, Nat.one_ne_zero, Nat.zero_ne_one]
    exact ⟨this.1, this.2.1, this.2.2.1, this.2.2.2.1, this.2.2.2.2.1, this.2.2.2.2.2.1, this.2.2.2.2.2.2.2.1, this.2.2.2.2.2.2.2.2⟩
  · rw [if_neg e]
    have e1 : (base + j = base + k) = False := by simp only [eq_iff_iff, iff_false]; omega
    unfold mpie at *
    simp only [gI_uI, gL_uL, gR_uR, gI_uL, gI_uR, gL_uI, gL_uR, gR_uI, gR_uL, true_and, and_true, Nat.add_right_cancel_iff, Nat.add_left_cancel_iff, Nat.reduceEqDiff, Nat.left_eq_add, Nat.right_eq_add, Nat.add_eq_left, Nat.add_eq_right, Nat.reduceAdd, Nat.succ_ne_self, reduceCtorEq, false_and, and_false, if_false, if_true, ite_true, ite_false, ite_self, Nat.succ_ne_zero, Nat.add_one_ne_zero, not_false_eq_true, not_true_eq_false, Nat.one_ne_zero, Nat.zero_ne_one, e1, e]
    exact this
section
variable {d : Nat} {A : qA} {S : qS} {m : Nat} {H : Nat → List Lot}
set_option maxRecDepth 20000 in
set_option maxHeartbeats 4000000 in
theorem cm_splits {p base : Nat} {P0 P : List Pie} {a b : Int32} {f : qS → Prop} (h : mI A S m) (hH : MH S m H) (hp : p < 3) (hP : MPie S m base (P0 ++ P)) (hb : ¬ b = 0) (hf : ∀ S', MH S' m (upH H p (spL a b (H p))) → MPie S' m base (P0 ++ P.map (spP a b)) → gL S' m 42 = spZ a b (H p) (gL S m 42) → (∀ j, gI S' (m + 15) j = gI S (m + 15) j ∧ gI S' (m + 16) j = gI S (m + 16) j) → Fm S S' m 8 26 42 43 → f S') : Run (d + 2) 197 [.ref m, .int (nI p), .int a, .int b, .int (nI (base + P0.length))] A S (kV A f) := by
  refine Run.i (C := mX11_splits) rfl rfl rfl fun J hJ => ?_
  obtain ⟨hm, hl, hrow⟩ := hH p hp
  have hPl := hP.2.1
  rw [List.length_append] at hPl
  have loop2 : ∀ (Q Pd : List Pie) (Sj : qS) (w1 w4 w5 w6 w8 : Option Value), MH Sj m (upH H p (spL a b (H p))) → MPie Sj m base (Pd ++ Q) → gL Sj m 42 = spZ a b (H p) (gL S m 42) → (∀ j, gI Sj (m + 15) j = gI S (m + 15) j ∧ gI Sj (m + 16) j = gI S (m + 16) j) → Fm S Sj m 8 26 42 43 → Pd ++ Q.map (spP a b) = P0 ++ P.map (spP a b) → J 104 [some (.ref m), w1, some (.int a), some (.int b), w4, w5, w6, some (.int (nI (base + Pd.length))), w8] [] A Sj := by
    intro Q
    induction Q with
    | nil =>
      intro Pd Sj w1 w4 w5 w6 w8 hHj hPj hz h15 hr he
      refine sX11_splits_104 hJ ?_
      have hI := h.fm hr
      have hPj0 := hPj
      obtain ⟨t1, t2, t3⟩ := hPj
      rw [List.append_nil] at t1 t2
      simp only [hI.1.1, t1, nIle (show base + Pd.length ≤ 100000 by omega) (show base + Pd.length ≤ 100000 by omega), Nat.le_refl, not_true_eq_false, false_imp_iff, true_imp_iff, Option.some.injEq, Prod.mk.injEq, exists_eq_left', exists_eq_left, true_and, and_true, and_self, true_or, or_true, forall_const, exists_const, exists_and_left, wcat, Nat.zero_le, Nat.reduceLeDiff, Int32.lt_irrefl, not_false_eq_true, Nat.zero_add, forall_eq]
      refine kV_i (hf _ hHj ?_ hz h15 hr)
      rw [← he]
      exact hPj0
    | cons q Q ih =>
      intro Pd Sj w1 w4 w5 w6 w8 hHj hPj hz h15 hr he
      refine sX11_splits_104 hJ ?_
      obtain ⟨⟨k0, k1, k2, k3, k4, k5, k6, k7, k8, k9, k10, k11, k12, k13, k14, k15, k16, k17, k18, k19, k20, k21, k22, k23, k24, k25, k26⟩, ⟨r5, r15, r16, r17, r18, r21, r22, r23, r24, r25, r26, r27, r28, r29, r30, r31, r32, r33, r34, r35, r36, r37, r38, r39, r40, r48⟩⟩ := h.fm hr
      have hPj0 := hPj
      obtain ⟨t1, t2, t3⟩ := hPj
      have hlen : (Pd ++ q :: Q).length = Pd.length + 1 + Q.length := by rw [List.length_append, List.length_cons]; omega
      rw [hlen] at t1 t2
      have hkp : Pd.length < (Pd ++ q :: Q).length := by omega
      have hpk := t3 Pd.length hkp
      rw [pp_mid] at hpk
      have g6 := hpk.2.2.2.2.2.2.1
      simp only [k0, k21, r36, t1, nIle (show base + (Pd.length + 1 + Q.length) ≤ 100000 by omega) (show base + Pd.length ≤ 100000 by omega), cl_n (show base + Pd.length ≤ 100000 by omega), vp_n (show base + Pd.length < 640 by omega) (show 640 ≤ 100000 by omega), g6, hb, nI_1, Option.some.injEq, Prod.mk.injEq, exists_eq_left', exists_eq_left, true_and, and_true, and_self, true_or, or_true, forall_const, exists_const, exists_and_left, wcat, Nat.zero_le, Nat.reduceLeDiff, Int32.lt_irrefl, not_false_eq_true, Nat.zero_add, forall_eq]
      refine ⟨fun z => absurd z (by omega), fun _ => ?_⟩
      have hP' := hPj0.left (v := a * q.2.2.2.2.2.2.1 / b) hkp
      rw [pp_mid] at hP'
      have es : (Pd ++ q :: Q).set Pd.length (setLeft q (a * q.2.2.2.2.2.2.1 / b)) = Pd ++ [spP a b q] ++ Q := by simp [spP, pLeft]
      rw [es] at hP'
      have hu : Fm Sj (uI Sj (m + 21) (base + Pd.length) (a * q.2.2.2.2.2.2.1 / b)) m 21 22 41 41 := Fm.rf.uI (by omega)
      have := ih (Pd ++ [spP a b q]) _ w1 w4 w5 (unl w6) w8 (hHj.fm hu (by omega)) hP' hz (fun j => by simp only [gI_uI, gL_uL, gR_uR, gI_uL, gI_uR, gL_uI, gL_uR, gR_uI, gR_uL, true_and, and_true, Nat.add_right_cancel_iff, Nat.add_left_cancel_iff, Nat.reduceEqDiff, Nat.left_eq_add, Nat.right_eq_add, Nat.add_eq_left, Nat.add_eq_right, Nat.reduceAdd, Nat.succ_ne_self, reduceCtorEq, false_and, and_false, if_false, if_true, ite_true, ite_false, ite_self, Nat.succ_ne_zero, Nat.add_one_ne_zero, not_false_eq_true, not_true_eq_false, Nat.one_ne_zero, Nat.zero_ne_one]; exact h15 j) (hr.uI (by omega)) (by rw [List.append_assoc]; exact he)
      rw [List.length_append, List.length_singleton, ← Nat.add_assoc] at this
      exact this
  have loop1 : ∀ n i (R : List Lot) (Sj : qS) (w8 : Option Value), i + n = (H p).length → R = spL a b ((H p).take i) → R.length ≤ i → gI Sj (m + 8) p = nI (H p).length → (∀ j, j < R.length → mlot Sj m (p * 40 + j) (lt R j)) → (∀ j, i ≤ j → j < (H p).length → mlot Sj m (p * 40 + j) (lt (H p) j)) → (∀ q, ¬ q = p → gI Sj (m + 8) q = gI S (m + 8) q) → (∀ j, (j < p * 40 ∨ p * 40 + 40 ≤ j) → rowE S Sj m j j) → gL Sj m 42 = spZ a b ((H p).take i) (gL S m 42) → Fm S Sj m 8 15 42 43 → J 17 [some (.ref m), some (.int (nI p)), some (.int a), some (.int b), some (.int (nI (base + P0.length))), some (.int (nI (p * 40 + R.length))), some (.int (nI (p * 40 + (H p).length))), some (.int (nI (p * 40 + i))), w8] [] A Sj := by
    intro n
    induction n with
    | zero =>
      intro i R Sj w8 hi hR hRl hmj h1 h2 h3 h4 hz hr
      refine sX11_splits_17 hJ ?_
      obtain ⟨⟨k0, k1, k2, k3, k4, k5, k6, k7, k8, k9, k10, k11, k12, k13, k14, k15, k16, k17, k18, k19, k20, k21, k22, k23, k24, k25, k26⟩, ⟨r5, r15, r16, r17, r18, r21, r22, r23, r24, r25, r26, r27, r28, r29, r30, r31, r32, r33, r34, r35, r36, r37, r38, r39, r40, r48⟩⟩ := h.fm hr
      have ei : i = (H p).length := by omega
      rw [ei, List.take_length] at hR hz
      simp only [k0, k8, r23, nIle (show p * 40 + (H p).length ≤ 100000 by omega) (show p * 40 + i ≤ 100000 by omega), nI40, nI_subl, cl_n (show p ≤ 100000 by omega), vp_n hp (show 3 ≤ 100000 by omega), Option.some.injEq, Prod.mk.injEq, exists_eq_left', exists_eq_left, true_and, and_true, and_self, true_or, or_true, forall_const, exists_const, exists_and_left, wcat, Nat.zero_le, Nat.reduceLeDiff, Int32.lt_irrefl, not_false_eq_true, Nat.zero_add, forall_eq]
      refine ⟨fun _ => ?_, fun z => absurd (by omega) z⟩
      have hu : Fm Sj (uI Sj (m + 8) p (nI R.length)) m 8 9 41 41 := Fm.rf.uI (by omega)
      refine loop2 P P0 _ _ _ _ _ _ ?_ ?_ ?_ (fun j => ?_) ((hr.wide (by omega)).uI (by omega)) rfl
      · rw [← hR]
        refine hH.set hp (by simp only [gI_uI, gL_uL, gR_uR, gI_uL, gI_uR, gL_uI, gL_uR, gR_uI, gR_uL, true_and, and_true, Nat.add_right_cancel_iff, Nat.add_left_cancel_iff, Nat.reduceEqDiff, Nat.left_eq_add, Nat.right_eq_add, Nat.add_eq_left, Nat.add_eq_right, Nat.reduceAdd, Nat.succ_ne_self, reduceCtorEq, false_and, and_false, if_false, if_true, ite_true, ite_false, ite_self, Nat.succ_ne_zero, Nat.add_one_ne_zero, not_false_eq_true, not_true_eq_false, Nat.one_ne_zero, Nat.zero_ne_one]) (fun q hq => by simp only [gI_uI, gL_uL, gR_uR, gI_uL, gI_uR, gL_uI, gL_uR, gR_uI, gR_uL, hq, and_false, if_false]; exact h3 q hq) (by omega) (fun j hj => ?_) (fun j hj => (h4 j hj).u8)
        have := h1 j hj
        unfold mlot at this ⊢
        simp only [gI_uI, gL_uL, gR_uR, gI_uL, gI_uR, gL_uI, gL_uR, gR_uI, gR_uL, true_and, and_true, Nat.add_right_cancel_iff, Nat.add_left_cancel_iff, Nat.reduceEqDiff, Nat.left_eq_add, Nat.right_eq_add, Nat.add_eq_left, Nat.add_eq_right, Nat.reduceAdd, Nat.succ_ne_self, reduceCtorEq, false_and, and_false, if_false, if_true, ite_true, ite_false, ite_self, Nat.succ_ne_zero, Nat.add_one_ne_zero, not_false_eq_true, not_true_eq_false, Nat.one_ne_zero, Nat.zero_ne_one]
        exact this
      · exact (hP.fm hr (by omega)).fm hu (by omega)
      · simp only [gI_uI, gL_uL, gR_uR, gI_uL, gI_uR, gL_uI, gL_uR, gR_uI, gR_uL]; exact hz
      · simp only [gI_uI, gL_uL, gR_uR, gI_uL, gI_uR, gL_uI, gL_uR, gR_uI, gR_uL, true_and, and_true, Nat.add_right_cancel_iff, Nat.add_left_cancel_iff, Nat.reduceEqDiff, Nat.left_eq_add, Nat.right_eq_add, Nat.add_eq_left, Nat.add_eq_right, Nat.reduceAdd, Nat.succ_ne_self, reduceCtorEq, false_and, and_false, if_false, if_true, ite_true, ite_false, ite_self, Nat.succ_ne_zero, Nat.add_one_ne_zero, not_false_eq_true, not_true_eq_false, Nat.one_ne_zero, Nat.zero_ne_one]
        exact ⟨(hr.1 (m + 15) (by omega) j (by omega)).1, (hr.1 (m + 16) (by omega) j (by omega)).1⟩
    | succ n ih =>
      intro i R Sj w8 hi hR hRl hmj h1 h2 h3 h4 hz hr
      refine sX11_splits_17 hJ ?_
      have hI0 := h.fm hr
      obtain ⟨⟨k0, k1, k2, k3, k4, k5, k6, k7, k8, k9, k10, k11, k12, k13, k14, k15, k16, k17, k18, k19, k20, k21, k22, k23, k24, k25, k26⟩, ⟨r5, r15, r16, r17, r18, r21, r22, r23, r24, r25, r26, r27, r28, r29, r30, r31, r32, r33, r34, r35, r36, r37, r38, r39, r40, r48⟩⟩ := h.fm hr
      obtain ⟨y0, y1, y2, y3, y4, y5⟩ := h2 i (Nat.le_refl _) (by omega)
      have sz := spZ_take (a := a) (b := b) (L := H p) (i := i) (z := gL S m 42) (by omega)
      have sl := spL_take (a := a) (b := b) (L := H p) (i := i) (by omega)
      rw [← hR] at sl
      rw [← hz] at sz
      simp only [k0, k9, k14, r24, r29, nIle (show p * 40 + (H p).length ≤ 100000 by omega) (show p * 40 + i ≤ 100000 by omega), cl_n (show p * 40 + i ≤ 100000 by omega), vp_n (show p * 40 + i < 120 by omega) (show 120 ≤ 100000 by omega), y0, y1, hb, nI_1, Option.some.injEq, Prod.mk.injEq, exists_eq_left', exists_eq_left, true_and, and_true, and_self, true_or, or_true, forall_const, exists_const, exists_and_left, wcat, Nat.zero_le, Nat.reduceLeDiff, Int32.lt_irrefl, not_false_eq_true, Nat.zero_add, forall_eq, gI_uI, gL_uL, gR_uR, gI_uL, gI_uR, gL_uI, gL_uR, gR_uI, gR_uL, true_and, and_true, Nat.add_right_cancel_iff, Nat.add_left_cancel_iff, Nat.reduceEqDiff, Nat.left_eq_add, Nat.right_eq_add, Nat.add_eq_left, Nat.add_eq_right, Nat.reduceAdd, Nat.succ_ne_self, reduceCtorEq, false_and, and_false, if_false, if_true, ite_true, ite_false, ite_self, Nat.succ_ne_zero, Nat.add_one_ne_zero, not_false_eq_true, not_true_eq_false, Nat.one_ne_zero, Nat.zero_ne_one]
      refine ⟨fun z => absurd z (by omega), fun _ => ⟨fun z => cm_moves hI0 (by omega) (by omega) ?_ fun S1 hv => ?_, fun z => ?_⟩⟩
      · rw [y4]; exact bI_z _
      · rw [if_neg z] at sz sl
        have er : gR S1 m 24 = some (m + 9) := (hv.2.2 m 24).trans r24
        simp only [er, k9, cl_n (show p * 40 + R.length ≤ 100000 by omega), vp_n (show p * 40 + R.length < 120 by omega) (show 120 ≤ 100000 by omega), Option.some.injEq, Prod.mk.injEq, exists_eq_left', exists_eq_left, true_and, and_true, and_self, true_or, or_true, forall_const, exists_const, exists_and_left, wcat, Nat.zero_le, Nat.reduceLeDiff, Int32.lt_irrefl, not_false_eq_true, Nat.zero_add, forall_eq]
        have := ih (i + 1) (R ++ [spS a b (lt (H p) i)]) (uI S1 (m + 9) (p * 40 + R.length) (a * (lt (H p) i).1 / b)) (some (.int (a * (lt (H p) i).1 / b))) (by omega) sl.symm (by rw [List.length_append, List.length_singleton]; omega) ?_ (fun j hj => ?_) (fun j hj1 hj2 => ?_) (fun q hq => ?_) (fun j hj => ?_) ?_ ?_
        · rw [List.length_append, List.length_singleton, ← Nat.add_assoc, ← Nat.add_assoc] at this
          exact this
        · simp only [gI_uI, gL_uL, gR_uR, gI_uL, gI_uR, gL_uI, gL_uR, gR_uI, gR_uL, true_and, and_true, Nat.add_right_cancel_iff, Nat.add_left_cancel_iff, Nat.reduceEqDiff, Nat.left_eq_add, Nat.right_eq_add, Nat.add_eq_left, Nat.add_eq_right, Nat.reduceAdd, Nat.succ_ne_self, reduceCtorEq, false_and, and_false, if_false, if_true, ite_true, ite_false, ite_self, Nat.succ_ne_zero, Nat.add_one_ne_zero, not_false_eq_true, not_true_eq_false, Nat.one_ne_zero, Nat.zero_ne_one]; rw [hv.1, if_neg (by omega)]; exact hmj
        · rw [List.length_append, List.length_singleton] at hj
          have hrw := hv.row (p * 40 + j)
          by_cases e : j = R.length
          · subst e
            rw [lt_end]
            rw [if_pos rfl] at hrw
            obtain ⟨u0, u1, u2, u3, u4, u5⟩ := hrw.lot (h2 i (Nat.le_refl _) (by omega))
            unfold mlot spS
            simp only [gI_uI, gL_uL, gR_uR, gI_uL, gI_uR, gL_uI, gL_uR, gR_uI, gR_uL, true_and, and_true, Nat.add_right_cancel_iff, Nat.add_left_cancel_iff, Nat.reduceEqDiff, Nat.left_eq_add, Nat.right_eq_add, Nat.add_eq_left, Nat.add_eq_right, Nat.reduceAdd, Nat.succ_ne_self, reduceCtorEq, false_and, and_false, if_false, if_true, ite_true, ite_false, ite_self, Nat.succ_ne_zero, Nat.add_one_ne_zero, not_false_eq_true, not_true_eq_false, Nat.one_ne_zero, Nat.zero_ne_one]
            exact ⟨u1, u2, u3, u4, u5⟩
          · rw [lt_app (by omega)]
            rw [if_neg (by omega)] at hrw
            have e1 : (p * 40 + j = p * 40 + R.length) = False := by simp only [eq_iff_iff, iff_false]; omega
            have := hrw.lot (h1 j (by omega))
            unfold mlot at this ⊢
            simp only [gI_uI, gL_uL, gR_uR, gI_uL, gI_uR, gL_uI, gL_uR, gR_uI, gR_uL, true_and, and_true, Nat.add_right_cancel_iff, Nat.add_left_cancel_iff, Nat.reduceEqDiff, Nat.left_eq_add, Nat.right_eq_add, Nat.add_eq_left, Nat.add_eq_right, Nat.reduceAdd, Nat.succ_ne_self, reduceCtorEq, false_and, and_false, if_false, if_true, ite_true, ite_false, ite_self, Nat.succ_ne_zero, Nat.add_one_ne_zero, not_false_eq_true, not_true_eq_false, Nat.one_ne_zero, Nat.zero_ne_one, e1, e]
            exact this
        · have hrw := hv.row (p * 40 + j)
          rw [if_neg (by omega)] at hrw
          have e1 : (p * 40 + j = p * 40 + R.length) = False := by simp only [eq_iff_iff, iff_false]; omega
          have e : (j = R.length) = False := by simp only [eq_iff_iff, iff_false]; omega
          have := hrw.lot (h2 j (by omega) hj2)
          unfold mlot at this ⊢
          simp only [gI_uI, gL_uL, gR_uR, gI_uL, gI_uR, gL_uI, gL_uR, gR_uI, gR_uL, true_and, and_true, Nat.add_right_cancel_iff, Nat.add_left_cancel_iff, Nat.reduceEqDiff, Nat.left_eq_add, Nat.right_eq_add, Nat.add_eq_left, Nat.add_eq_right, Nat.reduceAdd, Nat.succ_ne_self, reduceCtorEq, false_and, and_false, if_false, if_true, ite_true, ite_false, ite_self, Nat.succ_ne_zero, Nat.add_one_ne_zero, not_false_eq_true, not_true_eq_false, Nat.one_ne_zero, Nat.zero_ne_one, e1, e]
          exact this
        · simp only [gI_uI, gL_uL, gR_uR, gI_uL, gI_uR, gL_uI, gL_uR, gR_uI, gR_uL, true_and, and_true, Nat.add_right_cancel_iff, Nat.add_left_cancel_iff, Nat.reduceEqDiff, Nat.left_eq_add, Nat.right_eq_add, Nat.add_eq_left, Nat.add_eq_right, Nat.reduceAdd, Nat.succ_ne_self, reduceCtorEq, false_and, and_false, if_false, if_true, ite_true, ite_false, ite_self, Nat.succ_ne_zero, Nat.add_one_ne_zero, not_false_eq_true, not_true_eq_false, Nat.one_ne_zero, Nat.zero_ne_one]; rw [hv.1, if_neg (by omega)]; exact h3 q hq
        · have hrw := hv.row j
          rw [if_neg (by omega)] at hrw
          have e1 : (j = p * 40 + R.length) = False := by simp only [eq_iff_iff, iff_false]; omega
          obtain ⟨g1, g2⟩ := h4 j hj
          refine ⟨fun b' b1 b2 => ?_, ?_⟩
          · simp only [gI_uI, gL_uL, gR_uR, gI_uL, gI_uR, gL_uI, gL_uR, gR_uI, gR_uL, true_and, and_true, Nat.add_right_cancel_iff, Nat.add_left_cancel_iff, Nat.reduceEqDiff, Nat.left_eq_add, Nat.right_eq_add, Nat.add_eq_left, Nat.add_eq_right, Nat.reduceAdd, Nat.succ_ne_self, reduceCtorEq, false_and, and_false, if_false, if_true, ite_true, ite_false, ite_self, Nat.succ_ne_zero, Nat.add_one_ne_zero, not_false_eq_true, not_true_eq_false, Nat.one_ne_zero, Nat.zero_ne_one, e1]
            exact (hrw.1 b' b1 b2).trans (g1 b' b1 b2)
          · simp only [gI_uI, gL_uL, gR_uR, gI_uL, gI_uR, gL_uI, gL_uR, gR_uI, gR_uL]
            exact hrw.2.trans g2
        · simp only [gI_uI, gL_uL, gR_uR, gI_uL, gI_uR, gL_uI, gL_uR, gR_uI, gR_uL]
          rw [hv.2.1, if_neg (by omega), sz]
        · exact (hr.trans (hv.fm.wide (by omega))).uI (by omega)
      · rw [if_pos z] at sz sl
        rw [List.append_nil] at sl
        have := ih (i + 1) R (uL Sj m 42 (gL Sj m 42 + (lt (H p) i).2.1)) (some (.int (a * (lt (H p) i).1 / b))) (by omega) sl.symm (by omega) hmj (fun j hj => ?_) (fun j hj1 hj2 => ?_) h3 (fun j hj => ?_) ?_ (hr.uL (by omega))
        · rw [← Nat.add_assoc] at this
          exact this
        · have := h1 j hj
          unfold mlot at this ⊢
          simp only [gI_uI, gL_uL, gR_uR, gI_uL, gI_uR, gL_uI, gL_uR, gR_uI, gR_uL, true_and, and_true, Nat.add_right_cancel_iff, Nat.add_left_cancel_iff, Nat.reduceEqDiff, Nat.left_eq_add, Nat.right_eq_add, Nat.add_eq_left, Nat.add_eq_right, Nat.reduceAdd, Nat.succ_ne_self, reduceCtorEq, false_and, and_false, if_false, if_true, ite_true, ite_false, ite_self, Nat.succ_ne_zero, Nat.add_one_ne_zero, not_false_eq_true, not_true_eq_false, Nat.one_ne_zero, Nat.zero_ne_one]
          exact this
        · have := h2 j (by omega) hj2
          unfold mlot at this ⊢
          simp only [gI_uI, gL_uL, gR_uR, gI_uL, gI_uR, gL_uI, gL_uR, gR_uI, gR_uL, true_and, and_true, Nat.add_right_cancel_iff, Nat.add_left_cancel_iff, Nat.reduceEqDiff, Nat.left_eq_add, Nat.right_eq_add, Nat.add_eq_left, Nat.add_eq_right, Nat.reduceAdd, Nat.succ_ne_self, reduceCtorEq, false_and, and_false, if_false, if_true, ite_true, ite_false, ite_self, Nat.succ_ne_zero, Nat.add_one_ne_zero, not_false_eq_true, not_true_eq_false, Nat.one_ne_zero, Nat.zero_ne_one]
          exact this
        · obtain ⟨g1, g2⟩ := h4 j hj
          refine ⟨g1, ?_⟩
          simp only [gI_uI, gL_uL, gR_uR, gI_uL, gI_uR, gL_uI, gL_uR, gR_uI, gR_uL, true_and, and_true, Nat.add_right_cancel_iff, Nat.add_left_cancel_iff, Nat.reduceEqDiff, Nat.left_eq_add, Nat.right_eq_add, Nat.add_eq_left, Nat.add_eq_right, Nat.reduceAdd, Nat.succ_ne_self, reduceCtorEq, false_and, and_false, if_false, if_true, ite_true, ite_false, ite_self, Nat.succ_ne_zero, Nat.add_one_ne_zero, not_false_eq_true, not_true_eq_false, Nat.one_ne_zero, Nat.zero_ne_one]
          exact g2
        · simp only [gI_uI, gL_uL, gR_uR, gI_uL, gI_uR, gL_uI, gL_uR, gR_uI, gR_uL, true_and, and_true, Nat.add_right_cancel_iff, Nat.add_left_cancel_iff, Nat.reduceEqDiff, Nat.left_eq_add, Nat.right_eq_add, Nat.add_eq_left, Nat.add_eq_right, Nat.reduceAdd, Nat.succ_ne_self, reduceCtorEq, false_and, and_false, if_false, if_true, ite_true, ite_false, ite_self, Nat.succ_ne_zero, Nat.add_one_ne_zero, not_false_eq_true, not_true_eq_false, Nat.one_ne_zero, Nat.zero_ne_one]
          rw [sz]
  refine sX11_splits_0 hJ ?_
  simp only [h.1.1, nI40, Option.some.injEq, Prod.mk.injEq, exists_eq_left', exists_eq_left, true_and, and_true, and_self, true_or, or_true, forall_const, exists_const, exists_and_left, wcat, Nat.zero_le, Nat.reduceLeDiff, Int32.lt_irrefl, not_false_eq_true, Nat.zero_add, forall_eq]
  refine cm_lotEnd h hm hp ?_
  exact loop1 (H p).length 0 [] S _ (by omega) rfl (Nat.le_refl _) hm (fun j hj => absurd hj (Nat.not_lt_zero _)) (fun j _ hj => hrow j hj) (fun _ _ => rfl) (fun _ _ => ⟨fun _ _ _ => rfl, rfl⟩) rfl Fm.rf
end
