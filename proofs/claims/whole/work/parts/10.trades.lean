/-! the class Trades -/
section
variable {d : Nat} {A : qA} {S : qS} {a r : Nat} {T : List Row}
set_option maxRecDepth 20000 in
theorem ct_has {t : Int32} {f : Bool → qS → Prop} (h : TrAt A S a r T) (hf : f (hasT T t) S) : Run (d + 1) 59 [.ref a, .int t] A S (kZ A f) := by
  refine Run.i (C := mX8_has) rfl rfl rfl fun J hJ => ?_
  refine sX8_has_0 hJ ?_
  obtain ⟨hL, hR, hC, h1, h2⟩ := h
  simp only [hL.1, hC.1, Option.some.injEq, Prod.mk.injEq, exists_eq_left', exists_eq_left, true_and, and_true, and_self, true_or, or_true, forall_const, exists_const, exists_and_left, wcat, Nat.zero_le, Nat.reduceLeDiff, Int32.lt_irrefl, not_false_eq_true, Nat.zero_add, forall_eq]
  refine ⟨fun c => kZ_0 ?_, fun c => ⟨fun c' => kZ_0 ?_, fun c' => kZ_1 ?_⟩⟩
  · rwa [show hasT T t = false from decide_eq_false (fun z => z.1 c)] at hf
  · rwa [show hasT T t = false from decide_eq_false (fun z => z.2 c')] at hf
  · rwa [show hasT T t = true from decide_eq_true ⟨c, c'⟩] at hf
set_option maxRecDepth 20000 in
theorem ct_isSell {t : Int32} {f : Bool → qS → Prop} (h : TrAt A S a r T) (hf : f (isSellT T t) S) : Run (d + 2) 60 [.ref a, .int t] A S (kZ A f) := by
  refine Run.i (C := mX8_isSell) rfl rfl rfl fun J hJ => ?_
  refine sX8_isSell_0 hJ ⟨h.1.1, by decide, ct_has h ?_⟩
  refine q_eqb (fun hb => ⟨Or.inl rfl, kZ_0 ?_⟩) (fun hb => ?_)
  · rwa [show isSellT T t = false by simp [isSellT, hb]] at hf
  · obtain ⟨hL, hR, hC, h1, h2⟩ := h
    obtain ⟨i, hi, rfl⟩ := hasT_i (by omega) hb
    simp only [hL.1, hL.2.1, hR.2.1, cl_n (show i ≤ 100000 by omega), (hC.2 i hi).1, Option.some.injEq, Prod.mk.injEq, exists_eq_left', exists_eq_left, true_and, and_true, and_self, true_or, or_true, forall_const, exists_const, exists_and_left, wcat, Nat.zero_le, Nat.reduceLeDiff, Int32.lt_irrefl, not_false_eq_true, Nat.zero_add, forall_eq]
    refine ⟨vp_n (by omega) (by omega), fun c => kZ_0 ?_, fun c => kZ_1 ?_⟩
    · rwa [show isSellT T (nI i) = false by simp [isSellT, cl_n (show i ≤ 100000 by omega), c]] at hf
    · rwa [show isSellT T (nI i) = true by simp [isSellT, hb, cl_n (show i ≤ 100000 by omega), c]] at hf
set_option maxRecDepth 20000 in
theorem ct_splits {f : Int32 → qS → Prop} (h : TrAt A S a r T) (hf : f (nI (spl T T.length)) S) : Run (d + 1) 61 [.ref a] A S (kI A f) := by
  refine Run.i (C := mX8_splits) rfl rfl rfl fun J hJ => ?_
  obtain ⟨hL, hR, hC, h1, h2⟩ := h
  have loop : ∀ n i, i + n = T.length → J 4 [some (.ref a), some (.int (nI (spl T i))), some (.int (nI i))] [] A S := by
    intro n
    induction n with
    | zero =>
      intro i hi
      refine sX8_splits_4 hJ ?_
      simp only [hL.1, hC.1, nIle (show T.length ≤ 100000 by omega) (show i ≤ 100000 by omega), Option.some.injEq, Prod.mk.injEq, exists_eq_left', exists_eq_left, true_and, and_true, and_self, true_or, or_true, forall_const, exists_const, exists_and_left, wcat, Nat.zero_le, Nat.reduceLeDiff, Int32.lt_irrefl, not_false_eq_true, Nat.zero_add, forall_eq]
      refine ⟨fun _ => kI_i ?_, fun c => absurd (by omega) c⟩
      rwa [show i = T.length by omega]
    | succ n ih =>
      intro i hi
      refine sX8_splits_4 hJ ?_
      simp only [hL.1, hL.2.1, hR.2.1, hC.1, nIle (show T.length ≤ 100000 by omega) (show i ≤ 100000 by omega), cl_n (show i ≤ 100000 by omega), (hC.2 i (by omega)).1, nI_1, Option.some.injEq, Prod.mk.injEq, exists_eq_left', exists_eq_left, true_and, and_true, and_self, true_or, or_true, forall_const, exists_const, exists_and_left, wcat, Nat.zero_le, Nat.reduceLeDiff, Int32.lt_irrefl, not_false_eq_true, Nat.zero_add, forall_eq]
      refine ⟨fun c => absurd c (by omega), fun _ => ⟨vp_n (by omega) (by omega), fun c => ?_, fun c => ?_⟩⟩
      · have := ih (i + 1) (by omega)
        simpa only [spl, if_neg c, Nat.add_zero] using this
      · have := ih (i + 1) (by omega)
        simpa only [spl, if_pos c] using this
  exact sX8_splits_0 hJ (loop T.length 0 (by omega))
set_option maxRecDepth 20000 in
theorem ct_latestDay {f : Int32 → qS → Prop} (h : TrAt A S a r T) (hf : f (lastD T T.length) S) : Run (d + 1) 62 [.ref a] A S (kI A f) := by
  refine Run.i (C := mX8_latestDay) rfl rfl rfl fun J hJ => ?_
  obtain ⟨hL, hR, hC, h1, h2⟩ := h
  have loop : ∀ n i, i + n = T.length → J 4 [some (.ref a), some (.int (lastD T i)), some (.int (nI i))] [] A S := by
    intro n
    induction n with
    | zero =>
      intro i hi
      refine sX8_latestDay_4 hJ ?_
      simp only [hL.1, hC.1, nIle (show T.length ≤ 100000 by omega) (show i ≤ 100000 by omega), Option.some.injEq, Prod.mk.injEq, exists_eq_left', exists_eq_left, true_and, and_true, and_self, true_or, or_true, forall_const, exists_const, exists_and_left, wcat, Nat.zero_le, Nat.reduceLeDiff, Int32.lt_irrefl, not_false_eq_true, Nat.zero_add, forall_eq]
      refine ⟨fun _ => kI_i ?_, fun c => absurd (by omega) c⟩
      rwa [show i = T.length by omega]
    | succ n ih =>
      intro i hi
      refine sX8_latestDay_4 hJ ?_
      simp only [hL.1, hL.2.2.2.1, hR.2.2.2.1, hC.1, nIle (show T.length ≤ 100000 by omega) (show i ≤ 100000 by omega), cl_n (show i ≤ 100000 by omega), (hC.2 i (by omega)).2.2.1, nI_1, Option.some.injEq, Prod.mk.injEq, exists_eq_left', exists_eq_left, true_and, and_true, and_self, true_or, or_true, forall_const, exists_const, exists_and_left, wcat, Nat.zero_le, Nat.reduceLeDiff, Int32.lt_irrefl, not_false_eq_true, Nat.zero_add, forall_eq]
      exact ⟨fun c => absurd c (by omega), fun _ => ⟨vp_n (by omega) (by omega), ih (i + 1) (by omega)⟩⟩
  exact sX8_latestDay_0 hJ (loop T.length 0 (by omega))
set_option maxRecDepth 20000 in
theorem ct_add {s p dy sh pr ru : Int32} {f : qS → Prop} (h : TrAt A S a r T) (hr : T.length < r) (hf : ∀ S', TrAt A S' a r (T ++ [(s, p, dy, sh, pr, ru)]) → Fr S S' a (a + 7) → f S') : Run (d + 1) 64 [.ref a, .int s, .int p, .int dy, .int sh, .int pr, .int ru] A S (kV A f) := by
  refine Run.i (C := mX8_add) rfl rfl rfl fun J hJ => ?_
  obtain ⟨hL, hR, hC, h1, h2⟩ := h
  refine sX8_add_0 hJ ?_
  obtain ⟨l0, l1, l2, l3, l4, l5, l6⟩ := hL
  obtain ⟨q0, q1, q2, q3, q4, q5, q6⟩ := hR
  simp only [l0, l1, l2, l3, l4, l5, l6, q0, q1, q2, q3, q4, q5, q6, hC.1, cl_n (show T.length ≤ 100000 by omega), nIlt (show T.length ≤ 100000 by omega) (show r ≤ 100000 by omega), nI_1, forall_eq, Option.some.injEq, Prod.mk.injEq, exists_eq_left', exists_eq_left, true_and, and_true, and_self, true_or, or_true, forall_const, exists_const, exists_and_left, wcat, Nat.zero_le, Nat.reduceLeDiff, Int32.lt_irrefl, not_false_eq_true, Nat.zero_add, forall_eq, gI_uI, gL_uL, gR_uR, gI_uL, gI_uR, gL_uI, gL_uR, gR_uI, gR_uL, true_and, and_true, Nat.add_right_cancel_iff, Nat.add_left_cancel_iff, Nat.reduceEqDiff, Nat.left_eq_add, Nat.right_eq_add, Nat.add_eq_left, Nat.add_eq_right, Nat.reduceAdd, Nat.succ_ne_self, reduceCtorEq, false_and, and_false, if_false, if_true, ite_true, ite_false, ite_self, Nat.succ_ne_zero, Nat.add_one_ne_zero, not_false_eq_true, not_true_eq_false, Nat.one_ne_zero, Nat.zero_ne_one]
  have v := vp_n hr (by omega)
  refine ⟨fun _ => ⟨v, v, v, v, v, v, kV_i (hf _ ⟨⟨l0, l1, l2, l3, l4, l5, l6⟩, ⟨?_, q1, q2, q3, q4, q5, q6⟩, ⟨?_, fun i hi => ?_⟩, ?_, h2⟩ ?_)⟩, fun c => absurd hr c⟩
  · simp only [gI_uI, gL_uL, gR_uR, gI_uL, gI_uR, gL_uI, gL_uR, gR_uI, gR_uL, true_and, and_true, Nat.add_right_cancel_iff, Nat.add_left_cancel_iff, Nat.reduceEqDiff, Nat.left_eq_add, Nat.right_eq_add, Nat.add_eq_left, Nat.add_eq_right, Nat.reduceAdd, Nat.succ_ne_self, reduceCtorEq, false_and, and_false, if_false, if_true, ite_true, ite_false, ite_self, Nat.succ_ne_zero, Nat.add_one_ne_zero, not_false_eq_true, not_true_eq_false, Nat.one_ne_zero, Nat.zero_ne_one]; exact q0
  · simp only [gI_uI, gL_uL, gR_uR, gI_uL, gI_uR, gL_uI, gL_uR, gR_uI, gR_uL, true_and, and_true, Nat.add_right_cancel_iff, Nat.add_left_cancel_iff, Nat.reduceEqDiff, Nat.left_eq_add, Nat.right_eq_add, Nat.add_eq_left, Nat.add_eq_right, Nat.reduceAdd, Nat.succ_ne_self, reduceCtorEq, false_and, and_false, if_false, if_true, ite_true, ite_false, ite_self, Nat.succ_ne_zero, Nat.add_one_ne_zero, not_false_eq_true, not_true_eq_false, Nat.one_ne_zero, Nat.zero_ne_one, List.length_append, List.length_singleton, and_self]
  · simp only [List.length_append, List.length_singleton] at hi
    by_cases hi' : i = T.length
    · subst hi'
      rw [tr_end]
      simp only [gI_uI, gL_uL, gR_uR, gI_uL, gI_uR, gL_uI, gL_uR, gR_uI, gR_uL, true_and, and_true, Nat.add_right_cancel_iff, Nat.add_left_cancel_iff, Nat.reduceEqDiff, Nat.left_eq_add, Nat.right_eq_add, Nat.add_eq_left, Nat.add_eq_right, Nat.reduceAdd, Nat.succ_ne_self, reduceCtorEq, false_and, and_false, if_false, if_true, ite_true, ite_false, ite_self, Nat.succ_ne_zero, Nat.add_one_ne_zero, not_false_eq_true, not_true_eq_false, Nat.one_ne_zero, Nat.zero_ne_one, and_self]
    · rw [tr_app (by omega)]
      simp only [gI_uI, gL_uL, gR_uR, gI_uL, gI_uR, gL_uI, gL_uR, gR_uI, gR_uL, true_and, and_true, Nat.add_right_cancel_iff, Nat.add_left_cancel_iff, Nat.reduceEqDiff, Nat.left_eq_add, Nat.right_eq_add, Nat.add_eq_left, Nat.add_eq_right, Nat.reduceAdd, Nat.succ_ne_self, reduceCtorEq, false_and, and_false, if_false, if_true, ite_true, ite_false, ite_self, Nat.succ_ne_zero, Nat.add_one_ne_zero, not_false_eq_true, not_true_eq_false, Nat.one_ne_zero, Nat.zero_ne_one, hi']
      exact hC.2 i (by omega)
  · simp only [List.length_append, List.length_singleton]; omega
  · exact (((((((Fr.rf.uI (by omega) (by omega)).uI (by omega) (by omega)).uI (by omega) (by omega)).uI (by omega) (by omega)).uI (by omega) (by omega)).uI (by omega) (by omega)).uI (by omega) (by omega))
set_option maxRecDepth 20000 in
theorem ct_copyFrom {b r' : Nat} {T' : List Row} {f : qS → Prop} (h : TrAt A S a r T') (h' : TrAt A S b r' T) (hr : T.length ≤ r) (hab : a + 7 ≤ b ∨ b + 7 ≤ a) (hf : ∀ S', TrAt A S' a r T → Fr S S' a (a + 7) → f S') : Run (d + 1) 63 [.ref a, .ref b] A S (kV A f) := by
  refine Run.i (C := mX8_copyFrom) rfl rfl rfl fun J hJ => ?_
  obtain ⟨hL, hR, hC, h1, h2⟩ := h
  obtain ⟨hL', hR', hC', h1', h2'⟩ := h'
  refine sX8_copyFrom_0 hJ ?_
  obtain ⟨l0, l1, l2, l3, l4, l5, l6⟩ := hL
  obtain ⟨q0, q1, q2, q3, q4, q5, q6⟩ := hR
  obtain ⟨m0, m1, m2, m3, m4, m5, m6⟩ := hL'
  obtain ⟨p0, p1, p2, p3, p4, p5, p6⟩ := hR'
  have e : (if nI r < nI T.length then nI r else nI T.length) = nI T.length := if_neg (by rw [nIlt (by omega) (by omega)]; omega)
  have z : (0 : Int32).toNatClampNeg = 0 := rfl
  have np : ¬ nI T.length < 0 := nI_pos (by omega)
  simp only [l0, l1, l2, l3, l4, l5, l6, q0, q1, q2, q3, q4, q5, q6, m0, m1, m2, m3, m4, m5, m6, p0, p1, p2, p3, p4, p5, p6, hC'.1, e, z, np, cl_n (show T.length ≤ 100000 by omega), hr, h1', gR_uC, Option.some.injEq, Prod.mk.injEq, exists_eq_left', exists_eq_left, true_and, and_true, and_self, true_or, or_true, forall_const, exists_const, exists_and_left, wcat, Nat.zero_le, Nat.reduceLeDiff, Int32.lt_irrefl, not_false_eq_true, Nat.zero_add, forall_eq, gI_uI, gL_uL, gR_uR, gI_uL, gI_uR, gL_uI, gL_uR, gR_uI, gR_uL, true_and, and_true, Nat.add_right_cancel_iff, Nat.add_left_cancel_iff, Nat.reduceEqDiff, Nat.left_eq_add, Nat.right_eq_add, Nat.add_eq_left, Nat.add_eq_right, Nat.reduceAdd, Nat.succ_ne_self, reduceCtorEq, false_and, and_false, if_false, if_true, ite_true, ite_false, ite_self, Nat.succ_ne_zero, Nat.add_one_ne_zero, not_false_eq_true, not_true_eq_false, Nat.one_ne_zero, Nat.zero_ne_one]
  refine kV_i (hf _ ⟨⟨l0, l1, l2, l3, l4, l5, l6⟩, ⟨?_, q1, q2, q3, q4, q5, q6⟩, ⟨?_, fun i hi => ?_⟩, hr, h2⟩ ?_)
  · simp only [gI_uC, gI_uI, gL_uL, gR_uR, gI_uL, gI_uR, gL_uI, gL_uR, gR_uI, gR_uL, true_and, and_true, Nat.add_right_cancel_iff, Nat.add_left_cancel_iff, Nat.reduceEqDiff, Nat.left_eq_add, Nat.right_eq_add, Nat.add_eq_left, Nat.add_eq_right, Nat.reduceAdd, Nat.succ_ne_self, reduceCtorEq, false_and, and_false, if_false, if_true, ite_true, ite_false, ite_self, Nat.succ_ne_zero, Nat.add_one_ne_zero, not_false_eq_true, not_true_eq_false, Nat.one_ne_zero, Nat.zero_ne_one]; exact q0
  · simp only [gI_uI, gL_uL, gR_uR, gI_uL, gI_uR, gL_uI, gL_uR, gR_uI, gR_uL, and_self, if_true]
  · have g : ∀ c, c < 7 → ∀ c', c' < 7 → (b + c = a + c') = False := fun c hc c' hc' => by simp only [eq_iff_iff, iff_false]; omega
    have ga : ∀ c, c < 7 → (b + c = a) = False := fun c hc => by simp only [eq_iff_iff, iff_false]; omega
    simp only [gI_uC, gI_uI, gL_uL, gR_uR, gI_uL, gI_uR, gL_uI, gL_uR, gR_uI, gR_uL, true_and, and_true, Nat.add_right_cancel_iff, Nat.add_left_cancel_iff, Nat.reduceEqDiff, Nat.left_eq_add, Nat.right_eq_add, Nat.add_eq_left, Nat.add_eq_right, Nat.reduceAdd, Nat.succ_ne_self, reduceCtorEq, false_and, and_false, if_false, if_true, ite_true, ite_false, ite_self, Nat.succ_ne_zero, Nat.add_one_ne_zero, not_false_eq_true, not_true_eq_false, Nat.one_ne_zero, Nat.zero_ne_one, Nat.sub_zero, Nat.zero_add, hi, Nat.zero_le, true_and, g 2 (by omega) 1 (by omega), g 2 (by omega) 2 (by omega), g 3 (by omega) 1 (by omega), g 3 (by omega) 2 (by omega), g 4 (by omega) 1 (by omega), g 4 (by omega) 2 (by omega), g 4 (by omega) 3 (by omega), g 5 (by omega) 1 (by omega), g 5 (by omega) 2 (by omega), g 5 (by omega) 3 (by omega), g 5 (by omega) 4 (by omega), g 6 (by omega) 1 (by omega), g 6 (by omega) 2 (by omega), g 6 (by omega) 3 (by omega), g 6 (by omega) 4 (by omega), g 6 (by omega) 5 (by omega)]
    exact hC'.2 i hi
  · exact ((((((Fr.rf.uC (by omega) (by omega)).uC (by omega) (by omega)).uC (by omega) (by omega)).uC (by omega) (by omega)).uC (by omega) (by omega)).uC (by omega) (by omega)).uI (by omega) (by omega)
/-- rows from t on are shifted down, up to j -/
def Shf (S S' : qS) (a t j : Nat) : Prop := ∀ c, 1 ≤ c → c < 7 → ∀ k, gI S' (a + c) k = if t ≤ k ∧ k < j then gI S (a + c) (k + 1) else gI S (a + c) k
set_option maxRecDepth 20000 in
theorem ct_remove {t : Nat} {f : qS → Prop} (h : TrAt A S a r T) (ht : t < T.length) (hf : ∀ S', TrAt A S' a r (T.eraseIdx t) → Fr S S' a (a + 7) → f S') : Run (d + 2) 65 [.ref a, .int (nI t)] A S (kV A f) := by
  refine Run.i (C := mX8_remove) rfl rfl rfl fun J hJ => ?_
  refine sX8_remove_0 hJ ⟨h.1.1, by decide, ct_has h ?_⟩
  obtain ⟨hL, hR, hC, h1, h2⟩ := h
  rw [hasT_n (by omega) ht]
  refine q_neb (fun _ => ?_) (fun z => by cases z)
  obtain ⟨l0, l1, l2, l3, l4, l5, l6⟩ := hL
  have loop : ∀ n j (Sj : qS) (w : Option Value), t ≤ j → j + 1 + n = T.length → TrR Sj a r → gI Sj a 7 = nI T.length → Shf S Sj a t j → Fr S Sj a (a + 7) → J 11 [some (.ref a), w, some (.int (nI j))] [] A Sj := by
    intro n
    induction n with
    | zero =>
      intro j Sj w hj hn hR hc hs hF
      refine sX8_remove_11 hJ ?_
      obtain ⟨q0, q1, q2, q3, q4, q5, q6⟩ := hR
      simp only [l0, hc, nI_1, nIle (show T.length ≤ 100000 by omega) (show j + 1 ≤ 100000 by omega), Option.some.injEq, Prod.mk.injEq, exists_eq_left', exists_eq_left, true_and, and_true, and_self, true_or, or_true, forall_const, exists_const, exists_and_left, wcat, Nat.zero_le, Nat.reduceLeDiff, Int32.lt_irrefl, not_false_eq_true, Nat.zero_add, forall_eq]
      refine ⟨fun _ => kV_i (hf _ ⟨⟨l0, l1, l2, l3, l4, l5, l6⟩, ⟨?_, q1, q2, q3, q4, q5, q6⟩, ⟨?_, fun i hi => ?_⟩, ?_, h2⟩ (hF.uI (by omega) (by omega))), fun c => absurd (by omega) c⟩
      · simp only [gI_uI, gL_uL, gR_uR, gI_uL, gI_uR, gL_uI, gL_uR, gR_uI, gR_uL, true_and, and_true, Nat.add_right_cancel_iff, Nat.add_left_cancel_iff, Nat.reduceEqDiff, Nat.left_eq_add, Nat.right_eq_add, Nat.add_eq_left, Nat.add_eq_right, Nat.reduceAdd, Nat.succ_ne_self, reduceCtorEq, false_and, and_false, if_false, if_true, ite_true, ite_false, ite_self, Nat.succ_ne_zero, Nat.add_one_ne_zero, not_false_eq_true, not_true_eq_false, Nat.one_ne_zero, Nat.zero_ne_one]; exact q0
      · simp only [gI_uI, gL_uL, gR_uR, gI_uL, gI_uR, gL_uI, gL_uR, gR_uI, gR_uL, and_self, if_true, List.length_eraseIdx_of_lt ht]
        rw [show T.length = (T.length - 1) + 1 by omega, nI_pred, Nat.add_sub_cancel]
      · rw [List.length_eraseIdx_of_lt ht] at hi
        rw [tr_del]
        simp only [gI_uI, gL_uL, gR_uR, gI_uL, gI_uR, gL_uI, gL_uR, gR_uI, gR_uL, true_and, and_true, Nat.add_right_cancel_iff, Nat.add_left_cancel_iff, Nat.reduceEqDiff, Nat.left_eq_add, Nat.right_eq_add, Nat.add_eq_left, Nat.add_eq_right, Nat.reduceAdd, Nat.succ_ne_self, reduceCtorEq, false_and, and_false, if_false, if_true, ite_true, ite_false, ite_self, Nat.succ_ne_zero, Nat.add_one_ne_zero, not_false_eq_true, not_true_eq_false, Nat.one_ne_zero, Nat.zero_ne_one, hs 1 (by omega) (by omega), hs 2 (by omega) (by omega), hs 3 (by omega) (by omega), hs 4 (by omega) (by omega), hs 5 (by omega) (by omega), hs 6 (by omega) (by omega)]
        by_cases c : i < t
        · simp only [if_pos c, if_neg (show ¬ (t ≤ i ∧ i < j) by omega)]
          exact hC.2 i (by omega)
        · simp only [if_neg c, if_pos (show t ≤ i ∧ i < j by omega)]
          exact hC.2 (i + 1) (by omega)
      · rw [List.length_eraseIdx_of_lt ht]; omega
    | succ n ih =>
      intro j Sj w hj hn hR hc hs hF
      refine sX8_remove_11 hJ ?_
      have hR' := hR
      obtain ⟨q0, q1, q2, q3, q4, q5, q6⟩ := hR
      have v1 := vp_n (show j + 1 < r by omega) (by omega)
      have v0 := vp_n (show j < r by omega) (by omega)
      simp only [l0, l1, l2, l3, l4, l5, l6, q1, q2, q3, q4, q5, q6, hc, nI_1, nIle (show T.length ≤ 100000 by omega) (show j + 1 ≤ 100000 by omega), cl_n (show j ≤ 100000 by omega), cl_n (show j + 1 ≤ 100000 by omega), v0, v1, Option.some.injEq, Prod.mk.injEq, exists_eq_left', exists_eq_left, true_and, and_true, and_self, true_or, or_true, forall_const, exists_const, exists_and_left, wcat, Nat.zero_le, Nat.reduceLeDiff, Int32.lt_irrefl, not_false_eq_true, Nat.zero_add, forall_eq, gI_uI, gL_uL, gR_uR, gI_uL, gI_uR, gL_uI, gL_uR, gR_uI, gR_uL, true_and, and_true, Nat.add_right_cancel_iff, Nat.add_left_cancel_iff, Nat.reduceEqDiff, Nat.left_eq_add, Nat.right_eq_add, Nat.add_eq_left, Nat.add_eq_right, Nat.reduceAdd, Nat.succ_ne_self, reduceCtorEq, false_and, and_false, if_false, if_true, ite_true, ite_false, ite_self, Nat.succ_ne_zero, Nat.add_one_ne_zero, not_false_eq_true, not_true_eq_false, Nat.one_ne_zero, Nat.zero_ne_one]
      refine ⟨fun c => absurd c (by omega), fun _ => ih (j + 1) _ _ (by omega) (by omega) ⟨?_, q1, q2, q3, q4, q5, q6⟩ ?_ ?_ ?_⟩
      · simp only [gI_uI, gL_uL, gR_uR, gI_uL, gI_uR, gL_uI, gL_uR, gR_uI, gR_uL, true_and, and_true, Nat.add_right_cancel_iff, Nat.add_left_cancel_iff, Nat.reduceEqDiff, Nat.left_eq_add, Nat.right_eq_add, Nat.add_eq_left, Nat.add_eq_right, Nat.reduceAdd, Nat.succ_ne_self, reduceCtorEq, false_and, and_false, if_false, if_true, ite_true, ite_false, ite_self, Nat.succ_ne_zero, Nat.add_one_ne_zero, not_false_eq_true, not_true_eq_false, Nat.one_ne_zero, Nat.zero_ne_one]; exact q0
      · simp only [gI_uI, gL_uL, gR_uR, gI_uL, gI_uR, gL_uI, gL_uR, gR_uI, gR_uL, true_and, and_true, Nat.add_right_cancel_iff, Nat.add_left_cancel_iff, Nat.reduceEqDiff, Nat.left_eq_add, Nat.right_eq_add, Nat.add_eq_left, Nat.add_eq_right, Nat.reduceAdd, Nat.succ_ne_self, reduceCtorEq, false_and, and_false, if_false, if_true, ite_true, ite_false, ite_self, Nat.succ_ne_zero, Nat.add_one_ne_zero, not_false_eq_true, not_true_eq_false, Nat.one_ne_zero, Nat.zero_ne_one]; exact hc
      · intro c hc1 hc2 k
        rcases (by omega : c = 1 ∨ c = 2 ∨ c = 3 ∨ c = 4 ∨ c = 5 ∨ c = 6) with rfl | rfl | rfl | rfl | rfl | rfl
        all_goals simp only [gI_uI, gL_uL, gR_uR, gI_uL, gI_uR, gL_uI, gL_uR, gR_uI, gR_uL, true_and, and_true, Nat.add_right_cancel_iff, Nat.add_left_cancel_iff, Nat.reduceEqDiff, Nat.left_eq_add, Nat.right_eq_add, Nat.add_eq_left, Nat.add_eq_right, Nat.reduceAdd, Nat.succ_ne_self, reduceCtorEq, false_and, and_false, if_false, if_true, ite_true, ite_false, ite_self, Nat.succ_ne_zero, Nat.add_one_ne_zero, not_false_eq_true, not_true_eq_false, Nat.one_ne_zero, Nat.zero_ne_one, hs 1 (by omega) (by omega), hs 2 (by omega) (by omega), hs 3 (by omega) (by omega), hs 4 (by omega) (by omega), hs 5 (by omega) (by omega), hs 6 (by omega) (by omega)]
        all_goals by_cases e : k = j
        all_goals first
          | (subst e; rw [if_pos rfl, if_neg (by omega), if_pos (by omega)])
          | (rw [if_neg e]
             by_cases e2 : t ≤ k ∧ k < j
             · rw [if_pos e2, if_pos (by omega)]
             · rw [if_neg e2, if_neg (by omega)])
      · exact (((((hF.uI (by omega) (by omega)).uI (by omega) (by omega)).uI (by omega) (by omega)).uI (by omega) (by omega)).uI (by omega) (by omega)).uI (by omega) (by omega)
  exact loop (T.length - t - 1) t S _ (Nat.le_refl t) (by omega) hR hC.1 (fun c _ _ k => by rw [if_neg (by omega)]) Fr.rf
end
