/-! Book.putInOrder, gainOf, deferredOf, allGains, allDeferred -/
section
variable {d : Nat} {A : qA} {S : qS} {B : Nat} {H : Nat → List Lot} {G : List CPie} {O : List Nat} {z : Int64} {E : BkE}
set_option maxRecDepth 20000 in
set_option maxHeartbeats 4000000 in
theorem ct_putInOrder {a r : Nat} {T : List Row} {f : qS → Prop} (h : BkAt A S B H G O z E) (hT : TrAt A S a r T) (hab : a + 7 ≤ B ∨ B + 144 ≤ a) (hf : ∀ S', BkAt A S' B H G O z (E.1, E.2.1, E.2.2.1, fun i => gI S' (B + 15) i, fun i => gI S' (B + 16) i) → (∀ i, i < T.length → gI S' (B + 15) i = nI (ot (ordL (dayF T) T.length) i)) → (∀ i, i < T.length → gI S' (B + 16) (ot (ordL (dayF T) T.length) i) = nI i) → Fr S S' (B + 15) (B + 17) → f S') : Run (d + 1) 3 [.ref B, .ref a] A S (kV A f) := by
  refine Run.i (C := mX0_putInOrder) rfl rfl rfl fun J hJ => ?_
  have h0 := h
  obtain ⟨⟨l0, l1, l13, l14, l15, l16, l17⟩, ⟨q0, q1, q2, q3, q4, q5, q6, q7⟩, -⟩ := h
  obtain ⟨⟨t0, t1, t2, t3, -⟩, ⟨-, s1, s2, s3, -⟩, hC, hl, hr24⟩ := hT
  have eR : ∀ {Sj : qS}, Fr S Sj (B + 15) (B + 17) → ∀ k, gR Sj B k = gR S B k := fun hr k => (hr B (by omega) k).2.2
  have eT : ∀ {Sj : qS}, Fr S Sj (B + 15) (B + 17) → gR Sj a 3 = some (a + 3) := fun hr => ((hr a (by omega) 3).2.2).trans s3
  have eD : ∀ {Sj : qS}, Fr S Sj (B + 15) (B + 17) → ∀ i, i < T.length → gI Sj (a + 3) i = dayF T i := fun hr i hi => ((hr (a + 3) (by omega) i).1).trans (hC.2 i hi).2.2.1
  have loop3 : ∀ n i (Sj : qS) (w1 w4 : Option Value), i + n = T.length → Fr S Sj (B + 15) (B + 17) → (∀ j, j < T.length → gI Sj (B + 15) j = nI (ot (ordL (dayF T) T.length) j)) → (∀ j, j < i → gI Sj (B + 16) (ot (ordL (dayF T) T.length) j) = nI j) → J 86 [some (.ref B), w1, some (.int (nI T.length)), some (.int (nI i)), w4] [] A Sj := by
    intro n
    induction n with
    | zero =>
      intro i Sj w1 w4 hi hr ho hp
      refine sX0_putInOrder_86 hJ ?_
      simp only [nIle (show T.length ≤ 100000 by omega) (show i ≤ 100000 by omega)]
      exact ⟨fun _ => kV_i (hf _ (h0.ord hr) ho (fun j hj => hp j (by omega)) hr), fun c => absurd (by omega) c⟩
    | succ n ih =>
      intro i Sj w1 w4 hi hr ho hp
      refine sX0_putInOrder_86 hJ ?_
      have hb := ordL_ot (D := dayF T) (n := T.length) (i := i) (by omega)
      simp only [nIle (show T.length ≤ 100000 by omega) (show i ≤ 100000 by omega), l0, eR hr, q5, q4, l15, l16, cl_n (show i ≤ 100000 by omega), vp_n (show i < 24 by omega) (show 24 ≤ 100000 by omega), ho i (by omega), cl_n (show ot (ordL (dayF T) T.length) i ≤ 100000 by omega), vp_n (show ot (ordL (dayF T) T.length) i < 24 by omega) (show 24 ≤ 100000 by omega), nI_1, Option.some.injEq, Prod.mk.injEq, exists_eq_left', exists_eq_left, true_and, and_true, and_self, true_or, or_true, forall_const, exists_const, exists_and_left, wcat, Nat.zero_le, Nat.reduceLeDiff, Int32.lt_irrefl, not_false_eq_true, Nat.zero_add, forall_eq]
      refine ⟨fun c => absurd c (by omega), fun _ => ih (i + 1) _ _ _ (by omega) (hr.uI (by omega) (by omega)) (fun j hj => ?_) (fun j hj => ?_)⟩
      · simp only [gI_uI, gL_uL, gR_uR, gI_uL, gI_uR, gL_uI, gL_uR, gR_uI, gR_uL, true_and, and_true, Nat.add_right_cancel_iff, Nat.add_left_cancel_iff, Nat.reduceEqDiff, Nat.left_eq_add, Nat.right_eq_add, Nat.add_eq_left, Nat.add_eq_right, Nat.reduceAdd, Nat.succ_ne_self, reduceCtorEq, false_and, and_false, if_false, if_true, ite_true, ite_false, ite_self, Nat.succ_ne_zero, Nat.add_one_ne_zero, not_false_eq_true, not_true_eq_false, Nat.one_ne_zero, Nat.zero_ne_one]; exact ho j hj
      · by_cases e : j = i
        · subst e; simp only [gI_uI, gL_uL, gR_uR, gI_uL, gI_uR, gL_uI, gL_uR, gR_uI, gR_uL, true_and, and_true, Nat.add_right_cancel_iff, Nat.add_left_cancel_iff, Nat.reduceEqDiff, Nat.left_eq_add, Nat.right_eq_add, Nat.add_eq_left, Nat.add_eq_right, Nat.reduceAdd, Nat.succ_ne_self, reduceCtorEq, false_and, and_false, if_false, if_true, ite_true, ite_false, ite_self, Nat.succ_ne_zero, Nat.add_one_ne_zero, not_false_eq_true, not_true_eq_false, Nat.one_ne_zero, Nat.zero_ne_one]
        · have : ¬ ot (ordL (dayF T) T.length) j = ot (ordL (dayF T) T.length) i := fun w => e (ordL_inj _ _ _ _ (by omega) (by omega) w)
          simp only [gI_uI, gL_uL, gR_uR, gI_uL, gI_uR, gL_uI, gL_uR, gR_uI, gR_uL, true_and, and_true, Nat.add_right_cancel_iff, Nat.add_left_cancel_iff, Nat.reduceEqDiff, Nat.left_eq_add, Nat.right_eq_add, Nat.add_eq_left, Nat.add_eq_right, Nat.reduceAdd, Nat.succ_ne_self, reduceCtorEq, false_and, and_false, if_false, if_true, ite_true, ite_false, ite_self, Nat.succ_ne_zero, Nat.add_one_ne_zero, not_false_eq_true, not_true_eq_false, Nat.one_ne_zero, Nat.zero_ne_one, this]; exact hp j (by omega)
  have loop1 : ∀ n t (Sj : qS) (w4 : Option Value), t + n = T.length → Fr S Sj (B + 15) (B + 17) → (∀ j, j < t → gI Sj (B + 15) j = nI (ot (ordL (dayF T) t) j)) → J 12 [some (.ref B), some (.ref a), some (.int (nI T.length)), some (.int (nI t)), w4] [] A Sj := by
    intro n
    induction n with
    | zero =>
      intro t Sj w4 hi hr ho
      refine sX0_putInOrder_12 hJ ?_
      simp only [nIle (show T.length ≤ 100000 by omega) (show t ≤ 100000 by omega)]
      refine ⟨fun _ => ?_, fun c => absurd (by omega) c⟩
      have e : t = T.length := by omega
      subst e
      exact loop3 T.length 0 Sj _ _ (by omega) hr ho (fun j hj => absurd hj (Nat.not_lt_zero _))
    | succ n ih =>
      intro t Sj w4 hi hr ho
      refine sX0_putInOrder_12 hJ ?_
      simp only [nIle (show T.length ≤ 100000 by omega) (show t ≤ 100000 by omega)]
      refine ⟨fun c => absurd c (by omega), fun _ => ?_⟩
      have fin : ∀ k (Sk : qS) (w : Option Value), k ≤ t → Fr S Sk (B + 15) (B + 17) → inp (dayF T) (ordL (dayF T) t) t t = k → (∀ j, j < k → gI Sk (B + 15) j = nI (ot (ordL (dayF T) t) j)) → (∀ j, k < j → j ≤ t → gI Sk (B + 15) j = nI (ot (ordL (dayF T) t) (j - 1))) → J 12 [some (.ref B), some (.ref a), some (.int (nI T.length)), some (.int (nI (t + 1))), w] [] A (uI Sk (B + 15) k (nI t)) := by
        intro k Sk w hk hrk ei e1 e2
        refine ih (t + 1) _ _ (by omega) (hrk.uI (by omega) (by omega)) (fun j hj => ?_)
        rw [ordL, ei, ot_ins (by rw [ordL_len]; exact hk)]
        by_cases c1 : j < k
        · have : ¬ j = k := by omega
          simp only [gI_uI, gL_uL, gR_uR, gI_uL, gI_uR, gL_uI, gL_uR, gR_uI, gR_uL, true_and, and_true, Nat.add_right_cancel_iff, Nat.add_left_cancel_iff, Nat.reduceEqDiff, Nat.left_eq_add, Nat.right_eq_add, Nat.add_eq_left, Nat.add_eq_right, Nat.reduceAdd, Nat.succ_ne_self, reduceCtorEq, false_and, and_false, if_false, if_true, ite_true, ite_false, ite_self, Nat.succ_ne_zero, Nat.add_one_ne_zero, not_false_eq_true, not_true_eq_false, Nat.one_ne_zero, Nat.zero_ne_one, this, c1]; exact e1 j c1
        · by_cases c2 : j = k
          · simp only [gI_uI, gL_uL, gR_uR, gI_uL, gI_uR, gL_uI, gL_uR, gR_uI, gR_uL, true_and, and_true, Nat.add_right_cancel_iff, Nat.add_left_cancel_iff, Nat.reduceEqDiff, Nat.left_eq_add, Nat.right_eq_add, Nat.add_eq_left, Nat.add_eq_right, Nat.reduceAdd, Nat.succ_ne_self, reduceCtorEq, false_and, and_false, if_false, if_true, ite_true, ite_false, ite_self, Nat.succ_ne_zero, Nat.add_one_ne_zero, not_false_eq_true, not_true_eq_false, Nat.one_ne_zero, Nat.zero_ne_one, c2, Nat.lt_irrefl]
          · simp only [gI_uI, gL_uL, gR_uR, gI_uL, gI_uR, gL_uI, gL_uR, gR_uI, gR_uL, true_and, and_true, Nat.add_right_cancel_iff, Nat.add_left_cancel_iff, Nat.reduceEqDiff, Nat.left_eq_add, Nat.right_eq_add, Nat.add_eq_left, Nat.add_eq_right, Nat.reduceAdd, Nat.succ_ne_self, reduceCtorEq, false_and, and_false, if_false, if_true, ite_true, ite_false, ite_self, Nat.succ_ne_zero, Nat.add_one_ne_zero, not_false_eq_true, not_true_eq_false, Nat.one_ne_zero, Nat.zero_ne_one, c1, c2]; exact e2 j (by omega) (by omega)
      have inner : ∀ k (Sk : qS), k ≤ t → Fr S Sk (B + 15) (B + 17) → inp (dayF T) (ordL (dayF T) t) t t = inp (dayF T) (ordL (dayF T) t) t k → (∀ j, j < k → gI Sk (B + 15) j = nI (ot (ordL (dayF T) t) j)) → (∀ j, k < j → j ≤ t → gI Sk (B + 15) j = nI (ot (ordL (dayF T) t) (j - 1))) → J 20 [some (.ref B), some (.ref a), some (.int (nI T.length)), some (.int (nI t)), some (.int (nI k))] [] A Sk := by
        intro k
        induction k with
        | zero =>
          intro Sk hk hrk ei e1 e2
          refine sX0_putInOrder_20 hJ ?_
          have z0 : (nI 0 ≤ 0) = True := by decide
          have c0 : (nI 0).toNatClampNeg = 0 := rfl
          simp only [z0, l0, eR hrk, q4, l15, c0, vp_n (show 0 < 24 by omega) (show 24 ≤ 100000 by omega), nI_1, not_true_eq_false, false_imp_iff, true_imp_iff, Option.some.injEq, Prod.mk.injEq, exists_eq_left', exists_eq_left, true_and, and_true, and_self, true_or, or_true, forall_const, exists_const, exists_and_left, wcat, Nat.zero_le, Nat.reduceLeDiff, Int32.lt_irrefl, not_false_eq_true, Nat.zero_add, forall_eq]
          exact fin 0 Sk _ (by omega) hrk ei e1 e2
        | succ k ihk =>
          intro Sk hk hrk ei e1 e2
          refine sX0_putInOrder_20 hJ ?_
          have z0 : (nI (k + 1) ≤ 0) = False := by rw [show (0 : Int32) = nI 0 from rfl, nIle (by omega) (by omega)]; simp
          have pm : nI (k + 1) - 1 = nI k := nI_pred k
          have pm' : nI (k + 1) + -1 = nI k := nIm1
          have hb := ordL_ot (D := dayF T) (n := t) (i := k) (by omega)
          simp only [z0, pm, pm', l0, t0, t3, eT hrk, eR hrk, q4, l15, cl_n (show k ≤ 100000 by omega), cl_n (show k + 1 ≤ 100000 by omega), cl_n (show t ≤ 100000 by omega), vp_n (show k < 24 by omega) (show 24 ≤ 100000 by omega), vp_n (show k + 1 < 24 by omega) (show 24 ≤ 100000 by omega), vp_n (show t < r by omega) (show r ≤ 100000 by omega), e1 k (by omega), cl_n (show ot (ordL (dayF T) t) k ≤ 100000 by omega), vp_n (show ot (ordL (dayF T) t) k < r by omega) (show r ≤ 100000 by omega), eD hrk t (by omega), eD hrk (ot (ordL (dayF T) t) k) (by omega), nI_1, not_false_eq_true, false_imp_iff, true_imp_iff, Option.some.injEq, Prod.mk.injEq, exists_eq_left', exists_eq_left, true_and, and_true, and_self, true_or, or_true, forall_const, exists_const, exists_and_left, wcat, Nat.zero_le, Nat.reduceLeDiff, Int32.lt_irrefl, not_false_eq_true, Nat.zero_add, forall_eq]
          rw [inp] at ei
          refine ⟨fun c => ?_, fun c => ?_⟩
          · rw [if_pos c] at ei
            exact fin (k + 1) Sk _ hk hrk ei e1 e2
          · rw [if_neg c] at ei
            refine ihk _ (by omega) (hrk.uI (by omega) (by omega)) ei (fun j hj => ?_) (fun j h1 h2 => ?_)
            · have : ¬ j = k + 1 := by omega
              simp only [gI_uI, gL_uL, gR_uR, gI_uL, gI_uR, gL_uI, gL_uR, gR_uI, gR_uL, true_and, and_true, Nat.add_right_cancel_iff, Nat.add_left_cancel_iff, Nat.reduceEqDiff, Nat.left_eq_add, Nat.right_eq_add, Nat.add_eq_left, Nat.add_eq_right, Nat.reduceAdd, Nat.succ_ne_self, reduceCtorEq, false_and, and_false, if_false, if_true, ite_true, ite_false, ite_self, Nat.succ_ne_zero, Nat.add_one_ne_zero, not_false_eq_true, not_true_eq_false, Nat.one_ne_zero, Nat.zero_ne_one, this]; exact e1 j (by omega)
            · by_cases e : j = k + 1
              · simp only [gI_uI, gL_uL, gR_uR, gI_uL, gI_uR, gL_uI, gL_uR, gR_uI, gR_uL, true_and, and_true, Nat.add_right_cancel_iff, Nat.add_left_cancel_iff, Nat.reduceEqDiff, Nat.left_eq_add, Nat.right_eq_add, Nat.add_eq_left, Nat.add_eq_right, Nat.reduceAdd, Nat.succ_ne_self, reduceCtorEq, false_and, and_false, if_false, if_true, ite_true, ite_false, ite_self, Nat.succ_ne_zero, Nat.add_one_ne_zero, not_false_eq_true, not_true_eq_false, Nat.one_ne_zero, Nat.zero_ne_one, e, Nat.add_sub_cancel]
              · simp only [gI_uI, gL_uL, gR_uR, gI_uL, gI_uR, gL_uI, gL_uR, gR_uI, gR_uL, true_and, and_true, Nat.add_right_cancel_iff, Nat.add_left_cancel_iff, Nat.reduceEqDiff, Nat.left_eq_add, Nat.right_eq_add, Nat.add_eq_left, Nat.add_eq_right, Nat.reduceAdd, Nat.succ_ne_self, reduceCtorEq, false_and, and_false, if_false, if_true, ite_true, ite_false, ite_self, Nat.succ_ne_zero, Nat.add_one_ne_zero, not_false_eq_true, not_true_eq_false, Nat.one_ne_zero, Nat.zero_ne_one, e]; exact e2 j (by omega) h2
      exact inner t Sj (Nat.le_refl t) hr rfl ho (fun j h1 h2 => by omega)
  refine sX0_putInOrder_0 hJ ?_
  have e24 : (if (24 : Int32) < nI T.length then (24 : Int32) else nI T.length) = nI T.length := if_neg (by rw [show (24 : Int32) = nI 24 from rfl, nIlt (by omega) (by omega)]; omega)
  simp only [t0, hC.1, e24, Option.some.injEq, Prod.mk.injEq, exists_eq_left', exists_eq_left, true_and, and_true, and_self, true_or, or_true, forall_const, exists_const, exists_and_left, wcat, Nat.zero_le, Nat.reduceLeDiff, Int32.lt_irrefl, not_false_eq_true, Nat.zero_add, forall_eq]
  exact loop1 T.length 0 S _ (by omega) Fr.rf (fun j hj => absurd hj (Nat.not_lt_zero _))
set_option maxRecDepth 20000 in
theorem ct_gainOf {t i n : Nat} {f : Int64 → qS → Prop} (h : BkAt A S B H G O z E) (ht : t < 36) (hi : E.2.1 t = nI i) (hn : E.2.2.1 t = nI n) (hl : i + n ≤ G.length) (hf : f (sumF (fun k => pGain (pt G k).2) i n) S) : Run (d + 2) 11 [.ref B, .int (nI t)] A S (kL A f) := by
  refine Run.i (C := mX0_gainOf) rfl rfl rfl fun J hJ => ?_
  obtain ⟨⟨l0, l1, l13, l14, -⟩, ⟨q0, q1, q2, q3, -⟩, hG, -, -, ⟨-, -, x3, x4, -⟩, -⟩ := h
  refine sX0_gainOf_0 hJ ?_
  have d0 : (nI t < 0) = False := by simp only [eq_iff_iff, iff_false]; exact nI_pos (by omega)
  have d3 : (nI t < 36) = True := by rw [show (36 : Int32) = nI 36 from rfl, nIlt (by omega) (by omega)]; simp; omega
  simp only [d0, d3, l0, q1, q2, q3, l13, l14, cl_n (show t ≤ 100000 by omega), vp_n ht (show 36 ≤ 100000 by omega), x3 t ht, x4 t ht, hi, hn, nI_add, hG.1.1, not_true_eq_false, not_false_eq_true, false_imp_iff, true_imp_iff, Option.some.injEq, Prod.mk.injEq, exists_eq_left', exists_eq_left, true_and, and_true, and_self, true_or, or_true, forall_const, exists_const, exists_and_left, wcat, Nat.zero_le, Nat.reduceLeDiff, Int32.lt_irrefl, not_false_eq_true, Nat.zero_add, forall_eq]
  exact ct_gainsFrom hG (by omega) hl (kL_i (by rwa [Nat.add_sub_cancel_left]))
set_option maxRecDepth 20000 in
theorem ct_deferredOf {t i n : Nat} {f : Int64 → qS → Prop} (h : BkAt A S B H G O z E) (ht : t < 36) (hi : E.2.1 t = nI i) (hn : E.2.2.1 t = nI n) (hl : i + n ≤ G.length) (hf : f (sumF (fun k => pMoved (pt G k).2) i n) S) : Run (d + 2) 12 [.ref B, .int (nI t)] A S (kL A f) := by
  refine Run.i (C := mX0_deferredOf) rfl rfl rfl fun J hJ => ?_
  obtain ⟨⟨l0, l1, l13, l14, -⟩, ⟨q0, q1, q2, q3, -⟩, hG, -, -, ⟨-, -, x3, x4, -⟩, -⟩ := h
  refine sX0_deferredOf_0 hJ ?_
  have d0 : (nI t < 0) = False := by simp only [eq_iff_iff, iff_false]; exact nI_pos (by omega)
  have d3 : (nI t < 36) = True := by rw [show (36 : Int32) = nI 36 from rfl, nIlt (by omega) (by omega)]; simp; omega
  simp only [d0, d3, l0, q1, q2, q3, l13, l14, cl_n (show t ≤ 100000 by omega), vp_n ht (show 36 ≤ 100000 by omega), x3 t ht, x4 t ht, hi, hn, nI_add, hG.1.1, not_true_eq_false, not_false_eq_true, false_imp_iff, true_imp_iff, Option.some.injEq, Prod.mk.injEq, exists_eq_left', exists_eq_left, true_and, and_true, and_self, true_or, or_true, forall_const, exists_const, exists_and_left, wcat, Nat.zero_le, Nat.reduceLeDiff, Int32.lt_irrefl, not_false_eq_true, Nat.zero_add, forall_eq]
  exact ct_movedFrom hG (by omega) hl (kL_i (by rwa [Nat.add_sub_cancel_left]))
set_option maxRecDepth 20000 in
theorem ct_allGains {f : Int64 → qS → Prop} (h : BkAt A S B H G O z E) (hf : f (sumF (fun k => pGain (pt G k).2) 0 G.length) S) : Run (d + 2) 13 [.ref B] A S (kL A f) := by
  refine Run.i (C := mX0_allGains) rfl rfl rfl fun J hJ => ?_
  have hG := h.2.2.1
  refine sX0_allGains_0 hJ ?_
  simp only [h.1.1, h.2.1.2.1, hG.1.1, hG.2.2.1.1, Option.some.injEq, Prod.mk.injEq, exists_eq_left', exists_eq_left, true_and, and_true, and_self, true_or, or_true, forall_const, exists_const, exists_and_left, wcat, Nat.zero_le, Nat.reduceLeDiff, Int32.lt_irrefl, not_false_eq_true, Nat.zero_add, forall_eq]
  exact ct_gainsFrom (i := 0) hG (by omega) (Nat.le_refl _) (kL_i hf)
set_option maxRecDepth 20000 in
theorem ct_allDeferred {f : Int64 → qS → Prop} (h : BkAt A S B H G O z E) (hf : f (sumF (fun k => pMoved (pt G k).2) 0 G.length) S) : Run (d + 2) 14 [.ref B] A S (kL A f) := by
  refine Run.i (C := mX0_allDeferred) rfl rfl rfl fun J hJ => ?_
  have hG := h.2.2.1
  refine sX0_allDeferred_0 hJ ?_
  simp only [h.1.1, h.2.1.2.1, hG.1.1, hG.2.2.1.1, Option.some.injEq, Prod.mk.injEq, exists_eq_left', exists_eq_left, true_and, and_true, and_self, true_or, or_true, forall_const, exists_const, exists_and_left, wcat, Nat.zero_le, Nat.reduceLeDiff, Int32.lt_irrefl, not_false_eq_true, Nat.zero_add, forall_eq]
  exact ct_movedFrom (i := 0) hG (by omega) (Nat.le_refl _) (kL_i hf)
end
