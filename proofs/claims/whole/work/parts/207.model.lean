/-! the reference: the order, all papers -/
theorem rnk_inj {D : Nat → Int32} {n t t' : Nat} (h : t < n) (h' : t' < n) (e : rnk D t n = rnk D t' n) : t = t' := by
  have a1 := (rnk_ot (D := D) h).2
  have a2 := (rnk_ot (D := D) h').2
  rw [e, a2] at a1
  exact a1.symm
theorem rnk_le (D : Nat → Int32) (t : Nat) : ∀ n, rnk D t n ≤ n
  | 0 => Nat.le_refl _
  | n + 1 => by have := rnk_le D t n; unfold rnk; split <;> omega
/-- the order's rows, by ranks -/
theorem rnk_row {D : Nat → Int32} {n j : Nat} (h : j < n) : rnk D (ot (ordL D n) j) n = j := by
  have hb := ordL_ot (D := D) h
  have := rnk_ot (D := D) hb
  exact ordL_inj D n _ _ this.1 h this.2
section
variable {d : Nat} {A : qA} {S : qS} {m : Nat} {H : Nat → List Lot}
set_option maxRecDepth 20000 in
theorem cm_isAhead {x y : Nat} {T : List Row} {f : Bool → qS → Prop} (h : mI A S m) (hx : RwAt S (m + 3) T) (hT : T.length ≤ 36) (h1 : x < T.length) (h2 : y < T.length) (hf : f (ahB (dayF T) y x) S) : Run (d + 2) 181 [.ref m, .int (nI x), .int (nI y)] A S (kZ A f) := by
  refine Run.i (C := mX11_isAhead) rfl rfl rfl fun J hJ => ?_
  obtain ⟨⟨k0, k1, k2, k3, k4, k5, k6, k7, k8, k9, k10, k11, k12, k13, k14, k15, k16, k17, k18, k19, k20, k21, k22, k23, k24, k25, k26⟩, ⟨r5, r15, r16, r17, r18, r21, r22, r23, r24, r25, r26, r27, r28, r29, r30, r31, r32, r33, r34, r35, r36, r37, r38, r39, r40, r48⟩⟩ := h
  refine sX11_isAhead_0 hJ ?_
  simp only [k0, r16, Option.some.injEq, Prod.mk.injEq, exists_eq_left', exists_eq_left, true_and, and_true, and_self, true_or, or_true, forall_const, exists_const, exists_and_left, wcat, Nat.zero_le, Nat.reduceLeDiff, Int32.lt_irrefl, not_false_eq_true, Nat.zero_add, forall_eq]
  refine cm_of (c := 3) rfl k3 (by omega) (by omega) ?_
  simp only [r16, Option.some.injEq, Prod.mk.injEq, exists_eq_left', exists_eq_left, true_and, and_true, and_self, true_or, or_true, forall_const, exists_const, exists_and_left, wcat, Nat.zero_le, Nat.reduceLeDiff, Int32.lt_irrefl, not_false_eq_true, Nat.zero_add, forall_eq]
  refine cm_of (c := 3) rfl k3 (by omega) (by omega) ?_
  rw [(hx.2 x h1).2.2.1, (hx.2 y h2).2.2.1, nIle (by omega) (by omega)]
  refine ⟨fun z => kZ_1 ?_, fun z => ⟨fun z1 => kZ_0 ?_, fun z1 => ⟨fun z2 => kZ_0 ?_, fun z2 => kZ_1 ?_⟩⟩⟩
  · rwa [show ahB (dayF T) y x = true from decide_eq_true (Or.inl z)] at hf
  · rwa [show ahB (dayF T) y x = false from decide_eq_false (fun w => by rcases w with w | w; exact z w; exact z1 w.1)] at hf
  · rwa [show ahB (dayF T) y x = false from decide_eq_false (fun w => by rcases w with w | w; exact z w; have := w.2; omega)] at hf
  · rwa [show ahB (dayF T) y x = true from decide_eq_true (Or.inr ⟨z1, by omega⟩)] at hf
set_option maxRecDepth 20000 in
set_option maxHeartbeats 2000000 in
theorem cm_orders {T : List Row} {f : qS → Prop} (h : mI A S m) (hx : RwAt S (m + 3) T) (hT : T.length ≤ 36) (hf : ∀ S', (∀ j, j < T.length → gI S' (m + 6) j = nI (ot (qT T) j)) → (∀ t, t < T.length → gI S' (m + 7) t = nI (rnk (dayF T) t T.length)) → Fm S S' m 6 8 41 41 → f S') : Run (d + 3) 180 [.ref m] A S (kV A f) := by
  refine Run.i (C := mX11_orders) rfl rfl rfl fun J hJ => ?_
  have c0 : (0 : Int32).toNatClampNeg = 0 := rfl
  have v0 : vp_in 0 217 := vp_n (i := 0) (by omega) (by omega)
  have loop : ∀ n t (Sj : qS) (w2 w3 : Option Value), t + n = T.length → (∀ t', t' < t → gI Sj (m + 7) t' = nI (rnk (dayF T) t' T.length) ∧ gI Sj (m + 6) (rnk (dayF T) t' T.length) = nI t') → Fm S Sj m 6 8 41 41 → J 2 [some (.ref m), some (.int (nI t)), w2, w3] [] A Sj := by
    intro n
    induction n with
    | zero =>
      intro t Sj w2 w3 htn hr hF
      refine sX11_orders_2 hJ ?_
      obtain ⟨⟨k0, k1, k2, k3, k4, k5, k6, k7, k8, k9, k10, k11, k12, k13, k14, k15, k16, k17, k18, k19, k20, k21, k22, k23, k24, k25, k26⟩, ⟨r5, r15, r16, r17, r18, r21, r22, r23, r24, r25, r26, r27, r28, r29, r30, r31, r32, r33, r34, r35, r36, r37, r38, r39, r40, r48⟩⟩ := h.fm hF
      have hx0 := (hx.same (hF.x (by omega))).1
      simp only [k0, k3, r16, c0, v0, hx0, nIle (show T.length ≤ 100000 by omega) (show t ≤ 100000 by omega), Option.some.injEq, Prod.mk.injEq, exists_eq_left', exists_eq_left, true_and, and_true, and_self, true_or, or_true, forall_const, exists_const, exists_and_left, wcat, Nat.zero_le, Nat.reduceLeDiff, Int32.lt_irrefl, not_false_eq_true, Nat.zero_add, forall_eq]
      refine ⟨fun _ => kV_i (hf Sj (fun j hj => ?_) (fun t' ht' => (hr t' (by omega)).1) hF), fun z => absurd (by omega) z⟩
      have hb := ordL_ot (D := dayF T) hj
      have := (hr (ot (ordL (dayF T) T.length) j) (by omega)).2
      rw [rnk_row hj] at this
      exact this
    | succ n ih =>
      intro t Sj w2 w3 htn hr hF
      refine sX11_orders_2 hJ ?_
      have hI := h.fm hF
      obtain ⟨⟨k0, k1, k2, k3, k4, k5, k6, k7, k8, k9, k10, k11, k12, k13, k14, k15, k16, k17, k18, k19, k20, k21, k22, k23, k24, k25, k26⟩, ⟨r5, r15, r16, r17, r18, r21, r22, r23, r24, r25, r26, r27, r28, r29, r30, r31, r32, r33, r34, r35, r36, r37, r38, r39, r40, r48⟩⟩ := h.fm hF
      have hxj := hx.same (hF.x (by omega))
      simp only [k0, k3, r16, c0, v0, hxj.1, nIle (show T.length ≤ 100000 by omega) (show t ≤ 100000 by omega), Option.some.injEq, Prod.mk.injEq, exists_eq_left', exists_eq_left, true_and, and_true, and_self, true_or, or_true, forall_const, exists_const, exists_and_left, wcat, Nat.zero_le, Nat.reduceLeDiff, Int32.lt_irrefl, not_false_eq_true, Nat.zero_add, forall_eq]
      refine ⟨fun z => absurd z (by omega), fun _ => ?_⟩
      have inner : ∀ n' o, o + n' = T.length → J 16 [some (.ref m), some (.int (nI t)), some (.int (nI (rnk (dayF T) t o))), some (.int (nI o))] [] A Sj := by
        intro n'
        induction n' with
        | zero =>
          intro o ho
          refine sX11_orders_16 hJ ?_
          have eo : o = T.length := by omega
          subst eo
          have hrt := rnk_ot (D := dayF T) (n := T.length) (t := t) (by omega)
          simp only [k0, k3, k6, k7, r16, r21, r22, c0, v0, hxj.1, nIle (show T.length ≤ 100000 by omega) (show T.length ≤ 100000 by omega), Nat.le_refl, cl_n (show t ≤ 100000 by omega), vp_n (show t < 36 by omega) (show 36 ≤ 100000 by omega), cl_n (show rnk (dayF T) t T.length ≤ 100000 by omega), vp_n (show rnk (dayF T) t T.length < 36 by omega) (show 36 ≤ 100000 by omega), nI_1, not_true_eq_false, false_imp_iff, true_imp_iff, Option.some.injEq, Prod.mk.injEq, exists_eq_left', exists_eq_left, true_and, and_true, and_self, true_or, or_true, forall_const, exists_const, exists_and_left, wcat, Nat.zero_le, Nat.reduceLeDiff, Int32.lt_irrefl, not_false_eq_true, Nat.zero_add, forall_eq, gI_uI, gL_uL, gR_uR, gI_uL, gI_uR, gL_uI, gL_uR, gR_uI, gR_uL, true_and, and_true, Nat.add_right_cancel_iff, Nat.add_left_cancel_iff, Nat.reduceEqDiff, Nat.left_eq_add, Nat.right_eq_add, Nat.add_eq_left, Nat.add_eq_right, Nat.reduceAdd, Nat.succ_ne_self, reduceCtorEq, false_and, and_false, if_false, if_true, ite_true, ite_false, ite_self, Nat.succ_ne_zero, Nat.add_one_ne_zero, not_false_eq_true, not_true_eq_false, Nat.one_ne_zero, Nat.zero_ne_one]
          refine ih (t + 1) _ _ _ (by omega) (fun t' ht' => ?_) ((hF.uI (by omega)).uI (by omega))
          by_cases e : t' = t
          · subst e; simp only [gI_uI, gL_uL, gR_uR, gI_uL, gI_uR, gL_uI, gL_uR, gR_uI, gR_uL, true_and, and_true, Nat.add_right_cancel_iff, Nat.add_left_cancel_iff, Nat.reduceEqDiff, Nat.left_eq_add, Nat.right_eq_add, Nat.add_eq_left, Nat.add_eq_right, Nat.reduceAdd, Nat.succ_ne_self, reduceCtorEq, false_and, and_false, if_false, if_true, ite_true, ite_false, ite_self, Nat.succ_ne_zero, Nat.add_one_ne_zero, not_false_eq_true, not_true_eq_false, Nat.one_ne_zero, Nat.zero_ne_one, and_self]
          · have e2 : (rnk (dayF T) t' T.length = rnk (dayF T) t T.length) = False := by
              simp only [eq_iff_iff, iff_false]
              exact fun w => e (rnk_inj (by omega) (by omega) w)
            simp only [gI_uI, gL_uL, gR_uR, gI_uL, gI_uR, gL_uI, gL_uR, gR_uI, gR_uL, true_and, and_true, Nat.add_right_cancel_iff, Nat.add_left_cancel_iff, Nat.reduceEqDiff, Nat.left_eq_add, Nat.right_eq_add, Nat.add_eq_left, Nat.add_eq_right, Nat.reduceAdd, Nat.succ_ne_self, reduceCtorEq, false_and, and_false, if_false, if_true, ite_true, ite_false, ite_self, Nat.succ_ne_zero, Nat.add_one_ne_zero, not_false_eq_true, not_true_eq_false, Nat.one_ne_zero, Nat.zero_ne_one, e, e2]
            exact hr t' (by omega)
        | succ n' ihn =>
          intro o ho
          refine sX11_orders_16 hJ ?_
          simp only [k0, k3, r16, c0, v0, hxj.1, nIle (show T.length ≤ 100000 by omega) (show o ≤ 100000 by omega), Option.some.injEq, Prod.mk.injEq, exists_eq_left', exists_eq_left, true_and, and_true, and_self, true_or, or_true, forall_const, exists_const, exists_and_left, wcat, Nat.zero_le, Nat.reduceLeDiff, Int32.lt_irrefl, not_false_eq_true, Nat.zero_add, forall_eq]
          refine ⟨fun z => absurd z (by omega), fun _ => cm_isAhead hI hxj hT (by omega) (by omega) ?_⟩
          rw [nI_1, nI_1, Int32.add_zero]
          have := ihn (o + 1) (by omega)
          rw [rnk] at this
          refine q_eqb (fun z => ?_) (fun z => ?_)
          · rw [if_neg (fun w => by have := decide_eq_true w; unfold ahB at z; rw [this] at z; cases z), Nat.add_zero] at this
            exact this
          · rw [if_pos (of_decide_eq_true z)] at this
            exact this
      exact inner T.length 0 (by omega)
  refine sX11_orders_0 hJ (loop T.length 0 S _ _ (by omega) (fun t' ht' => absurd ht' (Nat.not_lt_zero _)) Fm.rf)
/-- 145 numbers are copied -/
def cp145 (S S' : qS) (a b : Nat) : Prop := (∀ c k, gI S' c k = if c = b ∧ k < 145 then gI S a k else gI S c k) ∧ (∀ c k, gL S' c k = gL S c k) ∧ ∀ c k, gR S' c k = gR S c k
set_option maxRecDepth 20000 in
theorem cm_copies {a b na nb : Nat} {f : qS → Prop} (ha : A.1 a = some (13, na)) (hb : A.1 b = some (13, nb)) (hn : 145 ≤ na) (hn' : 145 ≤ nb) (hnb : na ≤ 100000) (hnb' : nb ≤ 100000) (hab : ¬ a = b) (hf : ∀ S', cp145 S S' a b → f S') : Run (d + 1) 178 [.ref a, .ref b] A S (kV A f) := by
  refine Run.i (C := mX11_copies) rfl rfl rfl fun J hJ => ?_
  have loop : ∀ n k (Sj : qS), k + n = 145 → (∀ c j, gI Sj c j = if c = b ∧ j < k then gI S a j else gI S c j) → (∀ c j, gL Sj c j = gL S c j) → (∀ c j, gR Sj c j = gR S c j) → J 2 [some (.ref a), some (.ref b), some (.int (nI k))] [] A Sj := by
    intro n
    induction n with
    | zero =>
      intro k Sj hk e1 e2 e3
      refine sX11_copies_2 hJ ⟨fun _ => kV_i (hf Sj ⟨fun c j => ?_, e2, e3⟩), fun z => absurd ((nIle (a := 145) (by omega) (by omega)).mpr (by omega)) z⟩
      rw [e1, show k = 145 by omega]
    | succ n ih =>
      intro k Sj hk e1 e2 e3
      refine sX11_copies_2 hJ ⟨fun z => absurd ((nIle (a := 145) (by omega) (by omega)).mp z) (by omega), fun _ => ?_⟩
      have ea : gI Sj a k = gI S a k := by rw [e1, if_neg (fun z => hab z.1)]
      simp only [ha, hb, cl_n (show k ≤ 100000 by omega), vp_n (show k < na by omega) hnb, vp_n (show k < nb by omega) hnb', ea, nI_1, Option.some.injEq, Prod.mk.injEq, exists_eq_left', exists_eq_left, true_and, and_true, and_self, true_or, or_true, forall_const, exists_const, exists_and_left, wcat, Nat.zero_le, Nat.reduceLeDiff, Int32.lt_irrefl, not_false_eq_true, Nat.zero_add, forall_eq]
      refine ih (k + 1) _ (by omega) (fun c j => ?_) (fun c j => e2 c j) (fun c j => e3 c j)
      rw [gI_uI]
      by_cases z : c = b ∧ j = k
      · rw [if_pos z, if_pos ⟨z.1, by omega⟩, z.2]
      · rw [if_neg z, e1]
        by_cases z2 : c = b ∧ j < k
        · rw [if_pos z2, if_pos ⟨z2.1, by omega⟩]
        · rw [if_neg z2, if_neg (fun w => by rcases Nat.lt_or_ge j k with q | q; exact z2 ⟨w.1, q⟩; exact z ⟨w.1, by have := w.2; omega⟩)]
  exact sX11_copies_0 hJ (loop 145 0 S (by omega) (fun c j => by rw [if_neg (by omega)]) (fun _ _ => rfl) (fun _ _ => rfl))
end
