/-! Lots.part -/
theorem i64_0 {x : Int32} (h : ¬ x = 0) : ¬ x.toInt64 = 0 := by
  intro z
  apply h
  have := congrArg Int64.toInt z
  rw [Int32.toInt_toInt64] at this
  exact Int32.toInt_inj.mp (by simpa using this)
theorem pos_ne {x y : Int32} (h1 : ¬ x ≤ 0) (h2 : x < y) : ¬ y = 0 := by
  intro e
  subst e
  exact h1 (Int32.le_of_lt h2)
def partIf (L : List Lot) (t : Nat) (sh : Int32) : List Lot := if ¬ sh ≤ 0 ∧ sh < (lt L t).1 then partL L t sh else L
section
variable {d : Nat} {A : qA} {S : qS} {a : Nat} {L : List Lot}
set_option maxRecDepth 20000 in
set_option maxHeartbeats 4000000 in
theorem ct_part {t : Nat} {sh : Int32} {f : qS → Prop} (h : LoAt A S a L) (ht : t < L.length) (hn : L.length < 40) (hf : ∀ S', LoAt A S' a (partIf L t sh) → Fr S S' a (a + 42) → f S') : Run (d + 1) 26 [.ref a, .int (nI t), .int sh] A S (kV A f) := by
  refine Run.i (C := mX4_part) rfl rfl rfl fun J hJ => ?_
  have h0 := h
  obtain ⟨⟨l0, l1, l2⟩, π, h1, h2, h3, hP, h6⟩ := h
  have hP' := hP
  obtain ⟨h4, h5⟩ := hP
  have pt := (h4 t (by omega)).1
  have pn := (h4 L.length hn).1
  have hne : π t ≠ π L.length := fun z => by have := h5 t L.length (by omega) hn z; omega
  have loop : ∀ n (Sj : qS), t + n ≤ L.length → ¬ sh ≤ 0 → sh < (lt L t).1 → (∀ b k, gI Sj b k = gI S b k) → (∀ b k, gL Sj b k = gL S b k) → (∀ b k, gR Sj b k = if b = a + 1 ∧ t + n < k ∧ k ≤ L.length then gR S b (k - 1) else gR S b k) → J 63 [some (.ref a), some (.int (nI t)), some (.int sh), some (.ref (a + 2 + π t)), some (.ref (a + 2 + π L.length)), some (.int (nI (t + n)))] [] A Sj := by
    intro n
    induction n with
    | zero =>
      intro Sj hl s1 s2 eI eL eR
      refine sX4_part_63 hJ ?_
      have q0 : gR Sj a 0 = some (a + 1) := by rw [eR, if_neg (by omega)]; exact h1
      obtain ⟨z0, z1, z2, z3, z4, z5⟩ := h6 t ht
      have e1 : (a + 2 + π t = a) = False := by simp only [eq_iff_iff, iff_false]; omega
      have e2 : (a + 2 + π L.length = a) = False := by simp only [eq_iff_iff, iff_false]; omega
      have e3 : (a + 2 + π t = a + 2 + π L.length) = False := by simp only [eq_iff_iff, iff_false]; omega
      have e4 : (a + 2 + π L.length = a + 2 + π t) = False := by simp only [eq_iff_iff, iff_false]; omega
      have nz := i64_0 (pos_ne s1 s2)
      have wz := bI_z (lt L t).2.2.2.2.1
      simp only [l0, l1, q0, l2 _ pt, l2 _ pn, eI, eL, h2, z0, z1, z2, z3, z4, z5, Nat.add_zero, nIle (show t ≤ 100000 by omega) (show t ≤ 100000 by omega), Nat.le_refl, cl_n (show t ≤ 100000 by omega), vp_n (show t < 40 by omega) (show 40 ≤ 100000 by omega), nI_1, e1, e2, e3, e4, nz, wz, not_true_eq_false, false_imp_iff, Option.some.injEq, Prod.mk.injEq, exists_eq_left', exists_eq_left, true_and, and_true, and_self, true_or, or_true, forall_const, exists_const, exists_and_left, wcat, Nat.zero_le, Nat.reduceLeDiff, Int32.lt_irrefl, not_false_eq_true, Nat.zero_add, forall_eq, gI_uI, gL_uL, gR_uR, gI_uL, gI_uR, gL_uI, gL_uR, gR_uI, gR_uL, true_and, and_true, Nat.add_right_cancel_iff, Nat.add_left_cancel_iff, Nat.reduceEqDiff, Nat.left_eq_add, Nat.right_eq_add, Nat.add_eq_left, Nat.add_eq_right, Nat.reduceAdd, Nat.succ_ne_self, reduceCtorEq, false_and, and_false, if_false, if_true, ite_true, ite_false, ite_self, Nat.succ_ne_zero, Nat.add_one_ne_zero, not_false_eq_true, not_true_eq_false, Nat.one_ne_zero, Nat.zero_ne_one]
      refine kV_i (hf _ ?_ ?_)
      · rw [partIf, if_pos ⟨s1, s2⟩]
        refine ⟨⟨l0, l1, l2⟩, fun k => π (if k = t then L.length else if t < k ∧ k ≤ L.length then k - 1 else k), ?_, ?_, ?_, LoP.comp hP' (σ := fun k => if k = t then L.length else if t < k ∧ k ≤ L.length then k - 1 else k) ?_ ?_ ?_, fun i hi => ?_⟩
        · simp only [gI_uI, gL_uL, gR_uR, gI_uL, gI_uR, gL_uI, gL_uR, gR_uI, gR_uL, true_and, and_true, Nat.add_right_cancel_iff, Nat.add_left_cancel_iff, Nat.reduceEqDiff, Nat.left_eq_add, Nat.right_eq_add, Nat.add_eq_left, Nat.add_eq_right, Nat.reduceAdd, Nat.succ_ne_self, reduceCtorEq, false_and, and_false, if_false, if_true, ite_true, ite_false, ite_self, Nat.succ_ne_zero, Nat.add_one_ne_zero, not_false_eq_true, not_true_eq_false, Nat.one_ne_zero, Nat.zero_ne_one, q0]
        · simp only [gI_uI, gL_uL, gR_uR, gI_uL, gI_uR, gL_uI, gL_uR, gR_uI, gR_uL, true_and, and_true, Nat.add_right_cancel_iff, Nat.add_left_cancel_iff, Nat.reduceEqDiff, Nat.left_eq_add, Nat.right_eq_add, Nat.add_eq_left, Nat.add_eq_right, Nat.reduceAdd, Nat.succ_ne_self, reduceCtorEq, false_and, and_false, if_false, if_true, ite_true, ite_false, ite_self, Nat.succ_ne_zero, Nat.add_one_ne_zero, not_false_eq_true, not_true_eq_false, Nat.one_ne_zero, Nat.zero_ne_one, e1, e2, partL_len ht, eq_comm (a := a), e1, e2]
        · rw [partL_len ht]; omega
        · intro k hk
          simp only [gI_uI, gL_uL, gR_uR, gI_uL, gI_uR, gL_uI, gL_uR, gR_uI, gR_uL, true_and, and_true, Nat.add_right_cancel_iff, Nat.add_left_cancel_iff, Nat.reduceEqDiff, Nat.left_eq_add, Nat.right_eq_add, Nat.add_eq_left, Nat.add_eq_right, Nat.reduceAdd, Nat.succ_ne_self, reduceCtorEq, false_and, and_false, if_false, if_true, ite_true, ite_false, ite_self, Nat.succ_ne_zero, Nat.add_one_ne_zero, not_false_eq_true, not_true_eq_false, Nat.one_ne_zero, Nat.zero_ne_one, eR, Nat.add_zero]
          by_cases c1 : k = t
          · simp only [if_pos c1]; exact (h4 L.length hn).2.symm
          · simp only [if_neg c1]
            split <;> rfl
        · intro k hk
          split
          · omega
          · split <;> omega
        · intro i k hi hk e
          split at e <;> split at e <;> (try split at e) <;> (try split at e) <;> omega
        · rw [partL_len ht] at hi
          rw [lt_part ht]
          dsimp only
          have other : ∀ j, j < L.length → j ≠ t → (a + 2 + π j = a) = False ∧ (a + 2 + π j = a + 2 + π t) = False ∧ (a + 2 + π j = a + 2 + π L.length) = False := by
            intro j hj hjt
            have := (h4 j (by omega)).1
            refine ⟨by simp only [eq_iff_iff, iff_false]; omega, ?_, ?_⟩
            · simp only [eq_iff_iff, iff_false]; intro z; exact hjt (h5 j t (by omega) (by omega) (by omega))
            · simp only [eq_iff_iff, iff_false]; intro z; have := h5 j L.length (by omega) hn (by omega); omega
          by_cases c1 : i < t
          · obtain ⟨o1, o2, o3⟩ := other i (by omega) (by omega)
            rw [if_pos c1, if_neg (by omega), if_neg (by omega)]
            simp only [lotIs, gI_uI, gL_uL, gR_uR, gI_uL, gI_uR, gL_uI, gL_uR, gR_uI, gR_uL, o1, o2, o3, eI, eL, false_and, if_false]
            exact h6 i (by omega)
          · rw [if_neg c1]
            by_cases c2 : i = t
            · rw [if_pos c2, if_pos c2]
              simp only [lotIs, gI_uI, gL_uL, gR_uR, gI_uL, gI_uR, gL_uI, gL_uR, gR_uI, gR_uL, true_and, and_true, Nat.add_right_cancel_iff, Nat.add_left_cancel_iff, Nat.reduceEqDiff, Nat.left_eq_add, Nat.right_eq_add, Nat.add_eq_left, Nat.add_eq_right, Nat.reduceAdd, Nat.succ_ne_self, reduceCtorEq, false_and, and_false, if_false, if_true, ite_true, ite_false, ite_self, Nat.succ_ne_zero, Nat.add_one_ne_zero, not_false_eq_true, not_true_eq_false, Nat.one_ne_zero, Nat.zero_ne_one, e2, e4, partOwn]
            · rw [if_neg c2, if_neg c2, if_pos (show t < i ∧ i ≤ L.length by omega)]
              by_cases c3 : i = t + 1
              · rw [if_pos c3, c3, Nat.add_sub_cancel]
                simp only [lotIs, gI_uI, gL_uL, gR_uR, gI_uL, gI_uR, gL_uI, gL_uR, gR_uI, gR_uL, true_and, and_true, Nat.add_right_cancel_iff, Nat.add_left_cancel_iff, Nat.reduceEqDiff, Nat.left_eq_add, Nat.right_eq_add, Nat.add_eq_left, Nat.add_eq_right, Nat.reduceAdd, Nat.succ_ne_self, reduceCtorEq, false_and, and_false, if_false, if_true, ite_true, ite_false, ite_self, Nat.succ_ne_zero, Nat.add_one_ne_zero, not_false_eq_true, not_true_eq_false, Nat.one_ne_zero, Nat.zero_ne_one, e1, e3, partRest, eI, eL, z0, z1, z2, z3, z4, z5]
              · rw [if_neg c3]
                obtain ⟨o1, o2, o3⟩ := other (i - 1) (by omega) (by omega)
                simp only [lotIs, gI_uI, gL_uL, gR_uR, gI_uL, gI_uR, gL_uI, gL_uR, gR_uI, gR_uL, o1, o2, o3, eI, eL, false_and, if_false]
                exact h6 (i - 1) (by omega)
      · have f0 : Fr S Sj a (a + 42) := fun b hb k => ⟨eI b k, eL b k, by rw [eR, if_neg (by omega)]⟩
        exact (((((((((f0.uR (by omega) (by omega)).uI (by omega) (by omega)).uI (by omega) (by omega)).uL (by omega) (by omega)).uI (by omega) (by omega)).uI (by omega) (by omega)).uI (by omega) (by omega)).uI (by omega) (by omega)).uI (by omega) (by omega)).uL (by omega) (by omega)
    | succ n ih =>
      intro Sj hl s1 s2 eI eL eR
      refine sX4_part_63 hJ ?_
      have q0 : gR Sj a 0 = some (a + 1) := by rw [eR, if_neg (by omega)]; exact h1
      have q1 : gR Sj (a + 1) (t + n) = some (a + 2 + π (t + n)) := by rw [eR, if_neg (by omega)]; exact (h4 (t + n) (by omega)).2
      simp only [← Nat.add_assoc, l0, l1, q0, q1, nI_pred, pk_m1, nIle (show t + n + 1 ≤ 100000 by omega) (show t ≤ 100000 by omega), cl_n (show t + n + 1 ≤ 100000 by omega), cl_n (show t + n ≤ 100000 by omega), vp_n (show t + n + 1 < 40 by omega) (show 40 ≤ 100000 by omega), vp_n (show t + n < 40 by omega) (show 40 ≤ 100000 by omega), l2 _ (h4 (t + n) (by omega)).1, Option.some.injEq, Prod.mk.injEq, exists_eq_left', exists_eq_left, true_and, and_true, and_self, true_or, or_true, forall_const, exists_const, exists_and_left, wcat, Nat.zero_le, Nat.reduceLeDiff, Int32.lt_irrefl, not_false_eq_true, Nat.zero_add, forall_eq, gI_uI, gL_uL, gR_uR, gI_uL, gI_uR, gL_uI, gL_uR, gR_uI, gR_uL, true_and, and_true, Nat.add_right_cancel_iff, Nat.add_left_cancel_iff, Nat.reduceEqDiff, Nat.left_eq_add, Nat.right_eq_add, Nat.add_eq_left, Nat.add_eq_right, Nat.reduceAdd, Nat.succ_ne_self, reduceCtorEq, false_and, and_false, if_false, if_true, ite_true, ite_false, ite_self, Nat.succ_ne_zero, Nat.add_one_ne_zero, not_false_eq_true, not_true_eq_false, Nat.one_ne_zero, Nat.zero_ne_one]
      refine ⟨fun c => absurd c (by omega), fun _ => ih _ (by omega) s1 s2 eI eL ?_⟩
      intro b k
      rw [gR_uR, eR]
      by_cases c1 : b = a + 1 ∧ k = t + n + 1
      · obtain ⟨rfl, rfl⟩ := c1
        rw [if_pos ⟨rfl, rfl⟩, if_pos (by omega)]
        exact (h4 (t + n) (by omega)).2.symm
      · rw [if_neg c1]
        by_cases c2 : b = a + 1 ∧ t + (n + 1) < k ∧ k ≤ L.length
        · rw [if_pos c2, if_pos (by omega)]
        · rw [if_neg c2, if_neg (by omega)]
  have same : ¬ (¬ sh ≤ 0 ∧ sh < (lt L t).1) → f S := fun z => hf S (by rw [partIf, if_neg z]; exact h0) Fr.rf
  refine sX4_part_0 hJ ?_
  have hng : (nI t < 0) = False := by simp only [eq_iff_iff, iff_false]; exact nI_pos (by omega)
  have h40 : ((40 : Int32) ≤ nI L.length) = False := by rw [show (40 : Int32) = nI 40 from rfl, nIle (by omega) (by omega)]; simp only [eq_iff_iff, iff_false]; omega
  simp only [l0, l1, h1, h2, hng, h40, (h4 t (by omega)).2, (h4 L.length hn).2, l2 _ pt, (h6 t ht).1, nIle (show L.length ≤ 100000 by omega) (show t ≤ 100000 by omega), cl_n (show t ≤ 100000 by omega), cl_n (show L.length ≤ 100000 by omega), vp_n (show t < 40 by omega) (show 40 ≤ 100000 by omega), vp_n hn (show 40 ≤ 100000 by omega), not_false_eq_true, false_imp_iff, Option.some.injEq, Prod.mk.injEq, exists_eq_left', exists_eq_left, true_and, and_true, and_self, true_or, or_true, forall_const, exists_const, exists_and_left, wcat, Nat.zero_le, Nat.reduceLeDiff, Int32.lt_irrefl, not_false_eq_true, Nat.zero_add, forall_eq]
  refine ⟨fun c => absurd c (by omega), fun _ => ⟨fun c => kV_i (same (fun z => z.1 c)), fun c => ⟨fun c' => ?_, fun c' => kV_i (same (fun z => c' z.2))⟩⟩⟩
  have := loop (L.length - t) S (by omega) c c' (fun _ _ => rfl) (fun _ _ => rfl) (fun b k => by rw [if_neg (by omega)])
  rwa [show t + (L.length - t) = L.length by omega] at this
end
