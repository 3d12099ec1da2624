/-! the reference: books -/
/-- trades that may be booked: valid, splits up to 4, up to 36 -/
def vB (T : List Row) : Prop := (∀ i, i < T.length → vRow (tr T i)) ∧ spl T T.length ≤ 4 ∧ T.length ≤ 36
def bsP (w last : Int32) (T : List Row) (p : Nat) : Nat := if p = 0 then 0 else if p = 1 then (aRes w last T 0).2.1.length else (aRes w last T 0).2.1.length + (aRes w last T 1).2.1.length
def allP (w last : Int32) (T : List Row) : List Pie := (aRes w last T 0).2.1 ++ (aRes w last T 1).2.1 ++ (aRes w last T 2).2.1
/-- all is booked -/
def BkM (A : qA) (S : qS) (m : Nat) (w last : Int32) (T : List Row) : Prop := mI A S m ∧ MH S m (fun p => (aRes w last T p).1) ∧ MPie S m 0 (allP w last T) ∧ gL S m 42 = (aRes w last T 2).2.2.1 + ((aRes w last T 1).2.2.1 + ((aRes w last T 0).2.2.1 + 0)) ∧ gI S m 43 = bI (shortT w last T) ∧ (∀ t, t < T.length → fpr S m (bsP w last T (paF (tr T t))) (aRes w last T (paF (tr T t))) t) ∧ (∀ j, j < T.length → gI S (m + 6) j = nI (ot (qT T) j)) ∧ (∀ t, t < T.length → gI S (m + 7) t = nI (rnk (dayF T) t T.length)) ∧ ∃ nn : Nat → Nat, (∀ p, p < 3 → PInv (999 * 9 ^ 4) (nn p) (aRes w last T p)) ∧ nn 0 + nn 1 + nn 2 ≤ T.length
theorem MH.eq {S : qS} {m : Nat} {H H' : Nat → List Lot} (h : MH S m H) (e : ∀ q, q < 3 → H q = H' q) : MH S m H' := fun q hq => by rw [← e q hq]; exact h q hq
section
variable {d : Nat} {A : qA} {S : qS} {m : Nat} {H : Nat → List Lot}
set_option maxRecDepth 20000 in
set_option maxHeartbeats 4000000 in
theorem cm_books {w last : Int32} {T : List Row} {f : qS → Prop} (h : mI A S m) (hx : RwAt S (m + 3) T) (hH : MH S m H) (hT : vB T) (hf : ∀ S', BkM A S' m w last T → RwAt S' (m + 3) T → Fm S S' m 6 26 41 45 → f S') : Run (d + 8) 191 [.ref m, .int w, .int last] A S (kV A f) := by
  refine Run.i (C := mX11_books) rfl rfl rfl fun J hJ => ?_
  have c0 : (0 : Int32).toNatClampNeg = 0 := rfl
  have v0 : vp_in 0 217 := vp_n (i := 0) (by omega) (by omega)
  obtain ⟨hv, hsp, hl⟩ := hT
  have hu0 : Fm S (uI S m 44 w) m 6 26 41 45 := Fm.rf.uI (by omega)
  refine sX11_books_0 hJ ?_
  simp only [h.1.1, Option.some.injEq, Prod.mk.injEq, exists_eq_left', exists_eq_left, true_and, and_true, and_self, true_or, or_true, forall_const, exists_const, exists_and_left, wcat, Nat.zero_le, Nat.reduceLeDiff, Int32.lt_irrefl, not_false_eq_true, Nat.zero_add, forall_eq]
  refine cm_orders (h.fm hu0) (hx.same (hu0.x (by omega))) hl fun S1 o6 o7 hr1 => ?_
  have hr1' : Fm S S1 m 6 26 41 45 := hu0.trans (hr1.wide (by omega))
  have hw1 : gI S1 m 44 = w := (hr1.w (by omega) (by omega)).trans (by simp only [gI_uI, gL_uL, gR_uR, gI_uL, gI_uR, gL_uI, gL_uR, gR_uI, gR_uL, true_and, and_true, Nat.add_right_cancel_iff, Nat.add_left_cancel_iff, Nat.reduceEqDiff, Nat.left_eq_add, Nat.right_eq_add, Nat.add_eq_left, Nat.add_eq_right, Nat.reduceAdd, Nat.succ_ne_self, reduceCtorEq, false_and, and_false, if_false, if_true, ite_true, ite_false, ite_self, Nat.succ_ne_zero, Nat.add_one_ne_zero, not_false_eq_true, not_true_eq_false, Nat.one_ne_zero, Nat.zero_ne_one])
  have hIa := (h.fm hu0).fm hr1
  have hxa := (hx.same (hu0.x (by omega))).same (hr1.x (by omega))
  have hHa : MH S1 m H := (hH.fm (S' := uI S m 44 w) (lo := 6) (hi := 6) (u := 44) (v := 45) (Fm.rf.uI (by omega)) (by omega)).fm hr1 (by omega)
  have ql : (qT T).length = T.length := qT_len T
  have hQ : ∀ t, t ∈ qT T → t < T.length ∧ vRow (tr T t) := fun t ht => ⟨qT_mem.mp ht, hv t (qT_mem.mp ht)⟩
  have hspq : spQ T (qT T) ≤ 4 := by rw [qT_spl]; exact hsp
  have hcq := cq_all (T := T) (qT T)
  rw [ql] at hcq
  have pbound : ∀ {n c : Nat} {s : PSt}, PInv (999 * 9 ^ 4) n s → n ≤ c → c ≤ 36 → 2 * s.2.1.length ≤ 35 * c := by
    intro n c s hi h1 h2
    have h4 := hi.2.2.2
    have := sq36 (show n ≤ 36 by omega)
    omega
  -- the three papers
  have papers : ∀ (Sj : qS) (w1 : Option Value), Fm (uI (uL (uI S1 m 41 0) m 42 0) m 43 0) Sj m 15 17 41 41 → (∀ t, t < T.length → gI Sj (m + 15) t = 0 ∧ gI Sj (m + 16) t = 0) → J 58 [some (.ref m), w1, some (.int last), some (.int (nI 0))] [] A Sj := by
    intro Sj w1 hrj hz0
    have hu2 : Fm S1 (uI (uL (uI S1 m 41 0) m 42 0) m 43 0) m 6 6 41 44 := ((Fm.rf.uI (by omega)).uL (by omega)).uI (by omega)
    have hIj := (hIa.fm hu2).fm hrj
    have hxj := (hxa.same (hu2.x (by omega))).same (hrj.x (by omega))
    have hHj := (hHa.fm hu2 (by omega)).fm hrj (by omega)
    have hwj : gI Sj m 44 = w := ((hrj.w (by omega) (by omega)).trans (hu2.w (by omega) (by omega))).trans hw1
    have hPj : MPie Sj m 0 [] := ⟨((hrj.1 m (by omega) 41 (by omega)).1).trans (by simp only [gI_uI, gL_uL, gR_uR, gI_uL, gI_uR, gL_uI, gL_uR, gR_uI, gR_uL, true_and, and_true, Nat.add_right_cancel_iff, Nat.add_left_cancel_iff, Nat.reduceEqDiff, Nat.left_eq_add, Nat.right_eq_add, Nat.add_eq_left, Nat.add_eq_right, Nat.reduceAdd, Nat.succ_ne_self, reduceCtorEq, false_and, and_false, if_false, if_true, ite_true, ite_false, ite_self, Nat.succ_ne_zero, Nat.add_one_ne_zero, not_false_eq_true, not_true_eq_false, Nat.one_ne_zero, Nat.zero_ne_one]; rfl), Nat.zero_le _, fun i hi => absurd hi (Nat.not_lt_zero _)⟩
    have hzj : gL Sj m 42 = 0 := ((hrj.1 m (by omega) 42 (by omega)).2).trans (by simp only [gI_uI, gL_uL, gR_uR, gI_uL, gI_uR, gL_uI, gL_uR, gR_uI, gR_uL, true_and, and_true, Nat.add_right_cancel_iff, Nat.add_left_cancel_iff, Nat.reduceEqDiff, Nat.left_eq_add, Nat.right_eq_add, Nat.add_eq_left, Nat.add_eq_right, Nat.reduceAdd, Nat.succ_ne_self, reduceCtorEq, false_and, and_false, if_false, if_true, ite_true, ite_false, ite_self, Nat.succ_ne_zero, Nat.add_one_ne_zero, not_false_eq_true, not_true_eq_false, Nat.one_ne_zero, Nat.zero_ne_one])
    have hsj : gI Sj m 43 = bI false := ((hrj.1 m (by omega) 43 (by omega)).1).trans (by simp only [gI_uI, gL_uL, gR_uR, gI_uL, gI_uR, gL_uI, gL_uR, gR_uI, gR_uL, true_and, and_true, Nat.add_right_cancel_iff, Nat.add_left_cancel_iff, Nat.reduceEqDiff, Nat.left_eq_add, Nat.right_eq_add, Nat.add_eq_left, Nat.add_eq_right, Nat.reduceAdd, Nat.succ_ne_self, reduceCtorEq, false_and, and_false, if_false, if_true, ite_true, ite_false, ite_self, Nat.succ_ne_zero, Nat.add_one_ne_zero, not_false_eq_true, not_true_eq_false, Nat.one_ne_zero, Nat.zero_ne_one]; rfl)
    have o6j : ∀ j, j < T.length → gI Sj (m + 6) j = nI (ot (qT T) j) := fun j hj => ((hrj.1 (m + 6) (by omega) j (by omega)).1).trans (by simp only [gI_uI, gL_uL, gR_uR, gI_uL, gI_uR, gL_uI, gL_uR, gR_uI, gR_uL, true_and, and_true, Nat.add_right_cancel_iff, Nat.add_left_cancel_iff, Nat.reduceEqDiff, Nat.left_eq_add, Nat.right_eq_add, Nat.add_eq_left, Nat.add_eq_right, Nat.reduceAdd, Nat.succ_ne_self, reduceCtorEq, false_and, and_false, if_false, if_true, ite_true, ite_false, ite_self, Nat.succ_ne_zero, Nat.add_one_ne_zero, not_false_eq_true, not_true_eq_false, Nat.one_ne_zero, Nat.zero_ne_one]; exact o6 j hj)
    have o7j : ∀ j, j < T.length → gI Sj (m + 7) j = nI (rnk (dayF T) j T.length) := fun j hj => ((hrj.1 (m + 7) (by omega) j (by omega)).1).trans (by simp only [gI_uI, gL_uL, gR_uR, gI_uL, gI_uR, gL_uI, gL_uR, gR_uI, gR_uL, true_and, and_true, Nat.add_right_cancel_iff, Nat.add_left_cancel_iff, Nat.reduceEqDiff, Nat.left_eq_add, Nat.right_eq_add, Nat.add_eq_left, Nat.add_eq_right, Nat.reduceAdd, Nat.succ_ne_self, reduceCtorEq, false_and, and_false, if_false, if_true, ite_true, ite_false, ite_self, Nat.succ_ne_zero, Nat.add_one_ne_zero, not_false_eq_true, not_true_eq_false, Nat.one_ne_zero, Nat.zero_ne_one]; exact o7 j hj)
    have hFj : Fm S Sj m 6 26 41 45 := (hr1'.trans (hu2.wide (by omega))).trans (hrj.wide (by omega))
    have fz : ∀ b t, t < T.length → fpr Sj m b p0 t := fun b t ht => ⟨⟨0, Nat.zero_le _, (hz0 t ht).1, fun z => absurd z (Nat.lt_irrefl _)⟩, (hz0 t ht).2⟩
    have q0 : ((3 : Int32) ≤ nI 0) = False := by decide
    have q1 : ((3 : Int32) ≤ nI 1) = False := by decide
    have q2 : ((3 : Int32) ≤ nI 2) = False := by decide
    have q3 : ((3 : Int32) ≤ nI 3) = True := by decide
    refine sX11_books_58 hJ ?_
    simp only [q0, hIj.1.1, nI_1, false_imp_iff, true_imp_iff, not_false_eq_true, Option.some.injEq, Prod.mk.injEq, exists_eq_left', exists_eq_left, true_and, and_true, and_self, true_or, or_true, forall_const, exists_const, exists_and_left, wcat, Nat.zero_le, Nat.reduceLeDiff, Int32.lt_irrefl, not_false_eq_true, Nat.zero_add, forall_eq]
    refine cm_booksPaper (p := 0) (Q := qT T) (P0 := []) (zp := 0) (shp := false) (cp := cq T 0 (qT T)) hIj hxj hwj hHj hPj hzj hsj hl (by omega) ql hQ o6j hspq rfl (by omega) (by simp only [List.length_nil]; omega) fun S3 n0 hB0 hi0 hn0 hfp0 hr3 => ?_
    have hp0 := pbound hi0 hn0 (by omega)
    obtain ⟨hI3, hx3, hw3, hH3, hP3, hz3, hs3⟩ := hB0
    refine sX11_books_58 hJ ?_
    simp only [q1, hI3.1.1, nI_1, false_imp_iff, true_imp_iff, not_false_eq_true, Option.some.injEq, Prod.mk.injEq, exists_eq_left', exists_eq_left, true_and, and_true, and_self, true_or, or_true, forall_const, exists_const, exists_and_left, wcat, Nat.zero_le, Nat.reduceLeDiff, Int32.lt_irrefl, not_false_eq_true, Nat.zero_add, forall_eq]
    refine cm_booksPaper (p := 1) (Q := qT T) (P0 := [] ++ (aGo w last T 0 (qT T) p0).2.1) (cp := cq T 1 (qT T)) hI3 hx3 hw3 hH3 hP3 hz3 hs3 hl (by omega) ql hQ (fun j hj => ((hr3.1 (m + 6) (by omega) j (by omega)).1).trans (o6j j hj)) hspq rfl (by omega) (by rw [List.nil_append]; omega) fun S4 n1 hB1 hi1 hn1 hfp1 hr4 => ?_
    have hp1 := pbound hi1 hn1 (by omega)
    obtain ⟨hI4, hx4, hw4, hH4, hP4, hz4, hs4⟩ := hB1
    refine sX11_books_58 hJ ?_
    simp only [q2, hI4.1.1, nI_1, false_imp_iff, true_imp_iff, not_false_eq_true, Option.some.injEq, Prod.mk.injEq, exists_eq_left', exists_eq_left, true_and, and_true, and_self, true_or, or_true, forall_const, exists_const, exists_and_left, wcat, Nat.zero_le, Nat.reduceLeDiff, Int32.lt_irrefl, not_false_eq_true, Nat.zero_add, forall_eq]
    refine cm_booksPaper (p := 2) (Q := qT T) (P0 := [] ++ (aGo w last T 0 (qT T) p0).2.1 ++ (aGo w last T 1 (qT T) p0).2.1) (cp := cq T 2 (qT T)) hI4 hx4 hw4 hH4 hP4 hz4 hs4 hl (by omega) ql hQ (fun j hj => ((hr4.1 (m + 6) (by omega) j (by omega)).1).trans (((hr3.1 (m + 6) (by omega) j (by omega)).1).trans (o6j j hj))) hspq rfl (by omega) (by rw [List.nil_append, List.length_append]; omega) fun S5 n2 hB2 hi2 hn2 hfp2 hr5 => ?_
    obtain ⟨hI5, hx5, hw5, hH5, hP5, hz5, hs5⟩ := hB2
    refine sX11_books_58 hJ ?_
    simp only [q3, false_imp_iff, true_imp_iff, not_true_eq_false, and_true]
    have hF5 : Fm S S5 m 6 26 41 45 := ((hFj.trans (hr3.wide (by omega))).trans (hr4.wide (by omega))).trans (hr5.wide (by omega))
    refine kV_i (hf S5 ⟨hI5, hH5.eq fun q hq => ?_, ?_, hz5, ?_, fun t ht => ?_, fun j hj => ?_, fun j hj => ?_, fun p => if p = 0 then n0 else if p = 1 then n1 else n2, fun p hp => ?_, ?_⟩ hx5 hF5)
    · rcases (show q = 0 ∨ q = 1 ∨ q = 2 by omega) with e | e | e <;> subst e <;> rfl
    · exact hP5
    · rw [hs5]
      unfold shortT aRes
      congr 1
      cases (aGo w last T 0 (qT T) p0).2.2.2.1 <;> cases (aGo w last T 1 (qT T) p0).2.2.2.1 <;> cases (aGo w last T 2 (qT T) p0).2.2.2.1 <;> rfl
    · have hp3 := ((hv t ht).pa).1
      rcases (show paF (tr T t) = 0 ∨ paF (tr T t) = 1 ∨ paF (tr T t) = 2 by omega) with e | e | e
      · rw [e]
        have a1 := (hfp0 t).1 (fz _ t ht)
        have a2 := (hfp1 t).2 (by rw [e]; decide)
        have a3 := (hfp2 t).2 (by rw [e]; decide)
        exact (a1.same (s' := aGo w last T 0 (qT T) p0) a2 rfl rfl).same a3 rfl rfl
      · rw [e]
        have a1 := (hfp0 t).2 (by rw [e]; decide)
        have a2 := (hfp1 t).1 ((fz ([] ++ (aGo w last T 0 (qT T) p0).2.1).length t ht).same a1 rfl rfl)
        have a3 := (hfp2 t).2 (by rw [e]; decide)
        exact a2.same a3 rfl rfl
      · rw [e]
        have a1 := (hfp0 t).2 (by rw [e]; decide)
        have a2 := (hfp1 t).2 (by rw [e]; decide)
        have a3 := (hfp2 t).1 (((fz ([] ++ (aGo w last T 0 (qT T) p0).2.1 ++ (aGo w last T 1 (qT T) p0).2.1).length t ht).same (s' := p0) a1 rfl rfl).same a2 rfl rfl)
        have eb : ([] ++ (aGo w last T 0 (qT T) p0).2.1 ++ (aGo w last T 1 (qT T) p0).2.1).length = bsP w last T 2 := by
          rw [List.nil_append, List.length_append]
          rfl
        rw [eb] at a3
        exact a3
    · exact ((hr5.1 (m + 6) (by omega) j (by omega)).1).trans (((hr4.1 (m + 6) (by omega) j (by omega)).1).trans (((hr3.1 (m + 6) (by omega) j (by omega)).1).trans (o6j j hj)))
    · exact ((hr5.1 (m + 7) (by omega) j (by omega)).1).trans (((hr4.1 (m + 7) (by omega) j (by omega)).1).trans (((hr3.1 (m + 7) (by omega) j (by omega)).1).trans (o7j j hj)))
    · rcases (show p = 0 ∨ p = 1 ∨ p = 2 by omega) with e | e | e <;> subst e
      · exact hi0
      · exact hi1
      · exact hi2
    · show n0 + n1 + n2 ≤ _
      omega
  have loop : ∀ n t (Sj : qS) (w1 : Option Value), t + n = T.length → Fm (uI (uL (uI S1 m 41 0) m 42 0) m 43 0) Sj m 15 17 41 41 → (∀ t', t' < t → gI Sj (m + 15) t' = 0 ∧ gI Sj (m + 16) t' = 0) → J 26 [some (.ref m), w1, some (.int last), some (.int (nI t))] [] A Sj := by
    have hu2 : Fm S1 (uI (uL (uI S1 m 41 0) m 42 0) m 43 0) m 6 6 41 44 := ((Fm.rf.uI (by omega)).uL (by omega)).uI (by omega)
    intro n
    induction n with
    | zero =>
      intro t Sj w1 htn hrj hz0
      refine sX11_books_26 hJ ?_
      obtain ⟨⟨k0, k1, k2, k3, k4, k5, k6, k7, k8, k9, k10, k11, k12, k13, k14, k15, k16, k17, k18, k19, k20, k21, k22, k23, k24, k25, k26⟩, ⟨r5, r15, r16, r17, r18, r21, r22, r23, r24, r25, r26, r27, r28, r29, r30, r31, r32, r33, r34, r35, r36, r37, r38, r39, r40, r48⟩⟩ := (hIa.fm hu2).fm hrj
      have hxj := ((hxa.same (hu2.x (by omega))).same (hrj.x (by omega))).1
      simp only [k0, k3, r16, c0, v0, hxj, nIle (show T.length ≤ 100000 by omega) (show t ≤ 100000 by omega), Option.some.injEq, Prod.mk.injEq, exists_eq_left', exists_eq_left, true_and, and_true, and_self, true_or, or_true, forall_const, exists_const, exists_and_left, wcat, Nat.zero_le, Nat.reduceLeDiff, Int32.lt_irrefl, not_false_eq_true, Nat.zero_add, forall_eq]
      exact ⟨fun _ => papers Sj _ hrj (fun t' ht' => hz0 t' (by omega)), fun z => absurd (by omega) z⟩
    | succ n ih =>
      intro t Sj w1 htn hrj hz0
      refine sX11_books_26 hJ ?_
      obtain ⟨⟨k0, k1, k2, k3, k4, k5, k6, k7, k8, k9, k10, k11, k12, k13, k14, k15, k16, k17, k18, k19, k20, k21, k22, k23, k24, k25, k26⟩, ⟨r5, r15, r16, r17, r18, r21, r22, r23, r24, r25, r26, r27, r28, r29, r30, r31, r32, r33, r34, r35, r36, r37, r38, r39, r40, r48⟩⟩ := (hIa.fm hu2).fm hrj
      have hxj := ((hxa.same (hu2.x (by omega))).same (hrj.x (by omega))).1
      simp only [k0, k3, k15, k16, r16, r30, r31, c0, v0, hxj, nIle (show T.length ≤ 100000 by omega) (show t ≤ 100000 by omega), cl_n (show t ≤ 100000 by omega), vp_n (show t < 36 by omega) (show 36 ≤ 100000 by omega), nI_1, Option.some.injEq, Prod.mk.injEq, exists_eq_left', exists_eq_left, true_and, and_true, and_self, true_or, or_true, forall_const, exists_const, exists_and_left, wcat, Nat.zero_le, Nat.reduceLeDiff, Int32.lt_irrefl, not_false_eq_true, Nat.zero_add, forall_eq, gI_uI, gL_uL, gR_uR, gI_uL, gI_uR, gL_uI, gL_uR, gR_uI, gR_uL, true_and, and_true, Nat.add_right_cancel_iff, Nat.add_left_cancel_iff, Nat.reduceEqDiff, Nat.left_eq_add, Nat.right_eq_add, Nat.add_eq_left, Nat.add_eq_right, Nat.reduceAdd, Nat.succ_ne_self, reduceCtorEq, false_and, and_false, if_false, if_true, ite_true, ite_false, ite_self, Nat.succ_ne_zero, Nat.add_one_ne_zero, not_false_eq_true, not_true_eq_false, Nat.one_ne_zero, Nat.zero_ne_one]
      refine ⟨fun z => absurd z (by omega), fun _ => ih (t + 1) _ _ (by omega) ((hrj.uI (by omega)).uI (by omega)) (fun t' ht' => ?_)⟩
      by_cases e : t' = t
      · subst e; simp only [gI_uI, gL_uL, gR_uR, gI_uL, gI_uR, gL_uI, gL_uR, gR_uI, gR_uL, true_and, and_true, Nat.add_right_cancel_iff, Nat.add_left_cancel_iff, Nat.reduceEqDiff, Nat.left_eq_add, Nat.right_eq_add, Nat.add_eq_left, Nat.add_eq_right, Nat.reduceAdd, Nat.succ_ne_self, reduceCtorEq, false_and, and_false, if_false, if_true, ite_true, ite_false, ite_self, Nat.succ_ne_zero, Nat.add_one_ne_zero, not_false_eq_true, not_true_eq_false, Nat.one_ne_zero, Nat.zero_ne_one, and_self]
      · simp only [gI_uI, gL_uL, gR_uR, gI_uL, gI_uR, gL_uI, gL_uR, gR_uI, gR_uL, true_and, and_true, Nat.add_right_cancel_iff, Nat.add_left_cancel_iff, Nat.reduceEqDiff, Nat.left_eq_add, Nat.right_eq_add, Nat.add_eq_left, Nat.add_eq_right, Nat.reduceAdd, Nat.succ_ne_self, reduceCtorEq, false_and, and_false, if_false, if_true, ite_true, ite_false, ite_self, Nat.succ_ne_zero, Nat.add_one_ne_zero, not_false_eq_true, not_true_eq_false, Nat.one_ne_zero, Nat.zero_ne_one, e]
        exact hz0 t' (by omega)
  exact loop T.length 0 _ _ (by omega) Fm.rf (fun t' ht' => absurd ht' (Nat.not_lt_zero _))
end
