/-! Book.bookBuy -/
/-- the open pieces are replaced by the last lot -/
def buyGo (w day : Int32) (pa : Nat) : List Nat → List CPie → List Lot → List CPie × List Lot
  | [], G, L => (G, L)
  | k :: O, G, L => if (lt L (L.length - 1)).2.2.2.2.1 = true then (G, L) else if ¬ (pt G k).1 = nI pa then buyGo w day pa O G L else if w < day - (pt G k).2.1 then buyGo w day pa O G L else buyGo w day pa O (G.set k ((pt G k).1, (repL (pt G k).2 L (L.length - 1)).1)) (repL (pt G k).2 L (L.length - 1)).2
def newLot (t day sh pr : Int32) : Lot := (sh, sh.toInt64 * pr.toInt64, day, t, false, 0)
theorem ot_mid {P Q : List Nat} {k : Nat} : ot (P ++ k :: Q) P.length = k := by simp [ot]
theorem BkAt.up {A : qA} {S S' : qS} {B pa : Nat} {H : Nat → List Lot} {G : List CPie} {O : List Nat} {z : Int64} {E : BkE} {L : List Lot} (h : BkAt A S B H G O z E) (hp : pa < 3) (hf : Fr S S' (B + 18 + 42 * pa) (B + 18 + 42 * pa + 42)) (hL : LoAt A S' (B + 18 + 42 * pa) L) : BkAt A S' B (upH H pa L) G O z E := by
  obtain ⟨hl, hR, hG, hH, ⟨o1, o2, o3⟩, ⟨x1, x2, x3, x4, x5, x6⟩, hO⟩ := h
  have e : ∀ c, c < 18 → ∀ k, gI S' (B + c) k = gI S (B + c) k := fun c hc k => (hf _ (by omega) k).1
  have el : ∀ k, gL S' B k = gL S B k := fun k => (hf _ (by omega) k).2.1
  refine ⟨hl, hR.fr (fun k => (hf _ (by omega) k).2.2) (fun k => (hf _ (by omega) k).2.2), hG.fr hf (by omega), fun p hp' => ?_, ⟨(e 0 (by omega) 7).trans o1, o2, fun i hi => (e 17 (by omega) i).trans (o3 i hi)⟩, ⟨(el 8).trans x1, (e 0 (by omega) 9).trans x2, fun t ht => (e 13 (by omega) t).trans (x3 t ht), fun t ht => (e 14 (by omega) t).trans (x4 t ht), fun t ht => (e 15 (by omega) t).trans (x5 t ht), fun t ht => (e 16 (by omega) t).trans (x6 t ht)⟩, hO⟩
  by_cases ep : p = pa
  · subst ep; rw [upH_at]; exact hL
  · rw [upH, if_neg ep]; exact (hH p hp').fr hf (by omega)
section
variable {d : Nat} {A : qA} {S : qS} {B : Nat} {H : Nat → List Lot} {G : List CPie} {O : List Nat} {z : Int64} {E : BkE}
set_option maxRecDepth 20000 in
set_option maxHeartbeats 4000000 in
theorem ct_bookBuy {pa : Nat} {t day sh pr : Int32} {f : qS → Prop} (h : BkAt A S B H G O z E) (hp : pa < 3) (hn : (H pa).length + 1 + O.length ≤ 40) (hf : ∀ S', BkAt A S' B (upH H pa (buyGo E.1 day pa O G (H pa ++ [newLot t day sh pr])).2) (buyGo E.1 day pa O G (H pa ++ [newLot t day sh pr])).1 (O.filter (opn (buyGo E.1 day pa O G (H pa ++ [newLot t day sh pr])).1)) z E → Fr S S' B (B + 144) → f S') : Run (d + 3) 4 [.ref B, .int t, .int (nI pa), .int day, .int sh, .int pr] A S (kV A f) := by
  refine Run.i (C := mX0_bookBuy) rfl rfl rfl fun J hJ => ?_
  have loop : ∀ (Q P : List Nat) (G' : List CPie) (L : List Lot) (Sj : qS) (w1 w4 w5 w8 w9 : Option Value), O = P ++ Q → L.length + Q.length ≤ 40 → 0 < L.length → BkAt A Sj B (upH H pa L) G' O z E → Fr S Sj B (B + 144) → buyGo E.1 day pa Q G' L = buyGo E.1 day pa O G (H pa ++ [newLot t day sh pr]) → J 32 [some (.ref B), w1, some (.int (nI pa)), some (.int day), w4, w5, some (.ref (B + 18 + 42 * pa)), some (.int (nI P.length)), w8, w9] [] A Sj := by
    intro Q
    induction Q with
    | nil =>
      intro P G' L Sj w1 w4 w5 w8 w9 hO hL hL0 hB hr he
      refine sX0_bookBuy_32 hJ ?_
      have hPO : P.length = O.length := by rw [hO, List.append_nil]
      have o1 := hB.2.2.2.2.1.1
      have o2 := hB.2.2.2.2.1.2.1
      simp only [hB.1.1, o1, hPO, nIle (show O.length ≤ 100000 by omega) (show O.length ≤ 100000 by omega), Nat.le_refl, Option.some.injEq, Prod.mk.injEq, exists_eq_left', exists_eq_left, true_and, and_true, and_self, true_or, or_true, forall_const, exists_const, exists_and_left, wcat, Nat.zero_le, Nat.reduceLeDiff, Int32.lt_irrefl, not_false_eq_true, Nat.zero_add, forall_eq]
      refine ⟨ct_dropClosed hB fun S' hB' hr' => kV_i (hf _ ?_ (hr.trans hr')), fun c => absurd trivial c⟩
      rw [← he]
      exact hB'
    | cons k Q ih =>
      intro P G' L Sj w1 w4 w5 w8 w9 hO hL hL0 hB hr he
      refine sX0_bookBuy_32 hJ ?_
      have hPO : O.length = P.length + 1 + Q.length := by rw [hO, List.length_append, List.length_cons]; omega
      have hB0 := hB
      obtain ⟨⟨l0, l1, l13, l14, l15, l16, l17⟩, ⟨q0, q1, q2, q3, q4, q5, q6, q7⟩, hG, hH, ⟨o1, o2, o3⟩, ⟨x1, x2, x3, x4, x5, x6⟩, hOb⟩ := hB
      obtain ⟨⟨m0, m1, m2, m3, m4, m5, m6, m7, m8, m9, m10⟩, ⟨g0, g1, g2, g3, g4, g5, g6, g7, g8, g9⟩, hC, g10⟩ := hG
      obtain ⟨⟨n0, n1, n2⟩, π, y1, y2, y3, ⟨y4, y5⟩, y6⟩ := hH pa hp
      rw [upH_at] at y2 y3 y6
      rw [List.length_cons] at hL
      have ko : ot O P.length = k := by rw [hO]; exact ot_mid
      have kk : k < G'.length := by have := hOb P.length (by omega); rw [ko] at this; exact this
      have ro : gI Sj (B + 17) P.length = nI k := by have := o3 P.length (by omega); rw [ko] at this; exact this
      obtain ⟨v0, v1, -⟩ := hC.2 k kk
      obtain ⟨wl, wr⟩ := y4 (L.length - 1) (by omega)
      obtain ⟨z0, z1, z2, z3, z4, z5⟩ := y6 (L.length - 1) (by omega)
      have em : nI L.length - 1 = nI (L.length - 1) := by
        have := nI_pred (L.length - 1)
        rwa [show L.length - 1 + 1 = L.length by omega] at this
      have neg : (nI (L.length - 1) < 0) = False := by simp only [eq_iff_iff, iff_false]; exact nI_pos (by omega)
      rw [buyGo] at he
      simp only [l0, o1, nIle (show O.length ≤ 100000 by omega) (show P.length ≤ 100000 by omega), q6, l17, cl_n (show P.length ≤ 100000 by omega), vp_n (show P.length < 40 by omega) (show 40 ≤ 100000 by omega), n0, y2, em, neg, y1, n1, cl_n (show L.length - 1 ≤ 100000 by omega), vp_n (show L.length - 1 < 40 by omega) (show 40 ≤ 100000 by omega), wr, n2 _ wl, z4, bI_n, q1, m0, g0, m1, ro, cl_n (show k ≤ 100000 by omega), vp_n (show k < 666 by omega) (show 666 ≤ 100000 by omega), v0, g1, m2, v1, x2, nI_1, false_imp_iff, Option.some.injEq, Prod.mk.injEq, exists_eq_left', exists_eq_left, true_and, and_true, and_self, true_or, or_true, forall_const, exists_const, exists_and_left, wcat, Nat.zero_le, Nat.reduceLeDiff, Int32.lt_irrefl, not_false_eq_true, Nat.zero_add, forall_eq, true_and, and_true, Nat.add_right_cancel_iff, Nat.add_left_cancel_iff, Nat.reduceEqDiff, Nat.left_eq_add, Nat.right_eq_add, Nat.add_eq_left, Nat.add_eq_right, Nat.reduceAdd, Nat.succ_ne_self, reduceCtorEq, false_and, and_false, if_false, if_true, ite_true, ite_false, ite_self, Nat.succ_ne_zero, Nat.add_one_ne_zero, not_false_eq_true, not_true_eq_false, Nat.one_ne_zero, Nat.zero_ne_one]
      refine ⟨fun c => absurd c (by omega), fun _ => ⟨fun c => ⟨fun c1 => ?_, fun c1 => ⟨fun c2 => ?_, fun c2 => ?_⟩⟩, fun c => ct_dropClosed hB0 fun S' hB' hr' => kV_i (hf _ ?_ (hr.trans hr'))⟩⟩
      · rw [if_neg (by simp [c]), if_pos c1] at he
        have := ih (P ++ [k]) G' L Sj w1 w4 w5 (some (.int (nI k))) (some (.int (nI (L.length - 1)))) (by rw [hO, List.append_assoc]; rfl) (by omega) hL0 hB0 hr he
        rwa [List.length_append, List.length_singleton] at this
      · rw [if_neg (by simp [c]), if_neg (by simpa using c1), if_pos c2] at he
        have := ih (P ++ [k]) G' L Sj w1 w4 w5 (some (.int (nI k))) (some (.int (nI (L.length - 1)))) (by rw [hO, List.append_assoc]; rfl) (by omega) hL0 hB0 hr he
        rwa [List.length_append, List.length_singleton] at this
      · rw [if_neg (by simp [c]), if_neg (by simpa using c1), if_neg c2] at he
        refine ct_replace (i := L.length - 1) hB0 kk hp (by rw [upH_at]; omega) (by rw [upH_at]; omega) fun S' hB' hr' => ?_
        rw [upH_at, upH_up] at hB'
        have ge := repL_ge (p := (pt G' k).2) (L := L) (i := L.length - 1) (by omega)
        have := ih (P ++ [k]) _ _ S' w1 w4 w5 (some (.int (nI k))) (some (.int (nI (L.length - 1)))) (by rw [hO, List.append_assoc]; rfl) (by omega) (by omega) hB' (hr.trans hr') he
        rwa [List.length_append, List.length_singleton] at this
      · rw [if_pos (by simpa using c)] at he
        rw [← he]
        exact hB'
  have h0 := h
  obtain ⟨⟨l0, l1, -⟩, ⟨q0, q1, q2, q3, q4, q5, q6, q7⟩, hG, hH, -⟩ := h
  refine sX0_bookBuy_0 hJ ?_
  have c0 : (nI pa < 0) = False := by simp only [eq_iff_iff, iff_false]; exact nI_pos (by omega)
  have c3 : (nI pa < 3) = True := by rw [show (3 : Int32) = nI 3 from rfl, nIlt (by omega) (by omega)]; simp [hp]
  simp only [c0, c3, l0, q0, l1, q7 pa hp, cl_n (show pa ≤ 100000 by omega), vp_n hp (show 3 ≤ 100000 by omega), (hH pa hp).1.1, not_true_eq_false, false_imp_iff, true_imp_iff, Option.some.injEq, Prod.mk.injEq, exists_eq_left', exists_eq_left, true_and, and_true, and_self, true_or, or_true, forall_const, exists_const, exists_and_left, wcat, Nat.zero_le, Nat.reduceLeDiff, Int32.lt_irrefl, not_false_eq_true, Nat.zero_add, forall_eq, true_and, and_true, Nat.add_right_cancel_iff, Nat.add_left_cancel_iff, Nat.reduceEqDiff, Nat.left_eq_add, Nat.right_eq_add, Nat.add_eq_left, Nat.add_eq_right, Nat.reduceAdd, Nat.succ_ne_self, reduceCtorEq, false_and, and_false, if_false, if_true, ite_true, ite_false, ite_self, Nat.succ_ne_zero, Nat.add_one_ne_zero, not_false_eq_true, not_true_eq_false, Nat.one_ne_zero, Nat.zero_ne_one]
  refine ct_addBought (hH pa hp) (by omega) fun S' hL hr => ?_
  exact loop O [] G _ S' _ _ _ _ _ rfl (by rw [List.length_append, List.length_singleton]; omega) (by simp) (h0.up hp hr hL) (hr.wide (by omega) (by omega)) rfl
end
