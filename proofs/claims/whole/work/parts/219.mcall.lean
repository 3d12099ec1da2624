/-! the reference's calls: undo, image, back; what is taken over -/
def upV (V : VSt) (now : List Row) (past img : List (List Row)) : VSt := (V.1, V.2.1, V.2.2.1, now, past, img, V.2.2.2.2.2.2)
/-- n numbers from place oa of a are copied to place ob of b -/
def cpO (S S' : qS) (a oa b ob n : Nat) : Prop := (∀ c k, gI S' c k = if c = b ∧ ob ≤ k ∧ k < ob + n then gI S a (oa + (k - ob)) else gI S c k) ∧ (∀ c k, gL S' c k = gL S c k) ∧ ∀ c k, gR S' c k = gR S c k
theorem cpO.z {S : qS} {a oa b ob : Nat} : cpO S S a oa b ob 0 := ⟨fun c k => by rw [if_neg (by omega)], fun _ _ => rfl, fun _ _ => rfl⟩
theorem cpO.s {S S' : qS} {a oa b ob n : Nat} (h : cpO S S' a oa b ob n) (hab : ¬ a = b) : cpO S (uI S' b (ob + n) (gI S' a (oa + n))) a oa b ob (n + 1) := by
  refine ⟨fun c k => ?_, fun c k => h.2.1 c k, fun c k => h.2.2 c k⟩
  have ea : gI S' a (oa + n) = gI S a (oa + n) := by rw [h.1, if_neg (fun z => hab z.1)]
  rw [gI_uI, ea]
  by_cases z : c = b ∧ k = ob + n
  · rw [if_pos z, if_pos ⟨z.1, by omega, by omega⟩, z.2, Nat.add_sub_cancel_left]
  · rw [if_neg z, h.1]
    by_cases z2 : c = b ∧ ob ≤ k ∧ k < ob + n
    · rw [if_pos z2, if_pos ⟨z2.1, z2.2.1, by omega⟩]
    · rw [if_neg z2, if_neg (fun w => z2 ⟨w.1, w.2.1, by
        rcases Nat.lt_or_ge k (ob + n) with q | q
        · exact q
        · exact absurd ⟨w.1, by omega⟩ z⟩)]
theorem cpO.to {S S' : qS} {a oa b ob : Nat} {T : List Row} (h : cpO S S' a oa b ob 145) (hR : RwO S a oa T) (hT : T.length ≤ 24) : RwO S' b ob T := hR.same hT fun k hk => by rw [h.1, if_pos ⟨rfl, by omega, by omega⟩, Nat.add_sub_cancel_left]
theorem cpO.off {S S' : qS} {a oa b ob c o : Nat} {T : List Row} (h : cpO S S' a oa b ob 145) (hR : RwO S c o T) (hT : T.length ≤ 24) (hd : ¬ c = b ∨ o + 145 ≤ ob ∨ ob + 145 ≤ o) : RwO S' c o T := hR.same hT fun k hk => by rw [h.1, if_neg (by omega)]
theorem cpO.one {S S' : qS} {a oa b ob n c k : Nat} (h : cpO S S' a oa b ob n) (hd : ¬ c = b) : gI S' c k = gI S c k := by rw [h.1, if_neg (fun z => hd z.1)]
theorem MH.cpO {S S' : qS} {m a oa b ob n : Nat} {H : Nat → List Lot} (h : MH S m H) (hc : cpO S S' a oa b ob n) (hb : b < m + 8 ∨ m + 15 ≤ b) : MH S' m H := by
  intro q hq
  obtain ⟨a1, a2, a3⟩ := h q hq
  refine ⟨by rw [hc.1, if_neg (by omega)]; exact a1, a2, fun i hi => rowE.lot ⟨fun b' b1 b2 => by rw [hc.1, if_neg (by omega)], hc.2.1 _ _⟩ (a3 i hi)⟩
theorem cpO.fr {S S' : qS} {m a oa b ob n : Nat} (h : cpO S S' a oa b ob n) (h1 : m ≤ b) (h2 : b < m + 27) : Fr S S' m (m + 27) := fun c hc k => ⟨by rw [h.1, if_neg (by omega)], h.2.1 c k, h.2.2 c k⟩
theorem rg_mem {X : List (List Row)} {i : Nat} (h : i < X.length) : rg X i ∈ X := by
  rw [rg, List.getD_eq_getElem?_getD, List.getElem?_eq_getElem h, Option.getD_some]
  exact List.getElem_mem h
theorem rg_take {X : List (List Row)} {i n : Nat} (h : i < n) : rg (X.take n) i = rg X i := by
  unfold rg
  rw [List.getD_eq_getElem?_getD, List.getD_eq_getElem?_getD, List.getElem?_take_of_lt h]
theorem rg_app {X Y : List (List Row)} {i : Nat} (h : i < X.length) : rg (X ++ Y) i = rg X i := by simp [rg, List.getElem?_append_left h]
theorem rg_end {X : List (List Row)} {y : List Row} : rg (X ++ [y]) X.length = y := by simp [rg]
theorem nI145 (a k : Nat) : (145 : Int32) * nI a + nI k = nI (145 * a + k) := by rw [show (145 : Int32) = nI 145 from rfl, nI_mul, nI_add]
theorem q145 {k : Nat} (h : k ≤ 100000) : ((145 : Int32) ≤ nI k) = (145 ≤ k) := by rw [show (145 : Int32) = nI 145 from rfl, nIle (by omega) h]
/-- undo: true, or false and trouble 6 -/
def uUndo (V : VSt) : VSt := if (vPast V).length = 0 then setT V 6 else setT (upV V (rg (vPast V) ((vPast V).length - 1)) ((vPast V).take ((vPast V).length - 1)) (vImg V)) 0
def uImage (V : VSt) : VSt × Int32 := if (vLed V).isSome then (if (vImg V).length = 3 then (setT V 3, -1) else (setT (upV V (vNow V) (vPast V) (vImg V ++ [vNow V])) 0, nI (vImg V).length)) else (setT V 1, -1)
def bkB (V : VSt) (i : Int32) : Bool := decide (¬ i < 0 ∧ i < nI (vImg V).length)
def uBack (V : VSt) (i : Int32) : VSt := if bkB V i then setT (upV V (rg (vImg V) (pN i)) [] (vImg V)) 0 else setT V 1
section
variable {d : Nat} {A : qA} {S : qS} {m : Nat} {V : VSt}
set_option maxRecDepth 20000 in
set_option maxHeartbeats 1000000 in
theorem cm_undo {f : Bool → qS → Prop} (h : MAt A S m V) (hv : vOk V) (hf : ∀ S', MAt A S' m (uUndo V) → Fr S S' m (m + 27) → f (decide (¬ (vPast V).length = 0)) S') : Run (d + 10) 262 [.ref m] A S (kZ A f) := by
  refine Run.i (C := mX11_undo) rfl rfl rfl fun J hJ => ?_
  have hp := hv.2.2.2.2.1
  refine sX11_undo_0 hJ ⟨h.1.1.1, fun T e => ?_⟩
  subst e
  have h0 := h.t0 (x := 0)
  have no : (vPast V).length = 0 → Run (d + 9) 139 [.ref m, .int 6] A (uI S m 0 0) (kZ A fun b S' => (bI b = 0 ∨ bI b = 1) ∧ kZ A f (some (.int (bI b))) A S') := by
    intro z
    refine cm_denied h0 fun S' h2 hr2 => ⟨bI_z _, kZ_i ?_⟩
    have := hf S'
    rw [uUndo, if_pos z, decide_eq_false (fun w => w z)] at this
    exact this h2 (frT0 hr2)
  refine ⟨h.1.1.1, fun z => ⟨h.1.1.1, wc rfl, no ?_⟩, fun q z => ⟨h.1.1.1, ?_⟩⟩
  · rw [(hv.2.2.1 (mLed_n h0.2.2.2 z)).2.1]; rfl
  · obtain ⟨hI0, ⟨H, hH⟩, ⟨c1, c2, c3, c4, c5, c6, c7, c8, c9, c10⟩, hL⟩ := h0
    have hIk := hI0
    obtain ⟨⟨k0, k1, k2, k3, k4, k5, k6, k7, k8, k9, k10, k11, k12, k13, k14, k15, k16, k17, k18, k19, k20, k21, k22, k23, k24, k25, k26⟩, ⟨r5, r15, r16, r17, r18, r21, r22, r23, r24, r25, r26, r27, r28, r29, r30, r31, r32, r33, r34, r35, r36, r37, r38, r39, r40, r48⟩⟩ := hI0
    rw [c4, show (0 : Int32) = nI 0 from rfl, nIeq (by omega) (by omega)]
    refine ⟨fun y => ⟨k0, k0, fun T e => ?_⟩, fun y => ⟨k0, wc rfl, no y⟩⟩
    subst e
    generalize hc : (vPast V).length - 1 = c
    have ec : nI (vPast V).length - 1 = nI c := by
      rw [show (vPast V).length = c + 1 by omega]
      exact nI_pred c
    rw [ec]
    have loop : ∀ n k (Sj : qS), k + n = 145 → cpO (uI (uI S m 0 (nI 0)) m 19 (nI c)) Sj (m + 4) (145 * c) (m + 2) 0 k → J 38 [some (.ref m), some (.int (nI k))] [] A Sj := by
      intro n
      induction n with
      | zero =>
        intro k Sj hn hcp
        refine sX11_undo_38 hJ ?_
        have ek : k = 145 := by omega
        subst ek
        have q1 : ((145 : Int32) ≤ nI 145) = True := by decide
        simp only [q1, k0, not_true_eq_false, false_imp_iff, true_imp_iff, and_true, true_and, Option.some.injEq, Prod.mk.injEq, exists_eq_left', exists_eq_left, true_and, and_true, and_self, true_or, or_true, forall_const, exists_const, exists_and_left, wcat, Nat.zero_le, Nat.reduceLeDiff, Int32.lt_irrefl, not_false_eq_true, Nat.zero_add, forall_eq]
        have hnew : MAt A Sj m (upV V (rg (vPast V) c) ((vPast V).take c) (vImg V)) := by
          have g1 : ∀ b k, ¬ b = m + 2 → gI Sj b k = gI (uI (uI S m 0 (nI 0)) m 19 (nI c)) b k := fun b k hb => hcp.one hb
          refine ⟨⟨hIk.1, hIk.2.fr fun k => hcp.2.2 m k⟩, ⟨H, (hH.one).cpO hcp (by omega)⟩, ⟨fun k hk => ?_, ?_, ?_, ?_, fun i hi => ?_, ?_, fun i hi => ?_, ?_, ?_, ?_⟩, hL.fr (hcp.2.2 m 3) fun b hb k => ⟨?_, hcp.2.2 b k⟩⟩
          · rw [g1 _ _ (by omega)]; simp only [gI_uI, gL_uL, gR_uR, gI_uL, gI_uR, gL_uI, gL_uR, gR_uI, gR_uL, true_and, and_true, Nat.add_right_cancel_iff, Nat.add_left_cancel_iff, Nat.reduceEqDiff, Nat.left_eq_add, Nat.right_eq_add, Nat.add_eq_left, Nat.add_eq_right, Nat.reduceAdd, Nat.succ_ne_self, reduceCtorEq, false_and, and_false, if_false, if_true, ite_true, ite_false, ite_self, Nat.succ_ne_zero, Nat.add_one_ne_zero, not_false_eq_true, not_true_eq_false, Nat.one_ne_zero, Nat.zero_ne_one] at c1 ⊢; exact c1 k hk
          · rw [g1 _ _ (by omega)]; simp only [gI_uI, gL_uL, gR_uR, gI_uL, gI_uR, gL_uI, gL_uR, gR_uI, gR_uL, true_and, and_true, Nat.add_right_cancel_iff, Nat.add_left_cancel_iff, Nat.reduceEqDiff, Nat.left_eq_add, Nat.right_eq_add, Nat.add_eq_left, Nat.add_eq_right, Nat.reduceAdd, Nat.succ_ne_self, reduceCtorEq, false_and, and_false, if_false, if_true, ite_true, ite_false, ite_self, Nat.succ_ne_zero, Nat.add_one_ne_zero, not_false_eq_true, not_true_eq_false, Nat.one_ne_zero, Nat.zero_ne_one] at c2 ⊢; exact c2
          · refine (hcp.to ?_ (hv.2.2.2.1 _ (rg_mem (by omega))).1.2.2).at
            refine (c5 c (by omega)).same (hv.2.2.2.1 _ (rg_mem (by omega))).1.2.2 fun k hk => ?_
            simp only [gI_uI, gL_uL, gR_uR, gI_uL, gI_uR, gL_uI, gL_uR, gR_uI, gR_uL, true_and, and_true, Nat.add_right_cancel_iff, Nat.add_left_cancel_iff, Nat.reduceEqDiff, Nat.left_eq_add, Nat.right_eq_add, Nat.add_eq_left, Nat.add_eq_right, Nat.reduceAdd, Nat.succ_ne_self, reduceCtorEq, false_and, and_false, if_false, if_true, ite_true, ite_false, ite_self, Nat.succ_ne_zero, Nat.add_one_ne_zero, not_false_eq_true, not_true_eq_false, Nat.one_ne_zero, Nat.zero_ne_one]
          · rw [g1 _ _ (by omega)]
            simp only [gI_uI, gL_uL, gR_uR, gI_uL, gI_uR, gL_uI, gL_uR, gR_uI, gR_uL, true_and, and_true, Nat.add_right_cancel_iff, Nat.add_left_cancel_iff, Nat.reduceEqDiff, Nat.left_eq_add, Nat.right_eq_add, Nat.add_eq_left, Nat.add_eq_right, Nat.reduceAdd, Nat.succ_ne_self, reduceCtorEq, false_and, and_false, if_false, if_true, ite_true, ite_false, ite_self, Nat.succ_ne_zero, Nat.add_one_ne_zero, not_false_eq_true, not_true_eq_false, Nat.one_ne_zero, Nat.zero_ne_one]
            show _ = nI ((vPast V).take c).length
            rw [List.length_take, Nat.min_eq_left (by omega)]
          · have hi' : i < c := by have : i < ((vPast V).take c).length := hi; rw [List.length_take] at this; omega
            have et : rg ((vPast V).take c) i = rg (vPast V) i := rg_take hi'
            show RwO Sj (m + 4) (145 * i) (rg ((vPast V).take c) i)
            rw [et]
            refine (c5 i (by omega)).same (hv.2.2.2.1 _ (rg_mem (by omega))).1.2.2 fun k hk => ?_
            rw [g1 _ _ (by omega)]; simp only [gI_uI, gL_uL, gR_uR, gI_uL, gI_uR, gL_uI, gL_uR, gR_uI, gR_uL, true_and, and_true, Nat.add_right_cancel_iff, Nat.add_left_cancel_iff, Nat.reduceEqDiff, Nat.left_eq_add, Nat.right_eq_add, Nat.add_eq_left, Nat.add_eq_right, Nat.reduceAdd, Nat.succ_ne_self, reduceCtorEq, false_and, and_false, if_false, if_true, ite_true, ite_false, ite_self, Nat.succ_ne_zero, Nat.add_one_ne_zero, not_false_eq_true, not_true_eq_false, Nat.one_ne_zero, Nat.zero_ne_one]
          · rw [g1 _ _ (by omega)]; simp only [gI_uI, gL_uL, gR_uR, gI_uL, gI_uR, gL_uI, gL_uR, gR_uI, gR_uL, true_and, and_true, Nat.add_right_cancel_iff, Nat.add_left_cancel_iff, Nat.reduceEqDiff, Nat.left_eq_add, Nat.right_eq_add, Nat.add_eq_left, Nat.add_eq_right, Nat.reduceAdd, Nat.succ_ne_self, reduceCtorEq, false_and, and_false, if_false, if_true, ite_true, ite_false, ite_self, Nat.succ_ne_zero, Nat.add_one_ne_zero, not_false_eq_true, not_true_eq_false, Nat.one_ne_zero, Nat.zero_ne_one] at c6 ⊢; exact c6
          · refine (c7 i hi).same (hv.2.2.2.2.2.1 _ (rg_mem hi)).1.2.2 fun k hk => ?_
            rw [g1 _ _ (by omega)]; simp only [gI_uI, gL_uL, gR_uR, gI_uL, gI_uR, gL_uI, gL_uR, gR_uI, gR_uL, true_and, and_true, Nat.add_right_cancel_iff, Nat.add_left_cancel_iff, Nat.reduceEqDiff, Nat.left_eq_add, Nat.right_eq_add, Nat.add_eq_left, Nat.add_eq_right, Nat.reduceAdd, Nat.succ_ne_self, reduceCtorEq, false_and, and_false, if_false, if_true, ite_true, ite_false, ite_self, Nat.succ_ne_zero, Nat.add_one_ne_zero, not_false_eq_true, not_true_eq_false, Nat.one_ne_zero, Nat.zero_ne_one]
          · rw [g1 _ _ (by omega)]; simp only [gI_uI, gL_uL, gR_uR, gI_uL, gI_uR, gL_uI, gL_uR, gR_uI, gR_uL, true_and, and_true, Nat.add_right_cancel_iff, Nat.add_left_cancel_iff, Nat.reduceEqDiff, Nat.left_eq_add, Nat.right_eq_add, Nat.add_eq_left, Nat.add_eq_right, Nat.reduceAdd, Nat.succ_ne_self, reduceCtorEq, false_and, and_false, if_false, if_true, ite_true, ite_false, ite_self, Nat.succ_ne_zero, Nat.add_one_ne_zero, not_false_eq_true, not_true_eq_false, Nat.one_ne_zero, Nat.zero_ne_one] at c8 ⊢; exact c8
          · rw [g1 _ _ (by omega)]; simp only [gI_uI, gL_uL, gR_uR, gI_uL, gI_uR, gL_uI, gL_uR, gR_uI, gR_uL, true_and, and_true, Nat.add_right_cancel_iff, Nat.add_left_cancel_iff, Nat.reduceEqDiff, Nat.left_eq_add, Nat.right_eq_add, Nat.add_eq_left, Nat.add_eq_right, Nat.reduceAdd, Nat.succ_ne_self, reduceCtorEq, false_and, and_false, if_false, if_true, ite_true, ite_false, ite_self, Nat.succ_ne_zero, Nat.add_one_ne_zero, not_false_eq_true, not_true_eq_false, Nat.one_ne_zero, Nat.zero_ne_one] at c9 ⊢; exact c9
          · rw [g1 _ _ (by omega)]; simp only [gI_uI, gL_uL, gR_uR, gI_uL, gI_uR, gL_uI, gL_uR, gR_uI, gR_uL, true_and, and_true, Nat.add_right_cancel_iff, Nat.add_left_cancel_iff, Nat.reduceEqDiff, Nat.left_eq_add, Nat.right_eq_add, Nat.add_eq_left, Nat.add_eq_right, Nat.reduceAdd, Nat.succ_ne_self, reduceCtorEq, false_and, and_false, if_false, if_true, ite_true, ite_false, ite_self, Nat.succ_ne_zero, Nat.add_one_ne_zero, not_false_eq_true, not_true_eq_false, Nat.one_ne_zero, Nat.zero_ne_one] at c10 ⊢; exact c10
          · have e1 : (b = m) = False := by simp only [eq_iff_iff, iff_false]; omega
            rw [g1 _ _ (by omega)]; simp only [gI_uI, gL_uL, gR_uR, gI_uL, gI_uR, gL_uI, gL_uR, gR_uI, gR_uL, true_and, and_true, Nat.add_right_cancel_iff, Nat.add_left_cancel_iff, Nat.reduceEqDiff, Nat.left_eq_add, Nat.right_eq_add, Nat.add_eq_left, Nat.add_eq_right, Nat.reduceAdd, Nat.succ_ne_self, reduceCtorEq, false_and, and_false, if_false, if_true, ite_true, ite_false, ite_self, Nat.succ_ne_zero, Nat.add_one_ne_zero, not_false_eq_true, not_true_eq_false, Nat.one_ne_zero, Nat.zero_ne_one, e1]
        refine cm_granted hnew fun S' h3 hr3 => ⟨bI_z _, kZ_i ?_⟩
        have := hf S'
        rw [uUndo, if_neg y, hc, decide_eq_true y] at this
        exact this h3 (frT0 (((Fr.rf.uI (by omega) (by omega)).trans (hcp.fr (by omega) (by omega))).trans hr3))
      | succ n ih =>
        intro k Sj hn hcp
        refine sX11_undo_38 hJ ?_
        have q1 : ((145 : Int32) ≤ nI k) = False := by rw [q145 (by omega)]; simp; omega
        have r15' : gR Sj m 15 = some (m + 2) := (hcp.2.2 m 15).trans r15
        have r17' : gR Sj m 17 = some (m + 4) := (hcp.2.2 m 17).trans r17
        have e19 : gI Sj m 19 = nI c := by rw [hcp.one (by omega)]; simp only [gI_uI, gL_uL, gR_uR, gI_uL, gI_uR, gL_uI, gL_uR, gR_uI, gR_uL, true_and, and_true, Nat.add_right_cancel_iff, Nat.add_left_cancel_iff, Nat.reduceEqDiff, Nat.left_eq_add, Nat.right_eq_add, Nat.add_eq_left, Nat.add_eq_right, Nat.reduceAdd, Nat.succ_ne_self, reduceCtorEq, false_and, and_false, if_false, if_true, ite_true, ite_false, ite_self, Nat.succ_ne_zero, Nat.add_one_ne_zero, not_false_eq_true, not_true_eq_false, Nat.one_ne_zero, Nat.zero_ne_one]
        simp only [q1, k0, k2, k4, r15', r17', e19, nI145, cl_n (show 145 * c + k ≤ 100000 by omega), vp_n (show 145 * c + k < 2320 by omega) (show 2320 ≤ 100000 by omega), cl_n (show k ≤ 100000 by omega), vp_n (show k < 145 by omega) (show 145 ≤ 100000 by omega), nI_1, not_false_eq_true, false_imp_iff, true_imp_iff, true_and, Option.some.injEq, Prod.mk.injEq, exists_eq_left', exists_eq_left, true_and, and_true, and_self, true_or, or_true, forall_const, exists_const, exists_and_left, wcat, Nat.zero_le, Nat.reduceLeDiff, Int32.lt_irrefl, not_false_eq_true, Nat.zero_add, forall_eq]
        have := hcp.s (by omega)
        rw [Nat.zero_add] at this
        exact ih (k + 1) _ (by omega) this
    exact loop 145 0 _ (by omega) cpO.z
end
