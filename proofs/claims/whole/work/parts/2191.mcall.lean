/-! the reference's calls: image, back, takes -/
theorem MAt.re {A : qA} {S S' : qS} {m : Nat} {V : VSt} {H : Nat → List Lot} {now : List Row} {past img : List (List Row)} (h : MAt A S m V) (hH : MH S' m H) (hR : ∀ b k, gR S' b k = gR S b k) (ht : ∀ k, gI S' (m + 1) k = gI S (m + 1) k) (h6 : gI S' m 6 = gI S m 6) (h1 : gI S' m 1 = gI S m 1) (h2 : gI S' m 2 = gI S m 2) (h12 : gI S' m 12 = gI S m 12) (hn : RwAt S' (m + 2) now) (h19 : gI S' m 19 = nI past.length) (hp : ∀ i, i < past.length → RwO S' (m + 4) (145 * i) (rg past i)) (h20 : gI S' m 20 = nI img.length) (hi : ∀ i, i < img.length → RwO S' (m + 5) (145 * i) (rg img i)) (ho : ∀ b, m + 27 < b → ∀ k, gI S' b k = gI S b k) : MAt A S' m (upV V now past img) := by
  obtain ⟨hI, -, ⟨c1, c2, c3, c4, c5, c6, c7, c8, c9, c10⟩, hL⟩ := h
  exact ⟨⟨hI.1, hI.2.fr fun k => hR m k⟩, ⟨H, hH⟩, ⟨fun k hk => (ht k).trans (c1 k hk), h6.trans c2, hn, h19, hp, h20, hi, h1.trans c8, h2.trans c9, h12.trans c10⟩, hL.fr (hR m 3) fun b hb k => ⟨ho b hb k, hR b k⟩⟩
section
variable {d : Nat} {A : qA} {S : qS} {m : Nat} {V : VSt}
set_option maxRecDepth 20000 in
set_option maxHeartbeats 1000000 in
theorem cm_image {f : Int32 → qS → Prop} (h : MAt A S m V) (hv : vOk V) (hf : ∀ S', MAt A S' m (uImage V).1 → Fr S S' m (m + 27) → f (uImage V).2 S') : Run (d + 10) 263 [.ref m] A S (kI A f) := by
  refine Run.i (C := mX11_image) rfl rfl rfl fun J hJ => ?_
  have hl3 := hv.2.2.2.2.2.2.1
  refine sX11_image_0 hJ ⟨h.1.1.1, fun T e => ?_⟩
  subst e
  have h0 := h.t0 (x := 0)
  refine ⟨h.1.1.1, fun z => ⟨h.1.1.1, wc rfl, cm_refused h0 fun S' h2 hr2 => kI_i ?_⟩, fun q z => ⟨h.1.1.1, ?_⟩⟩
  · have := hf S'
    rw [uImage, led_n (mLed_n h0.2.2.2 z)] at this
    exact this h2 (frT0 hr2)
  · obtain ⟨td, hL, -⟩ := mLed_s h0.2.2.2 z
    have hf' := hf
    rw [uImage, led_s hL, if_pos rfl] at hf'
    have hc0 := h0.2.2.1
    obtain ⟨c1, c2, c3, c4, c5, c6, c7, c8, c9, c10⟩ := hc0
    obtain ⟨⟨k0, k1, k2, k3, k4, k5, k6, k7, k8, k9, k10, k11, k12, k13, k14, k15, k16, k17, k18, k19, k20, k21, k22, k23, k24, k25, k26⟩, ⟨r5, r15, r16, r17, r18, r21, r22, r23, r24, r25, r26, r27, r28, r29, r30, r31, r32, r33, r34, r35, r36, r37, r38, r39, r40, r48⟩⟩ := h0.1
    obtain ⟨H, hH⟩ := h0.2.1
    rw [c6, show (3 : Int32) = nI 3 from rfl, nIeq (by omega) (by omega)]
    refine ⟨fun y => ?_, fun y => ⟨k0, wc rfl, cm_refused h0 fun S' h2 hr2 => kI_i ?_⟩⟩
    · rw [if_neg y] at hf'
      generalize hc : (vImg V).length = c at y c6 hf' hl3
      have loop : ∀ n k (Sj : qS), k + n = 145 → cpO (uI S m 0 0) Sj (m + 2) 0 (m + 5) (145 * c) k → J 34 [some (.ref m), some (.int (nI k))] [] A Sj := by
        intro n
        induction n with
        | zero =>
          intro k Sj hn hcp
          refine sX11_image_34 hJ ?_
          have ek : k = 145 := by omega
          subst ek
          have q1 : ((145 : Int32) ≤ nI 145) = True := by decide
          have e20 : gI Sj m 20 = nI c := (hcp.one (by omega)).trans c6
          have em : nI (c + 1) - 1 = nI c := nI_pred c
          simp only [q1, k0, e20, nI_1, em, not_true_eq_false, false_imp_iff, true_imp_iff, and_true, true_and, Option.some.injEq, Prod.mk.injEq, exists_eq_left', exists_eq_left, true_and, and_true, and_self, true_or, or_true, forall_const, exists_const, exists_and_left, wcat, Nat.zero_le, Nat.reduceLeDiff, Int32.lt_irrefl, not_false_eq_true, Nat.zero_add, forall_eq, gI_uI, gL_uL, gR_uR, gI_uL, gI_uR, gL_uI, gL_uR, gR_uI, gR_uL, true_and, and_true, Nat.add_right_cancel_iff, Nat.add_left_cancel_iff, Nat.reduceEqDiff, Nat.left_eq_add, Nat.right_eq_add, Nat.add_eq_left, Nat.add_eq_right, Nat.reduceAdd, Nat.succ_ne_self, reduceCtorEq, false_and, and_false, if_false, if_true, ite_true, ite_false, ite_self, Nat.succ_ne_zero, Nat.add_one_ne_zero, not_false_eq_true, not_true_eq_false, Nat.one_ne_zero, Nat.zero_ne_one]
          have hnew : MAt A (uI Sj m 20 (nI (c + 1))) m (upV V (vNow V) (vPast V) (vImg V ++ [vNow V])) := by
            have g1 : ∀ b k, ¬ b = m + 5 → ¬ (b = m ∧ k = 20) → gI (uI Sj m 20 (nI (c + 1))) b k = gI (uI S m 0 0) b k := fun b k hb hk => by rw [gI_uI, if_neg hk]; exact hcp.one hb
            refine MAt.re h0 (hH.cpO hcp (by omega)).one (fun b k => hcp.2.2 b k) (fun k => g1 _ _ (by omega) (by omega)) (g1 _ _ (by omega) (by omega)) (g1 _ _ (by omega) (by omega)) (g1 _ _ (by omega) (by omega)) (g1 _ _ (by omega) (by omega)) (c3.same fun k => g1 _ _ (by omega) (by omega)) ((g1 _ _ (by omega) (by omega)).trans c4) (fun i hi => (c5 i hi).same (hv.2.2.2.1 _ (rg_mem hi)).1.2.2 fun k hk => g1 _ _ (by omega) (by omega)) ?_ (fun i hi => ?_) (fun b hb k => g1 _ _ (by omega) (by omega))
            · simp only [gI_uI, gL_uL, gR_uR, gI_uL, gI_uR, gL_uI, gL_uR, gR_uI, gR_uL, true_and, and_true, Nat.add_right_cancel_iff, Nat.add_left_cancel_iff, Nat.reduceEqDiff, Nat.left_eq_add, Nat.right_eq_add, Nat.add_eq_left, Nat.add_eq_right, Nat.reduceAdd, Nat.succ_ne_self, reduceCtorEq, false_and, and_false, if_false, if_true, ite_true, ite_false, ite_self, Nat.succ_ne_zero, Nat.add_one_ne_zero, not_false_eq_true, not_true_eq_false, Nat.one_ne_zero, Nat.zero_ne_one, List.length_append, List.length_singleton, hc]
            · rw [List.length_append, List.length_singleton] at hi
              by_cases e : i = c
              · rw [e, ← hc, rg_end]
                have hto := hcp.to c3.o hv.2.1.1.2.2
                rw [← hc] at hto
                exact hto.same hv.2.1.1.2.2 fun k hk => by rw [gI_uI, if_neg (by omega)]
              · rw [rg_app (by omega)]
                have hof := hcp.off (c7 i (by omega)) (hv.2.2.2.2.2.1 _ (rg_mem (by omega))).1.2.2 (by omega)
                exact hof.same (hv.2.2.2.2.2.1 _ (rg_mem (by omega))).1.2.2 fun k hk => by rw [gI_uI, if_neg (by omega)]
          refine cm_good hnew fun S' h3 hr3 => kI_i ?_
          have := hf' S'
          exact this h3 (frT0 (((hcp.fr (by omega) (by omega)).uI (by omega) (by omega)).trans hr3))
        | succ n ih =>
          intro k Sj hn hcp
          refine sX11_image_34 hJ ?_
          have q1 : ((145 : Int32) ≤ nI k) = False := by rw [q145 (by omega)]; simp; omega
          have r15' : gR Sj m 15 = some (m + 2) := (hcp.2.2 m 15).trans r15
          have r18' : gR Sj m 18 = some (m + 5) := (hcp.2.2 m 18).trans r18
          have e20 : gI Sj m 20 = nI c := (hcp.one (by omega)).trans c6
          simp only [q1, k0, k2, k5, r15', r18', e20, nI145, cl_n (show 145 * c + k ≤ 100000 by omega), vp_n (show 145 * c + k < 435 by omega) (show 435 ≤ 100000 by omega), cl_n (show k ≤ 100000 by omega), vp_n (show k < 145 by omega) (show 145 ≤ 100000 by omega), nI_1, not_false_eq_true, false_imp_iff, true_imp_iff, true_and, Option.some.injEq, Prod.mk.injEq, exists_eq_left', exists_eq_left, true_and, and_true, and_self, true_or, or_true, forall_const, exists_const, exists_and_left, wcat, Nat.zero_le, Nat.reduceLeDiff, Int32.lt_irrefl, not_false_eq_true, Nat.zero_add, forall_eq]
          have := hcp.s (by omega)
          rw [Nat.zero_add] at this
          exact ih (k + 1) _ (by omega) this
      exact loop 145 0 _ (by omega) cpO.z
    · rw [if_pos y] at hf'
      exact hf' S' h2 (frT0 hr2)
set_option maxRecDepth 20000 in
set_option maxHeartbeats 1000000 in
theorem cm_back {i : Int32} {f : Bool → qS → Prop} (h : MAt A S m V) (hv : vOk V) (hf : ∀ S', MAt A S' m (uBack V i) → Fr S S' m (m + 27) → f (bkB V i) S') : Run (d + 10) 264 [.ref m, .int i] A S (kZ A f) := by
  refine Run.i (C := mX11_back) rfl rfl rfl fun J hJ => ?_
  have hl3 := hv.2.2.2.2.2.2.1
  refine sX11_back_0 hJ ⟨h.1.1.1, fun T e => ?_⟩
  subst e
  have h0 := h.t0 (x := 0)
  have no : bkB V i = false → Run (d + 9) 139 [.ref m, .int 1] A (uI S m 0 0) (kZ A fun b S' => (bI b = 0 ∨ bI b = 1) ∧ kZ A f (some (.int (bI b))) A S') := by
    intro z
    refine cm_denied h0 fun S' h2 hr2 => ⟨bI_z _, kZ_i ?_⟩
    have := hf S'
    rw [uBack, z] at this
    exact this h2 (frT0 hr2)
  have hc0 := h0.2.2.1
  obtain ⟨c1, c2, c3, c4, c5, c6, c7, c8, c9, c10⟩ := hc0
  obtain ⟨⟨k0, k1, k2, k3, k4, k5, k6, k7, k8, k9, k10, k11, k12, k13, k14, k15, k16, k17, k18, k19, k20, k21, k22, k23, k24, k25, k26⟩, ⟨r5, r15, r16, r17, r18, r21, r22, r23, r24, r25, r26, r27, r28, r29, r30, r31, r32, r33, r34, r35, r36, r37, r38, r39, r40, r48⟩⟩ := h0.1
  obtain ⟨H, hH⟩ := h0.2.1
  refine ⟨k0, fun z => ⟨k0, wc rfl, no ?_⟩, fun q z => ⟨fun y => ⟨k0, wc rfl, no (decide_eq_false (fun w => w.1 y))⟩, fun y => ⟨k0, ?_⟩⟩⟩
  · refine decide_eq_false (fun w => ?_)
    have := w.2
    rw [(hv.2.2.1 (mLed_n h0.2.2.2 z)).2.2] at this
    exact w.1 this
  · rw [c6]
    refine ⟨fun y1 => ?_, fun y1 => ⟨k0, wc rfl, no (decide_eq_false (fun w => y1 w.2))⟩⟩
    have hb : bkB V i = true := decide_eq_true ⟨y, y1⟩
    obtain ⟨c, hc, rfl⟩ := nI_idx (n := (vImg V).length) (by omega) y (Int32.not_le.mpr y1)
    have ec : pN (nI c) = c := cl_n (by omega)
    have hf' := hf
    rw [uBack, hb, if_pos rfl, ec] at hf'
    have hvi := (hv.2.2.2.2.2.1 _ (rg_mem hc)).1.2.2
    have loop : ∀ n k (Sj : qS), k + n = 145 → cpO (uI S m 0 0) Sj (m + 5) (145 * c) (m + 2) 0 k → J 32 [some (.ref m), some (.int (nI c)), some (.int (nI k))] [] A Sj := by
      intro n
      induction n with
      | zero =>
        intro k Sj hn hcp
        refine sX11_back_32 hJ ?_
        have ek : k = 145 := by omega
        subst ek
        have q1 : ((145 : Int32) ≤ nI 145) = True := by decide
        simp only [q1, k0, not_true_eq_false, false_imp_iff, true_imp_iff, and_true, true_and, Option.some.injEq, Prod.mk.injEq, exists_eq_left', exists_eq_left, true_and, and_true, and_self, true_or, or_true, forall_const, exists_const, exists_and_left, wcat, Nat.zero_le, Nat.reduceLeDiff, Int32.lt_irrefl, not_false_eq_true, Nat.zero_add, forall_eq]
        have hnew : MAt A (uI Sj m 19 0) m (upV V (rg (vImg V) c) [] (vImg V)) := by
          have g1 : ∀ b k, ¬ b = m + 2 → ¬ (b = m ∧ k = 19) → gI (uI Sj m 19 0) b k = gI (uI S m 0 0) b k := fun b k hb hk => by rw [gI_uI, if_neg hk]; exact hcp.one hb
          refine MAt.re h0 (hH.cpO hcp (by omega)).one (fun b k => hcp.2.2 b k) (fun k => g1 _ _ (by omega) (by omega)) (g1 _ _ (by omega) (by omega)) (g1 _ _ (by omega) (by omega)) (g1 _ _ (by omega) (by omega)) (g1 _ _ (by omega) (by omega)) ?_ (by simp only [gI_uI, gL_uL, gR_uR, gI_uL, gI_uR, gL_uI, gL_uR, gR_uI, gR_uL, true_and, and_true, Nat.add_right_cancel_iff, Nat.add_left_cancel_iff, Nat.reduceEqDiff, Nat.left_eq_add, Nat.right_eq_add, Nat.add_eq_left, Nat.add_eq_right, Nat.reduceAdd, Nat.succ_ne_self, reduceCtorEq, false_and, and_false, if_false, if_true, ite_true, ite_false, ite_self, Nat.succ_ne_zero, Nat.add_one_ne_zero, not_false_eq_true, not_true_eq_false, Nat.one_ne_zero, Nat.zero_ne_one]; rfl) (fun i hi => absurd hi (Nat.not_lt_zero _)) ((g1 _ _ (by omega) (by omega)).trans c6) (fun i hi => (c7 i hi).same (hv.2.2.2.2.2.1 _ (rg_mem hi)).1.2.2 fun k hk => g1 _ _ (by omega) (by omega)) (fun b hb k => g1 _ _ (by omega) (by omega))
          exact ((hcp.to (c7 c hc) hvi).same hvi fun k hk => by rw [gI_uI, if_neg (by omega)]).at
        refine cm_granted hnew fun S' h3 hr3 => ⟨bI_z _, kZ_i ?_⟩
        have := hf' S'
        exact this h3 (frT0 (((hcp.fr (by omega) (by omega)).uI (by omega) (by omega)).trans hr3))
      | succ n ih =>
        intro k Sj hn hcp
        refine sX11_back_32 hJ ?_
        have q1 : ((145 : Int32) ≤ nI k) = False := by rw [q145 (by omega)]; simp; omega
        have r15' : gR Sj m 15 = some (m + 2) := (hcp.2.2 m 15).trans r15
        have r18' : gR Sj m 18 = some (m + 5) := (hcp.2.2 m 18).trans r18
        simp only [q1, k0, k2, k5, r15', r18', nI145, cl_n (show 145 * c + k ≤ 100000 by omega), vp_n (show 145 * c + k < 435 by omega) (show 435 ≤ 100000 by omega), cl_n (show k ≤ 100000 by omega), vp_n (show k < 145 by omega) (show 145 ≤ 100000 by omega), nI_1, not_false_eq_true, false_imp_iff, true_imp_iff, true_and, Option.some.injEq, Prod.mk.injEq, exists_eq_left', exists_eq_left, true_and, and_true, and_self, true_or, or_true, forall_const, exists_const, exists_and_left, wcat, Nat.zero_le, Nat.reduceLeDiff, Int32.lt_irrefl, not_false_eq_true, Nat.zero_add, forall_eq]
        have := hcp.s (by omega)
        rw [Nat.zero_add] at this
        exact ih (k + 1) _ (by omega) this
    exact loop 145 0 _ (by omega) cpO.z
end
