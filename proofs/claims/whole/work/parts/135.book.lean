/-! Book.bookSell: its contract -/
section
variable {d : Nat} {A : qA} {S : qS} {B : Nat} {H : Nat → List Lot} {G : List CPie} {O : List Nat} {z : Int64} {E : BkE}
/-- what a sell leaves: pieces, lots, open rows -/
def sellAll (w : Int32) (pa : Nat) (day sh pr rule : Int32) (G : List CPie) (L : List Lot) (O : List Nat) : List CPie × List Lot × List Nat := nwGo w day (sellGo rule 40 sh L).1.length G.length (G ++ (sellGo rule 40 sh L).1.map (soldP pa day pr)) (sellGo rule 40 sh L).2 O
theorem sellGo_0 {rule w : Int32} {L : List Lot} : sellGo rule 0 w L = ([], L) := rfl
set_option maxRecDepth 20000 in
set_option maxHeartbeats 1600000 in
theorem ct_bookSell {t pa : Nat} {day sh pr rule : Int32} {f : Bool → qS → Prop} (h : BkAt A S B H G O z E) (ht : t < 36) (hp : pa < 3) (hn : (H pa).length + 1 + O.length ≤ 40) (hm : G.length + (H pa).length ≤ 666) (hf0 : ¬ sh ≤ shSum (H pa) (H pa).length → f false S) (hf : sh ≤ shSum (H pa) (H pa).length → ∀ S', BkAt A S' B (upH H pa (sellAll E.1 pa day sh pr rule G (H pa) O).2.1) (sellAll E.1 pa day sh pr rule G (H pa) O).1 (sellAll E.1 pa day sh pr rule G (H pa) O).2.2 z (E.1, upF E.2.1 t (nI G.length), upF E.2.2.1 t (nI (sellGo rule 40 sh (H pa)).1.length), E.2.2.2) → Fr S S' B (B + 144) → f true S') : Run (d + 4) 5 [.ref B, .int (nI t), .int (nI pa), .int day, .int sh, .int pr, .int rule] A S (kZ A f) := by
  refine Run.i (C := mX0_bookSell) rfl rfl rfl fun J hJ => ?_
  have lens := sellGo_len rule 40 sh (H pa)
  unfold sellAll at hf
  generalize hX : sellGo rule 40 sh (H pa) = X at hf lens
  generalize hR : nwGo E.1 day X.1.length G.length (G ++ X.1.map (soldP pa day pr)) X.2 O = R at hf
  have loop2 : sh ≤ shSum (H pa) (H pa).length → ∀ n k (G' : List CPie) (L : List Lot) (O' : List Nat) (Sj : qS) (w1 w2 w4 w5 w6 w8 w9 w11 : Option Value), k + n = G'.length → L.length + O'.length + n ≤ 40 → BkAt A Sj B (upH H pa L) G' O' z (E.1, upF E.2.1 t (nI G.length), upF E.2.2.1 t (nI X.1.length), E.2.2.2) → Fr S Sj B (B + 144) → nwGo E.1 day n k G' L O' = R → J 173 [some (.ref B), w1, w2, some (.int day), w4, w5, w6, some (.ref (B + 18 + 42 * pa)), w8, w9, some (.int (nI k)), w11] [] A Sj := by
    intro hsh n
    induction n with
    | zero =>
      intro k G' L O' Sj w1 w2 w4 w5 w6 w8 w9 w11 hk hL hB hr he
      refine sX0_bookSell_173 hJ ?_
      have gl := hB.2.2.1.2.2.2
      simp only [hB.1.1, hB.2.1.2.1, hB.2.2.1.1.1, hB.2.2.1.2.2.1.1, nIle (show G'.length ≤ 100000 by omega) (show k ≤ 100000 by omega), Option.some.injEq, Prod.mk.injEq, exists_eq_left', exists_eq_left, true_and, and_true, and_self, true_or, or_true, forall_const, exists_const, exists_and_left, wcat, Nat.zero_le, Nat.reduceLeDiff, Int32.lt_irrefl, not_false_eq_true, Nat.zero_add, forall_eq]
      refine ⟨fun _ => kZ_1 (hf hsh _ ?_ hr), fun c => absurd (by omega) c⟩
      rw [← he]
      exact hB
    | succ n ih =>
      intro k G' L O' Sj w1 w2 w4 w5 w6 w8 w9 w11 hk hL hB hr he
      refine sX0_bookSell_173 hJ ?_
      have gl := hB.2.2.1.2.2.2
      simp only [hB.1.1, hB.2.1.2.1, hB.2.2.1.1.1, hB.2.2.1.2.2.1.1, nIle (show G'.length ≤ 100000 by omega) (show k ≤ 100000 by omega), nI_1, Option.some.injEq, Prod.mk.injEq, exists_eq_left', exists_eq_left, true_and, and_true, and_self, true_or, or_true, forall_const, exists_const, exists_and_left, wcat, Nat.zero_le, Nat.reduceLeDiff, Int32.lt_irrefl, not_false_eq_true, Nat.zero_add, forall_eq]
      refine ⟨fun c => absurd c (by omega), fun _ => ct_replaceByLotsLeft hB (by omega) hp (by rw [upH_at]; omega) fun S' hB' hr' => ?_⟩
      rw [upH_at, upH_up] at hB'
      dsimp only at hB'
      have kk : k < (G'.set k ((pt G' k).1, (rbl E.1 day 40 0 (pt G' k).2 L).1)).length := by rw [List.length_set]; omega
      refine ct_noteIfOpen hB' kk (by omega) fun S'' hB'' hr'' => ?_
      rw [pt_at (by omega)] at hB''
      rw [nwGo] at he
      refine ih (k + 1) _ _ _ S'' _ _ _ _ _ _ _ _ (by rw [List.length_set]; omega) ?_ hB'' ((hr.trans hr').trans hr'') he
      rcases rbl_len E.1 day 40 0 (pt G' k).2 L with e | e
      · rw [if_pos e.1]; omega
      · split
        · omega
        · rw [List.length_append, List.length_singleton]; omega
  have fin : sh ≤ shSum (H pa) (H pa).length → ∀ (L : List Lot) (Sj : qS) (w1 w2 w4 w5 w6 w8 w9 w11 : Option Value), BkAt A Sj B (upH H pa X.2) (G ++ X.1.map (soldP pa day pr)) O z E → Fr S Sj B (B + 144) → J 173 [some (.ref B), w1, w2, some (.int day), w4, w5, w6, some (.ref (B + 18 + 42 * pa)), w8, w9, some (.int (nI G.length)), w11] [] A (uI (uI Sj (B + 13) t (nI G.length)) (B + 14) t (nI X.1.length)) := by
    intro hsh L Sj w1 w2 w4 w5 w6 w8 w9 w11 hB hr
    refine loop2 hsh X.1.length G.length _ _ O _ _ _ _ _ _ _ _ _ (by rw [List.length_append, List.length_map]) (by omega) hB.fp.pc ((hr.uI (by omega) (by omega)).uI (by omega) (by omega)) hR
  have loop1 : sh ≤ shSum (H pa) (H pa).length → ∀ n i (w : Int32) (G' : List CPie) (L : List Lot) (Sj : qS) (w4 w11 : Option Value), i + n = 40 → L.length < 40 → BkAt A Sj B (upH H pa L) G' O z E → Fr S Sj B (B + 144) → G' ++ (sellGo rule n w L).1.map (soldP pa day pr) = G ++ X.1.map (soldP pa day pr) → (sellGo rule n w L).2 = X.2 → J 59 [some (.ref B), some (.int (nI t)), some (.int (nI pa)), some (.int day), w4, some (.int pr), some (.int rule), some (.ref (B + 18 + 42 * pa)), some (.int (nI G.length)), some (.int w), some (.int (nI i)), w11] [] A Sj := by
    intro hsh n
    induction n with
    | zero =>
      intro i w G' L Sj w4 w11 hi hL hB hr e1 e2
      refine sX0_bookSell_59 hJ ?_
      have c40 : ((40 : Int32) ≤ nI i) = True := by rw [show (40 : Int32) = nI 40 from rfl, nIle (by omega) (by omega)]; simp; omega
      have gl := hB.2.2.1.2.2.2
      have hGl : G'.length = G.length + X.1.length := by have := congrArg List.length e1; rw [sellGo_0, List.map_nil, List.append_nil, List.length_append, List.length_map] at this; exact this
      simp only [c40, hB.1.1, hB.2.1.2.1, hB.2.1.2.2.1, hB.2.1.2.2.2.1, hB.1.2.2.1, hB.1.2.2.2.1, hB.2.2.1.1.1, hB.2.2.1.2.2.1.1, hGl, nI_subl, cl_n (show t ≤ 100000 by omega), vp_n ht (show 36 ≤ 100000 by omega), not_true_eq_false, false_imp_iff, true_imp_iff, Option.some.injEq, Prod.mk.injEq, exists_eq_left', exists_eq_left, true_and, and_true, and_self, true_or, or_true, forall_const, exists_const, exists_and_left, wcat, Nat.zero_le, Nat.reduceLeDiff, Int32.lt_irrefl, not_false_eq_true, Nat.zero_add, forall_eq, gI_uI, gL_uL, gR_uR, gI_uL, gI_uR, gL_uI, gL_uR, gR_uI, gR_uL, true_and, and_true, Nat.add_right_cancel_iff, Nat.add_left_cancel_iff, Nat.reduceEqDiff, Nat.left_eq_add, Nat.right_eq_add, Nat.add_eq_left, Nat.add_eq_right, Nat.reduceAdd, Nat.succ_ne_self, reduceCtorEq, false_and, and_false, if_false, if_true, ite_true, ite_false, ite_self, Nat.succ_ne_zero, Nat.add_one_ne_zero, not_false_eq_true, not_true_eq_false, Nat.one_ne_zero, Nat.zero_ne_one]
      rw [sellGo_0] at e1 e2
      rw [List.map_nil, List.append_nil] at e1
      dsimp only at e2
      rw [e1, e2] at hB
      exact fin hsh L Sj _ _ _ _ _ _ _ _ hB hr
    | succ n ih =>
      intro i w G' L Sj w4 w11 hi hL hB hr e1 e2
      refine sX0_bookSell_59 hJ ?_
      have c40 : ((40 : Int32) ≤ nI i) = False := by rw [show (40 : Int32) = nI 40 from rfl, nIle (by omega) (by omega)]; simp; omega
      have gl := hB.2.2.1.2.2.2
      have ga := hB.2.2.1.1.1
      have gi := hB.2.2.1.2.2.1.1
      have ll := (hB.2.2.2.1 pa hp).1.1
      have v13 := hB.2.1.2.2.1
      have v14 := hB.2.1.2.2.2.1
      have v1 := hB.2.1.2.1
      have hGl : w ≤ 0 ∨ L.length = 0 → G'.length = G.length + X.1.length ∧ BkAt A Sj B (upH H pa X.2) (G ++ X.1.map (soldP pa day pr)) O z E := fun c => by
        have e : sellGo rule (n + 1) w L = ([], L) := by
          rw [sellGo]
          rcases c with c | c
          · rw [if_pos c]
          · rw [if_pos c]; split <;> rfl
        rw [e] at e1 e2
        simp only [List.map_nil, List.append_nil] at e1 e2
        have := congrArg List.length e1
        rw [List.length_append, List.length_map] at this
        rw [e1, e2] at hB
        exact ⟨this, hB⟩
      simp only [c40, hB.1.1, v1, v13, v14, hB.1.2.2.1, hB.1.2.2.2.1, ga, gi, ll, cl_n (show t ≤ 100000 by omega), vp_n ht (show 36 ≤ 100000 by omega), nI_1, not_true_eq_false, false_imp_iff, true_imp_iff, Option.some.injEq, Prod.mk.injEq, exists_eq_left', exists_eq_left, true_and, and_true, and_self, true_or, or_true, forall_const, exists_const, exists_and_left, wcat, Nat.zero_le, Nat.reduceLeDiff, Int32.lt_irrefl, not_false_eq_true, Nat.zero_add, forall_eq, gI_uI, gL_uL, gR_uR, gI_uL, gI_uR, gL_uI, gL_uR, gR_uI, gR_uL, true_and, and_true, Nat.add_right_cancel_iff, Nat.add_left_cancel_iff, Nat.reduceEqDiff, Nat.left_eq_add, Nat.right_eq_add, Nat.add_eq_left, Nat.add_eq_right, Nat.reduceAdd, Nat.succ_ne_self, reduceCtorEq, false_and, and_false, if_false, if_true, ite_true, ite_false, ite_self, Nat.succ_ne_zero, Nat.add_one_ne_zero, not_false_eq_true, not_true_eq_false, Nat.one_ne_zero, Nat.zero_ne_one]
      refine ⟨fun c => ?_, fun c => ?_⟩
      · obtain ⟨hg, hb⟩ := hGl (Or.inl c)
        rw [hg, nI_subl]
        exact fin hsh L Sj _ _ _ _ _ _ _ _ hb hr
      · refine ct_nextBy (hB.2.2.2.1 pa hp) ?_
        rw [upH_at]
        refine ⟨fun e => ⟨fun z => absurd z (by decide), fun _ => ?_⟩, fun e => ⟨fun _ => ?_, fun z => absurd (by rw [show (0 : Int32) = nI 0 from rfl, nIle (by omega) (by have := pick_lt (rule := rule) e; omega)]; omega) z⟩⟩
        · obtain ⟨hg, hb⟩ := hGl (Or.inr e)
          simp only [hB.1.1, v1, v13, v14, hB.1.2.2.1, hB.1.2.2.2.1, ga, gi, cl_n (show t ≤ 100000 by omega), vp_n ht (show 36 ≤ 100000 by omega), hg, nI_subl, Option.some.injEq, Prod.mk.injEq, exists_eq_left', exists_eq_left, true_and, and_true, and_self, true_or, or_true, forall_const, exists_const, exists_and_left, wcat, Nat.zero_le, Nat.reduceLeDiff, Int32.lt_irrefl, not_false_eq_true, Nat.zero_add, forall_eq, gI_uI, gL_uL, gR_uR, gI_uL, gI_uR, gL_uI, gL_uR, gR_uI, gR_uL, true_and, and_true, Nat.add_right_cancel_iff, Nat.add_left_cancel_iff, Nat.reduceEqDiff, Nat.left_eq_add, Nat.right_eq_add, Nat.add_eq_left, Nat.add_eq_right, Nat.reduceAdd, Nat.succ_ne_self, reduceCtorEq, false_and, and_false, if_false, if_true, ite_true, ite_false, ite_self, Nat.succ_ne_zero, Nat.add_one_ne_zero, not_false_eq_true, not_true_eq_false, Nat.one_ne_zero, Nat.zero_ne_one]
          exact fin hsh L Sj _ _ _ _ _ _ _ _ hb hr
        · have hpk := pick_lt (rule := rule) e
          have hgl : G'.length < 666 := by
            have z1 := congrArg List.length e1
            rw [sellGo, if_neg c, if_neg (by omega)] at z1
            simp only [List.length_append, List.length_map, List.length_cons] at z1
            omega
          refine ct_part (hB.2.2.2.1 pa hp) (by rw [upH_at]; exact hpk) (by rw [upH_at]; exact hL) fun S1 hL1 hr1 => ?_
          rw [upH_at] at hL1
          have hB1 := hB.up hp hr1 hL1
          rw [upH_up] at hB1
          have plen := partIf_len (sh := w) hpk
          obtain ⟨⟨n0, n1, n2⟩, π, y1, y2, y3, ⟨y4, y5⟩, y6⟩ := hL1
          obtain ⟨wl, wr⟩ := y4 (pick L rule) (by omega)
          have yl := y6 (pick L rule) plen.1
          have z0 := yl.1
          have b1 := hB1.2.1.2.1
          have b2 := hB1.2.2.1.1.1
          simp only [n0, n1, y1, wr, n2 _ wl, b1, b2, z0, cl_n (show pick L rule ≤ 100000 by omega), vp_n (show pick L rule < 40 by omega) (show 40 ≤ 100000 by omega), Option.some.injEq, Prod.mk.injEq, exists_eq_left', exists_eq_left, true_and, and_true, and_self, true_or, or_true, forall_const, exists_const, exists_and_left, wcat, Nat.zero_le, Nat.reduceLeDiff, Int32.lt_irrefl, not_false_eq_true, Nat.zero_add, forall_eq]
          refine ct_pieceAdd hB1.2.2.1 hgl (n2 _ wl) yl (by omega) fun S2 hG2 hr2 => ?_
          have hB2 := hB1.pie hr2 hG2 (by simp)
          refine ct_lotsRemove (hB2.2.2.2.1 pa hp) (by rw [upH_at]; exact plen.1) fun S3 hL3 hr3 => ?_
          rw [upH_at] at hL3
          have hB3 := hB2.up hp hr3 hL3
          rw [upH_up] at hB3
          rw [sellGo, if_neg c, if_neg (by omega)] at e1 e2
          refine ih (i + 1) _ _ _ S3 _ _ (by omega) (by rw [List.length_eraseIdx_of_lt plen.1]; omega) hB3 (((hr.trans (hr1.wide (by omega) (by omega))).trans (hr2.wide (by omega) (by omega))).trans (hr3.wide (by omega) (by omega))) ?_ e2
          rw [← e1, List.append_assoc]
          rfl
  have h0 := h
  obtain ⟨⟨l0, l1, -⟩, ⟨q0, q1, q2, q3, q4, q5, q6, q7⟩, hG, hH, -⟩ := h
  refine sX0_bookSell_0 hJ ?_
  have c0 : (nI pa < 0) = False := by simp only [eq_iff_iff, iff_false]; exact nI_pos (by omega)
  have c3 : ((3 : Int32) ≤ nI pa) = False := by rw [show (3 : Int32) = nI 3 from rfl, nIle (by omega) (by omega)]; simp; omega
  have d0 : (nI t < 0) = False := by simp only [eq_iff_iff, iff_false]; exact nI_pos (by omega)
  have d3 : ((36 : Int32) ≤ nI t) = False := by rw [show (36 : Int32) = nI 36 from rfl, nIle (by omega) (by omega)]; simp; omega
  simp only [c0, c3, d0, d3, l0, q0, l1, q7 pa hp, cl_n (show pa ≤ 100000 by omega), vp_n hp (show 3 ≤ 100000 by omega), (hH pa hp).1.1, not_false_eq_true, false_imp_iff, true_imp_iff, Option.some.injEq, Prod.mk.injEq, exists_eq_left', exists_eq_left, true_and, and_true, and_self, true_or, or_true, forall_const, exists_const, exists_and_left, wcat, Nat.zero_le, Nat.reduceLeDiff, Int32.lt_irrefl, not_false_eq_true, Nat.zero_add, forall_eq, true_and, and_true, Nat.add_right_cancel_iff, Nat.add_left_cancel_iff, Nat.reduceEqDiff, Nat.left_eq_add, Nat.right_eq_add, Nat.add_eq_left, Nat.add_eq_right, Nat.reduceAdd, Nat.succ_ne_self, reduceCtorEq, false_and, and_false, if_false, if_true, ite_true, ite_false, ite_self, Nat.succ_ne_zero, Nat.add_one_ne_zero, not_false_eq_true, not_true_eq_false, Nat.one_ne_zero, Nat.zero_ne_one]
  refine ct_allShares (hH pa hp) ⟨fun c => ?_, fun c => kZ_0 (hf0 c)⟩
  simp only [q0, q1, l1, q7 pa hp, hG.1.1, hG.2.2.1.1, cl_n (show pa ≤ 100000 by omega), vp_n hp (show 3 ≤ 100000 by omega), Option.some.injEq, Prod.mk.injEq, exists_eq_left', exists_eq_left, true_and, and_true, and_self, true_or, or_true, forall_const, exists_const, exists_and_left, wcat, Nat.zero_le, Nat.reduceLeDiff, Int32.lt_irrefl, not_false_eq_true, Nat.zero_add, forall_eq]
  exact loop1 c 40 0 sh G (H pa) S _ _ (by omega) (by omega) (by rw [upH_s]; exact h0) Fr.rf (by rw [hX]) (by rw [hX])
end
