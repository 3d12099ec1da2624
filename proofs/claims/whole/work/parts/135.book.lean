/-! Book.bookSell: its contract -/
section
variable {d : Nat} {A : qA} {S : qS} {B : Nat} {H : Nat → List Lot} {G : List CPie} {O : List Nat} {z : Int64} {E : BkE}
/-- what a sell leaves: pieces, lots, open rows -/
def sellAll (w : Int32) (pa : Nat) (day sh pr rule : Int32) (G : List CPie) (L : List Lot) (O : List Nat) : List CPie × List Lot × List Nat := nwGo w day (sellGo rule 40 sh L).1.length G.length (G ++ (sellGo rule 40 sh L).1.map (soldP pa day pr)) (sellGo rule 40 sh L).2 O
set_option maxRecDepth 20000 in
set_option maxHeartbeats 8000000 in
theorem ct_bookSell {t pa : Nat} {day sh pr rule : Int32} {f : Bool → qS → Prop} (h : BkAt A S B H G O z E) (ht : t < 36) (hp : pa < 3) (hn : (H pa).length + 1 + O.length ≤ 40) (hm : G.length + (H pa).length ≤ 666) (hf0 : ¬ sh ≤ shSum (H pa) (H pa).length → f false S) (hf : sh ≤ shSum (H pa) (H pa).length → ∀ S', BkAt A S' B (upH H pa (sellAll E.1 pa day sh pr rule G (H pa) O).2.1) (sellAll E.1 pa day sh pr rule G (H pa) O).1 (sellAll E.1 pa day sh pr rule G (H pa) O).2.2 z (E.1, upF E.2.1 t (nI G.length), upF E.2.2.1 t (nI (sellGo rule 40 sh (H pa)).1.length), E.2.2.2) → Fr S S' B (B + 144) → f true S') : Run (d + 4) 5 [.ref B, .int (nI t), .int (nI pa), .int day, .int sh, .int pr, .int rule] A S (kZ A f) := by
  refine Run.i (C := mX0_bookSell) rfl rfl rfl fun J hJ => ?_
  have lens := sellGo_len rule 40 sh (H pa)
  have loop2 : sh ≤ shSum (H pa) (H pa).length → ∀ n k (G' : List CPie) (L : List Lot) (O' : List Nat) (Sj : qS) (w1 w2 w4 w5 w6 w8 w9 w11 : Option Value), k + n = G'.length → L.length + O'.length + n ≤ 40 → BkAt A Sj B (upH H pa L) G' O' z (E.1, upF E.2.1 t (nI G.length), upF E.2.2.1 t (nI (sellGo rule 40 sh (H pa)).1.length), E.2.2.2) → Fr S Sj B (B + 144) → nwGo E.1 day n k G' L O' = sellAll E.1 pa day sh pr rule G (H pa) O → J 173 [some (.ref B), w1, w2, some (.int day), w4, w5, w6, some (.ref (B + 18 + 42 * pa)), w8, w9, some (.int (nI k)), w11] [] A Sj := by
    intro hsh n
    induction n with
    | zero =>
      intro k G' L O' Sj w1 w2 w4 w5 w6 w8 w9 w11 hk hL hB hr he
      refine sX0_bookSell_173 hJ ?_
      have gl := hB.2.2.1.2.2.2
      simp only [hB.1.1, hB.2.1.2.1, hB.2.2.1.1.1, hB.2.2.1.2.2.1.1, nIle (show G'.length ≤ 100000 by omega) (show k ≤ 100000 by omega), Option.some.injEq, Prod.mk.injEq, exists_eq_left', exists_eq_left, true_and, and_true, and_self, true_or, or_true, forall_const, exists_const, exists_and_left, wcat, Nat.zero_le, Nat.reduceLeDiff, Int32.lt_irrefl, not_false_eq_true, Nat.zero_add, forall_eq]
      refine ⟨fun _ => kZ_1 (hf hsh _ ?_ hr), fun c => absurd (by omega) c⟩
      rw [← he]
      exact hB
    | succ n ih =>
      intro k G' L O' Sj w1 w2 w4 w5 w6 w8 w9 w11 hk hL hB hr he
      refine sX0_bookSell_173 hJ ?_
      have gl := hB.2.2.1.2.2.2
      simp only [hB.1.1, hB.2.1.2.1, hB.2.2.1.1.1, hB.2.2.1.2.2.1.1, nIle (show G'.length ≤ 100000 by omega) (show k ≤ 100000 by omega), nI_1, Option.some.injEq, Prod.mk.injEq, exists_eq_left', exists_eq_left, true_and, and_true, and_self, true_or, or_true, forall_const, exists_const, exists_and_left, wcat, Nat.zero_le, Nat.reduceLeDiff, Int32.lt_irrefl, not_false_eq_true, Nat.zero_add, forall_eq]
      refine ⟨fun c => absurd c (by omega), fun _ => ct_replaceByLotsLeft hB (by omega) hp (by rw [upH_at]; omega) fun S' hB' hr' => ?_⟩
      rw [upH_at, upH_up] at hB'
      have kk : k < (G'.set k ((pt G' k).1, (rbl E.1 day 40 0 (pt G' k).2 L).1)).length := by rw [List.length_set]; omega
      refine ct_noteIfOpen hB' kk (by omega) fun S'' hB'' hr'' => ?_
      rw [pt_at (by omega)] at hB''
      rw [nwGo] at he
      refine ih (k + 1) _ _ _ S'' _ _ _ _ _ _ _ _ (by rw [List.length_set]; omega) ?_ hB'' ((hr.trans hr').trans hr'') he
      rcases rbl_len E.1 day 40 0 (pt G' k).2 L with e | e
      · rw [if_pos e.1]; omega
      · split
        · omega
        · rw [List.length_append, List.length_singleton]; omega
  have fin : sh ≤ shSum (H pa) (H pa).length → ∀ (L : List Lot) (Sj : qS) (w1 w2 w4 w5 w6 w8 w9 w11 : Option Value), BkAt A Sj B (upH H pa (sellGo rule 40 sh (H pa)).2) (G ++ (sellGo rule 40 sh (H pa)).1.map (soldP pa day pr)) O z E → Fr S Sj B (B + 144) → J 173 [some (.ref B), w1, w2, some (.int day), w4, w5, w6, some (.ref (B + 18 + 42 * pa)), w8, w9, some (.int (nI G.length)), w11] [] A (uI (uI Sj (B + 13) t (nI G.length)) (B + 14) t (nI (sellGo rule 40 sh (H pa)).1.length)) := by
    intro hsh L Sj w1 w2 w4 w5 w6 w8 w9 w11 hB hr
    refine loop2 hsh (sellGo rule 40 sh (H pa)).1.length G.length _ _ O _ _ _ _ _ _ _ _ _ (by rw [List.length_append, List.length_map]) (by omega) hB.fp.pc ((hr.uI (by omega) (by omega)).uI (by omega) (by omega)) rfl
  have loop1 : sh ≤ shSum (H pa) (H pa).length → ∀ n i (w : Int32) (G' : List CPie) (L : List Lot) (Sj : qS) (w4 w11 : Option Value), i + n = 40 → L.length < 40 → BkAt A Sj B (upH H pa L) G' O z E → Fr S Sj B (B + 144) → G' ++ (sellGo rule n w L).1.map (soldP pa day pr) = G ++ (sellGo rule 40 sh (H pa)).1.map (soldP pa day pr) → (sellGo rule n w L).2 = (sellGo rule 40 sh (H pa)).2 → J 59 [some (.ref B), some (.int (nI t)), some (.int (nI pa)), some (.int day), w4, some (.int pr), some (.int rule), some (.ref (B + 18 + 42 * pa)), some (.int (nI G.length)), some (.int w), some (.int (nI i)), w11] [] A Sj := by
    intro hsh n
    induction n with
    | zero =>
      intro i w G' L Sj w4 w11 hi hL hB hr e1 e2
      refine sX0_bookSell_59 hJ ?_
      have c40 : ((40 : Int32) ≤ nI i) = True := by rw [show (40 : Int32) = nI 40 from rfl, nIle (by omega) (by omega)]; simp; omega
      have gl := hB.2.2.1.2.2.2
      have hGl : G'.length = G.length + (sellGo rule 40 sh (H pa)).1.length := by have := congrArg List.length e1; simp only [sellGo, List.map_nil, List.append_nil, List.length_append, List.length_map] at this; exact this
      simp only [c40, hB.1.1, hB.2.1.2.1, hB.2.1.2.2.1, hB.2.1.2.2.2.1, hB.1.2.2.1, hB.1.2.2.2.1, hB.2.2.1.1.1, hB.2.2.1.2.2.1.1, hGl, nI_subl, cl_n (show t ≤ 100000 by omega), vp_n ht (show 36 ≤ 100000 by omega), not_true_eq_false, false_imp_iff, true_imp_iff, Option.some.injEq, Prod.mk.injEq, exists_eq_left', exists_eq_left, true_and, and_true, and_self, true_or, or_true, forall_const, exists_const, exists_and_left, wcat, Nat.zero_le, Nat.reduceLeDiff, Int32.lt_irrefl, not_false_eq_true, Nat.zero_add, forall_eq, gI_uI, gL_uL, gR_uR, gI_uL, gI_uR, gL_uI, gL_uR, gR_uI, gR_uL, true_and, and_true, Nat.add_right_cancel_iff, Nat.add_left_cancel_iff, Nat.reduceEqDiff, Nat.left_eq_add, Nat.right_eq_add, Nat.add_eq_left, Nat.add_eq_right, Nat.reduceAdd, Nat.succ_ne_self, reduceCtorEq, false_and, and_false, if_false, if_true, ite_true, ite_false, ite_self, Nat.succ_ne_zero, Nat.add_one_ne_zero, not_false_eq_true, not_true_eq_false, Nat.one_ne_zero, Nat.zero_ne_one]
      simp only [sellGo, List.map_nil, List.append_nil] at e1 e2
      rw [e1, e2] at hB
      exact fin hsh L Sj _ _ _ _ _ _ _ _ hB hr
    | succ n ih =>
      intro i w G' L Sj w4 w11 hi hL hB hr e1 e2
      refine sX0_bookSell_59 hJ ?_
      have c40 : ((40 : Int32) ≤ nI i) = False := by rw [show (40 : Int32) = nI 40 from rfl, nIle (by omega) (by omega)]; simp; omega
      have gl := hB.2.2.1.2.2.2
      have ga := hB.2.2.1.1.1
      have gi := hB.2.2.1.2.2.1.1
      have ll := (hB.2.2.2.1 pa hp).1.1
      have v13 := hB.2.1.2.2.1
      have v14 := hB.2.1.2.2.2.1
      have v1 := hB.2.1.2.1
      have hGl : w ≤ 0 ∨ L.length = 0 → G'.length = G.length + (sellGo rule 40 sh (H pa)).1.length ∧ BkAt A Sj B (upH H pa (sellGo rule 40 sh (H pa)).2) (G ++ (sellGo rule 40 sh (H pa)).1.map (soldP pa day pr)) O z E := fun c => by
        have e : sellGo rule (n + 1) w L = ([], L) := by
          rw [sellGo]
          rcases c with c | c
          · rw [if_pos c]
          · rw [if_pos c]; split <;> rfl
        rw [e] at e1 e2
        simp only [List.map_nil, List.append_nil] at e1 e2
        have := congrArg List.length e1
        rw [List.length_append, List.length_map] at this
        rw [e1, e2] at hB
        exact ⟨this, hB⟩
      simp only [c40, hB.1.1, v1, v13, v14, hB.1.2.2.1, hB.1.2.2.2.1, ga, gi, ll, cl_n (show t ≤ 100000 by omega), vp_n ht (show 36 ≤ 100000 by omega), not_true_eq_false, false_imp_iff, true_imp_iff, Option.some.injEq, Prod.mk.injEq, exists_eq_left', exists_eq_left, true_and, and_true, and_self, true_or, or_true, forall_const, exists_const, exists_and_left, wcat, Nat.zero_le, Nat.reduceLeDiff, Int32.lt_irrefl, not_false_eq_true, Nat.zero_add, forall_eq, gI_uI, gL_uL, gR_uR, gI_uL, gI_uR, gL_uI, gL_uR, gR_uI, gR_uL, true_and, and_true, Nat.add_right_cancel_iff, Nat.add_left_cancel_iff, Nat.reduceEqDiff, Nat.left_eq_add, Nat.right_eq_add, Nat.add_eq_left, Nat.add_eq_right, Nat.reduceAdd, Nat.succ_ne_self, reduceCtorEq, false_and, and_false, if_false, if_true, ite_true, ite_false, ite_self, Nat.succ_ne_zero, Nat.add_one_ne_zero, not_false_eq_true, not_true_eq_false, Nat.one_ne_zero, Nat.zero_ne_one]
      refine ⟨fun c => ?_, fun c => ?_⟩
      · obtain ⟨hg, hb⟩ := hGl (Or.inl c)
        rw [hg, nI_subl]
        exact fin hsh L Sj _ _ _ _ _ _ _ _ hb hr
      · refine ct_nextBy (hB.2.2.2.1 pa hp) ?_
        rw [upH_at]
        trace_state
        sorry
  sorry
end
