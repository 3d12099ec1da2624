/-! Book.bookSplit, clearFor -/
def spS (a b : Int32) (l : Lot) : Lot := (a * l.1 / b, l.2)
def spK (l : Lot) : Bool := decide (¬ l.1 = 0)
/-- the lots behind a split -/
def spL (a b : Int32) (L : List Lot) : List Lot := (L.map (spS a b)).filter spK
/-- what is lost, from the last on -/
def spZ (a b : Int32) : List Lot → Int64 → Int64
  | [], z => z
  | l :: L, z => if a * l.1 / b = 0 then spZ a b L z + l.2.1 else spZ a b L z
def setLeft (p : Pie) (v : Int32) : Pie := (p.1, p.2.1, p.2.2.1, p.2.2.2.1, p.2.2.2.2.1, p.2.2.2.2.2.1, v, p.2.2.2.2.2.2.2)
def spP (a b : Int32) (p : Pie) : Pie := setLeft p (a * pLeft p / b)
def spG (a b : Int32) (pa : Nat) : List Nat → List CPie → List CPie
  | [], G => G
  | k :: O, G => spG a b pa O (if (pt G k).1 = nI pa then G.set k ((pt G k).1, spP a b (pt G k).2) else G)
theorem spL_len (a b : Int32) (L : List Lot) : (spL a b L).length ≤ L.length := by
  unfold spL
  exact Nat.le_trans (List.length_filter_le _ _) (by simp)
theorem lt_drop {L : List Lot} {n : Nat} (h : n < L.length) : L.drop n = lt L n :: L.drop (n + 1) := by
  rw [List.drop_eq_getElem_cons h]
  simp [lt, List.getElem?_eq_getElem h]
theorem take_lt {L : List Lot} {n : Nat} (h : n < L.length) : L.take (n + 1) = L.take n ++ [lt L n] := by
  rw [List.take_succ, List.getElem?_eq_getElem h]
  simp [lt, List.getElem?_eq_getElem h]
theorem lt_mid {P Q : List Lot} {x : Lot} : lt (P ++ x :: Q) P.length = x := by simp [lt]
theorem set_mid {P Q : List Lot} {x y : Lot} : (P ++ x :: Q).set P.length y = P ++ y :: Q := by simp
theorem erase_mid {P Q : List Lot} {x : Lot} : (P ++ x :: Q).eraseIdx P.length = P ++ Q := by
  rw [List.eraseIdx_append_of_length_le (Nat.le_refl _)]
  simp
theorem BkAt.left {A : qA} {S : qS} {B k : Nat} {v : Int32} {H : Nat → List Lot} {G : List CPie} {O : List Nat} {z : Int64} {E : BkE} (h : BkAt A S B H G O z E) (hk : k < G.length) : BkAt A (uI S (B + 2 + 8) k v) B H (G.set k ((pt G k).1, setLeft (pt G k).2 v)) O z E := by
  obtain ⟨hL, hR, ⟨m, ⟨g0, g1, g2, g3, g4, g5, g6, g7, g8, g9⟩, hC, g10⟩, hH, ⟨o1, o2, o3⟩, ⟨x1, x2, x3, x4, x5, x6⟩, hO⟩ := h
  have hf : Fr S (uI S (B + 2 + 8) k v) (B + 10) (B + 11) := Fr.rf.uI (by omega) (by omega)
  refine ⟨hL, hR, ⟨m, ⟨g0, g1, g2, g3, g4, g5, g6, g7, g8, g9⟩, ⟨?_, fun j hj => ?_⟩, by rw [List.length_set]; exact g10⟩, fun p hp => (hH p hp).fr hf (by omega), ⟨?_, o2, fun i hi => ?_⟩, ⟨x1, ?_, fun j hj => ?_, fun j hj => ?_, fun t ht => ?_, fun t ht => ?_⟩, fun j hj => by rw [List.length_set]; exact hO j hj⟩
  · rw [List.length_set]; simp only [gI_uI, gL_uL, gR_uR, gI_uL, gI_uR, gL_uI, gL_uR, gR_uI, gR_uL, true_and, and_true, Nat.add_right_cancel_iff, Nat.add_left_cancel_iff, Nat.reduceEqDiff, Nat.left_eq_add, Nat.right_eq_add, Nat.add_eq_left, Nat.add_eq_right, Nat.reduceAdd, Nat.succ_ne_self, reduceCtorEq, false_and, and_false, if_false, if_true, ite_true, ite_false, ite_self, Nat.succ_ne_zero, Nat.add_one_ne_zero, not_false_eq_true, not_true_eq_false, Nat.one_ne_zero, Nat.zero_ne_one]; exact hC.1
  · rw [List.length_set] at hj
    rw [pt_set hk]
    have := hC.2 j hj
    by_cases e : j = k
    · subst e; simp only [gI_uI, gL_uL, gR_uR, gI_uL, gI_uR, gL_uI, gL_uR, gR_uI, gR_uL, true_and, and_true, Nat.add_right_cancel_iff, Nat.add_left_cancel_iff, Nat.reduceEqDiff, Nat.left_eq_add, Nat.right_eq_add, Nat.add_eq_left, Nat.add_eq_right, Nat.reduceAdd, Nat.succ_ne_self, reduceCtorEq, false_and, and_false, if_false, if_true, ite_true, ite_false, ite_self, Nat.succ_ne_zero, Nat.add_one_ne_zero, not_false_eq_true, not_true_eq_false, Nat.one_ne_zero, Nat.zero_ne_one, setLeft]
      exact ⟨this.1, this.2.1, this.2.2.1, this.2.2.2.1, this.2.2.2.2.1, this.2.2.2.2.2.1, this.2.2.2.2.2.2.1, this.2.2.2.2.2.2.2.2.1, this.2.2.2.2.2.2.2.2.2⟩
    · simp only [gI_uI, gL_uL, gR_uR, gI_uL, gI_uR, gL_uI, gL_uR, gR_uI, gR_uL, true_and, and_true, Nat.add_right_cancel_iff, Nat.add_left_cancel_iff, Nat.reduceEqDiff, Nat.left_eq_add, Nat.right_eq_add, Nat.add_eq_left, Nat.add_eq_right, Nat.reduceAdd, Nat.succ_ne_self, reduceCtorEq, false_and, and_false, if_false, if_true, ite_true, ite_false, ite_self, Nat.succ_ne_zero, Nat.add_one_ne_zero, not_false_eq_true, not_true_eq_false, Nat.one_ne_zero, Nat.zero_ne_one, e]; exact this
  · have e1 : (B = B + 2 + 8) = False := by simp only [eq_iff_iff, iff_false]; omega
    simp only [gI_uI, gL_uL, gR_uR, gI_uL, gI_uR, gL_uI, gL_uR, gR_uI, gR_uL, true_and, and_true, Nat.add_right_cancel_iff, Nat.add_left_cancel_iff, Nat.reduceEqDiff, Nat.left_eq_add, Nat.right_eq_add, Nat.add_eq_left, Nat.add_eq_right, Nat.reduceAdd, Nat.succ_ne_self, reduceCtorEq, false_and, and_false, if_false, if_true, ite_true, ite_false, ite_self, Nat.succ_ne_zero, Nat.add_one_ne_zero, not_false_eq_true, not_true_eq_false, Nat.one_ne_zero, Nat.zero_ne_one, e1]; exact o1
  · have e1 : (B + 17 = B + 2 + 8) = False := by simp only [eq_iff_iff, iff_false]; omega
    simp only [gI_uI, gL_uL, gR_uR, gI_uL, gI_uR, gL_uI, gL_uR, gR_uI, gR_uL, true_and, and_true, Nat.add_right_cancel_iff, Nat.add_left_cancel_iff, Nat.reduceEqDiff, Nat.left_eq_add, Nat.right_eq_add, Nat.add_eq_left, Nat.add_eq_right, Nat.reduceAdd, Nat.succ_ne_self, reduceCtorEq, false_and, and_false, if_false, if_true, ite_true, ite_false, ite_self, Nat.succ_ne_zero, Nat.add_one_ne_zero, not_false_eq_true, not_true_eq_false, Nat.one_ne_zero, Nat.zero_ne_one, e1]; exact o3 i hi
  · have e1 : (B = B + 2 + 8) = False := by simp only [eq_iff_iff, iff_false]; omega
    simp only [gI_uI, gL_uL, gR_uR, gI_uL, gI_uR, gL_uI, gL_uR, gR_uI, gR_uL, true_and, and_true, Nat.add_right_cancel_iff, Nat.add_left_cancel_iff, Nat.reduceEqDiff, Nat.left_eq_add, Nat.right_eq_add, Nat.add_eq_left, Nat.add_eq_right, Nat.reduceAdd, Nat.succ_ne_self, reduceCtorEq, false_and, and_false, if_false, if_true, ite_true, ite_false, ite_self, Nat.succ_ne_zero, Nat.add_one_ne_zero, not_false_eq_true, not_true_eq_false, Nat.one_ne_zero, Nat.zero_ne_one, e1]; exact x2
  · have e1 : (B + 13 = B + 2 + 8) = False := by simp only [eq_iff_iff, iff_false]; omega
    simp only [gI_uI, gL_uL, gR_uR, gI_uL, gI_uR, gL_uI, gL_uR, gR_uI, gR_uL, true_and, and_true, Nat.add_right_cancel_iff, Nat.add_left_cancel_iff, Nat.reduceEqDiff, Nat.left_eq_add, Nat.right_eq_add, Nat.add_eq_left, Nat.add_eq_right, Nat.reduceAdd, Nat.succ_ne_self, reduceCtorEq, false_and, and_false, if_false, if_true, ite_true, ite_false, ite_self, Nat.succ_ne_zero, Nat.add_one_ne_zero, not_false_eq_true, not_true_eq_false, Nat.one_ne_zero, Nat.zero_ne_one, e1]; exact x3 j hj
  · have e1 : (B + 14 = B + 2 + 8) = False := by simp only [eq_iff_iff, iff_false]; omega
    simp only [gI_uI, gL_uL, gR_uR, gI_uL, gI_uR, gL_uI, gL_uR, gR_uI, gR_uL, true_and, and_true, Nat.add_right_cancel_iff, Nat.add_left_cancel_iff, Nat.reduceEqDiff, Nat.left_eq_add, Nat.right_eq_add, Nat.add_eq_left, Nat.add_eq_right, Nat.reduceAdd, Nat.succ_ne_self, reduceCtorEq, false_and, and_false, if_false, if_true, ite_true, ite_false, ite_self, Nat.succ_ne_zero, Nat.add_one_ne_zero, not_false_eq_true, not_true_eq_false, Nat.one_ne_zero, Nat.zero_ne_one, e1]; exact x4 j hj
  · have e1 : (B + 15 = B + 2 + 8) = False := by simp only [eq_iff_iff, iff_false]; omega
    simp only [gI_uI, gL_uL, gR_uR, gI_uL, gI_uR, gL_uI, gL_uR, gR_uI, gR_uL, true_and, and_true, Nat.add_right_cancel_iff, Nat.add_left_cancel_iff, Nat.reduceEqDiff, Nat.left_eq_add, Nat.right_eq_add, Nat.add_eq_left, Nat.add_eq_right, Nat.reduceAdd, Nat.succ_ne_self, reduceCtorEq, false_and, and_false, if_false, if_true, ite_true, ite_false, ite_self, Nat.succ_ne_zero, Nat.add_one_ne_zero, not_false_eq_true, not_true_eq_false, Nat.one_ne_zero, Nat.zero_ne_one, e1]; exact x5 t ht
  · have e1 : (B + 16 = B + 2 + 8) = False := by simp only [eq_iff_iff, iff_false]; omega
    simp only [gI_uI, gL_uL, gR_uR, gI_uL, gI_uR, gL_uI, gL_uR, gR_uI, gR_uL, true_and, and_true, Nat.add_right_cancel_iff, Nat.add_left_cancel_iff, Nat.reduceEqDiff, Nat.left_eq_add, Nat.right_eq_add, Nat.add_eq_left, Nat.add_eq_right, Nat.reduceAdd, Nat.succ_ne_self, reduceCtorEq, false_and, and_false, if_false, if_true, ite_true, ite_false, ite_self, Nat.succ_ne_zero, Nat.add_one_ne_zero, not_false_eq_true, not_true_eq_false, Nat.one_ne_zero, Nat.zero_ne_one, e1]; exact x6 t ht
/-- what is lost changes -/
theorem BkAt.lost {A : qA} {S : qS} {B : Nat} {v : Int64} {H : Nat → List Lot} {G : List CPie} {O : List Nat} {z : Int64} {E : BkE} (h : BkAt A S B H G O z E) : BkAt A (uL S B 8 v) B H G O v E := by
  obtain ⟨hL, hR, hG, hH, ⟨o1, o2, o3⟩, ⟨x1, x2, x3, x4, x5, x6⟩, hO⟩ := h
  have hf : Fr S (uL S B 8 v) B (B + 1) := Fr.rf.uL (by omega) (by omega)
  exact ⟨hL, hR, hG.fr hf (by omega), fun p hp => (hH p hp).fr hf (by omega), ⟨o1, o2, o3⟩, ⟨by simp only [gI_uI, gL_uL, gR_uR, gI_uL, gI_uR, gL_uI, gL_uR, gR_uI, gR_uL, true_and, and_true, Nat.add_right_cancel_iff, Nat.add_left_cancel_iff, Nat.reduceEqDiff, Nat.left_eq_add, Nat.right_eq_add, Nat.add_eq_left, Nat.add_eq_right, Nat.reduceAdd, Nat.succ_ne_self, reduceCtorEq, false_and, and_false, if_false, if_true, ite_true, ite_false, ite_self, Nat.succ_ne_zero, Nat.add_one_ne_zero, not_false_eq_true, not_true_eq_false, Nat.one_ne_zero, Nat.zero_ne_one], x2, x3, x4, x5, x6⟩, hO⟩
theorem nIm1 {n : Nat} : nI (n + 1) + -1 = nI n := by
  have := nI_pred n
  rwa [Int32.sub_eq_add_neg] at this
section
variable {d : Nat} {A : qA} {S : qS} {B : Nat} {H : Nat → List Lot} {G : List CPie} {O : List Nat} {z : Int64} {E : BkE}
set_option maxRecDepth 20000 in
set_option maxHeartbeats 4000000 in
theorem ct_bookSplit {pa : Nat} {a b : Int32} {f : qS → Prop} (h : BkAt A S B H G O z E) (hp : pa < 3) (hb : 0 < b) (hf : ∀ S', BkAt A S' B (upH H pa (spL a b (H pa))) (spG a b pa O G) (O.filter (opn (spG a b pa O G))) (spZ a b (H pa) z) E → Fr S S' B (B + 144) → f S') : Run (d + 2) 10 [.ref B, .int (nI pa), .int a, .int b] A S (kV A f) := by
  refine Run.i (C := mX0_bookSplit) rfl rfl rfl fun J hJ => ?_
  have nb : ¬ b = 0 := fun e => by rw [e] at hb; exact absurd hb (by decide)
  have c0 : (nI pa < 0) = False := by simp only [eq_iff_iff, iff_false]; exact nI_pos (by omega)
  have c3 : ((3 : Int32) ≤ nI pa) = False := by rw [show (3 : Int32) = nI 3 from rfl, nIle (by omega) (by omega)]; simp; omega
  have loop2 : ∀ (Q P : List Nat) (G' : List CPie) (Sj : qS) (w4 w6 : Option Value), O = P ++ Q → BkAt A Sj B (upH H pa (spL a b (H pa))) G' O (spZ a b (H pa) z) E → Fr S Sj B (B + 144) → spG a b pa Q G' = spG a b pa O G → J 112 [some (.ref B), some (.int (nI pa)), some (.int a), some (.int b), w4, some (.int (nI P.length)), w6] [] A Sj := by
    intro Q
    induction Q with
    | nil =>
      intro P G' Sj w4 w6 hO hB hr he
      refine sX0_bookSplit_112 hJ ?_
      have hPO : P.length = O.length := by rw [hO, List.append_nil]
      have o1 := hB.2.2.2.2.1.1
      have o2 := hB.2.2.2.2.1.2.1
      simp only [hB.1.1, o1, hPO, nIle (show O.length ≤ 100000 by omega) (show O.length ≤ 100000 by omega), Nat.le_refl, Option.some.injEq, Prod.mk.injEq, exists_eq_left', exists_eq_left, true_and, and_true, and_self, true_or, or_true, forall_const, exists_const, exists_and_left, wcat, Nat.zero_le, Nat.reduceLeDiff, Int32.lt_irrefl, not_false_eq_true, Nat.zero_add, forall_eq]
      refine ⟨ct_dropClosed hB fun S' hB' hr' => kV_i (hf _ ?_ (hr.trans hr')), fun c => absurd trivial c⟩
      rw [spG] at he
      rw [← he]
      exact hB'
    | cons k Q ih =>
      intro P G' Sj w4 w6 hO hB hr he
      refine sX0_bookSplit_112 hJ ?_
      have hPO : O.length = P.length + 1 + Q.length := by rw [hO, List.length_append, List.length_cons]; omega
      have hB0 := hB
      obtain ⟨⟨l0, l1, l13, l14, l15, l16, l17⟩, ⟨q0, q1, q2, q3, q4, q5, q6, q7⟩, hG, hH, ⟨o1, o2, o3⟩, ⟨x1, x2, x3, x4, x5, x6⟩, hOb⟩ := hB
      obtain ⟨⟨m0, m1, m2, m3, m4, m5, m6, m7, m8, m9, m10⟩, ⟨g0, g1, g2, g3, g4, g5, g6, g7, g8, g9⟩, hC, g10⟩ := hG
      have ko : ot O P.length = k := by rw [hO]; exact ot_mid
      have kk : k < G'.length := by have := hOb P.length (by omega); rw [ko] at this; exact this
      have ro : gI Sj (B + 17) P.length = nI k := by have := o3 P.length (by omega); rw [ko] at this; exact this
      obtain ⟨v0, -, -, -, -, -, -, v7, -⟩ := hC.2 k kk
      rw [spG] at he
      simp only [l0, o1, nIle (show O.length ≤ 100000 by omega) (show P.length ≤ 100000 by omega), q6, l17, cl_n (show P.length ≤ 100000 by omega), vp_n (show P.length < 40 by omega) (show 40 ≤ 100000 by omega), ro, q1, m0, g0, m1, g7, m8, cl_n (show k ≤ 100000 by omega), vp_n (show k < 666 by omega) (show 666 ≤ 100000 by omega), v0, v7, nb, nI_1, Option.some.injEq, Prod.mk.injEq, exists_eq_left', exists_eq_left, true_and, and_true, and_self, true_or, or_true, forall_const, exists_const, exists_and_left, wcat, Nat.zero_le, Nat.reduceLeDiff, Int32.lt_irrefl, not_false_eq_true, Nat.zero_add, forall_eq, true_and, and_true, Nat.add_right_cancel_iff, Nat.add_left_cancel_iff, Nat.reduceEqDiff, Nat.left_eq_add, Nat.right_eq_add, Nat.add_eq_left, Nat.add_eq_right, Nat.reduceAdd, Nat.succ_ne_self, reduceCtorEq, false_and, and_false, if_false, if_true, ite_true, ite_false, ite_self, Nat.succ_ne_zero, Nat.add_one_ne_zero, not_false_eq_true, not_true_eq_false, Nat.one_ne_zero, Nat.zero_ne_one]
      refine ⟨fun c => absurd c (by omega), fun _ => ⟨fun c => ?_, fun c => ?_⟩⟩
      · rw [if_neg c] at he
        have := ih (P ++ [k]) G' Sj (unl w4) (some (.int (nI k))) (by rw [hO, List.append_assoc]; rfl) hB0 hr he
        rwa [List.length_append, List.length_singleton] at this
      · rw [if_pos c] at he
        have := ih (P ++ [k]) _ _ (unl w4) (some (.int (nI k))) (by rw [hO, List.append_assoc]; rfl) (hB0.left kk) (hr.uI (by omega) (by omega)) he
        rwa [List.length_append, List.length_singleton] at this
  have loop1 : ∀ n (R : List Lot) (z' : Int64) (Sj : qS) (w6 : Option Value), n ≤ (H pa).length → R = spL a b ((H pa).drop n) → z' = spZ a b ((H pa).drop n) z → BkAt A Sj B (upH H pa ((H pa).take n ++ R)) G O z' E → Fr S Sj B (B + 144) → J 31 [some (.ref B), some (.int (nI pa)), some (.int a), some (.int b), some (.ref (B + 18 + 42 * pa)), some (.int (nI n - 1)), w6] [] A Sj := by
    intro n
    induction n with
    | zero =>
      intro R z' Sj w6 hn hR hz hB hr
      refine sX0_bookSplit_31 hJ ⟨fun _ => ?_, fun c => absurd (by decide) c⟩
      rw [List.drop_zero] at hR hz
      rw [List.take_zero, List.nil_append, hR, hz] at hB
      exact loop2 O [] G Sj _ _ rfl hB hr rfl
    | succ n ih =>
      intro R z' Sj w6 hn hR hz hB hr
      have tl : ((H pa).take n).length = n := by rw [List.length_take]; omega
      have e1 : (H pa).take (n + 1) ++ R = (H pa).take n ++ lt (H pa) n :: R := by rw [take_lt hn, List.append_assoc]; rfl
      rw [e1] at hB
      rw [show nI (n + 1) - 1 = nI n from nI_pred n]
      refine sX0_bookSplit_31 hJ ?_
      have hLo := hB.2.2.2.1 pa hp
      rw [upH_at] at hLo
      obtain ⟨⟨n0, n1, n2⟩, π, hLC⟩ := hLo
      have hLC' := hLC
      obtain ⟨w1, w2, w3, ⟨w4, w5⟩, w6'⟩ := hLC
      have tl' : n < ((H pa).take n ++ lt (H pa) n :: R).length := by rw [List.length_append, tl, List.length_cons]; omega
      obtain ⟨wl, wr⟩ := w4 n (by omega)
      obtain ⟨z0, z1, z2, z3, z4, z5⟩ := w6' n tl'
      have em : lt ((H pa).take n ++ lt (H pa) n :: R) n = lt (H pa) n := by have := lt_mid (P := (H pa).take n) (Q := R) (x := lt (H pa) n); rwa [tl] at this
      rw [em] at z0 z1 z2 z3 z4 z5
      have eB : (B + 18 + 42 * pa = B + 18 + 42 * pa + 2 + π n) = False := by simp only [eq_iff_iff, iff_false]; omega
      have np : (nI n < 0) = False := by simp only [eq_iff_iff, iff_false]; exact nI_pos (by omega)
      have zB := hB.2.2.2.2.2.1.1
      simp only [np, n0, n1, w1, wr, n2 _ wl, cl_n (show n ≤ 100000 by omega), vp_n (show n < 40 by omega) (show 40 ≤ 100000 by omega), z0, z1, nb, eB, hB.1.1, zB, not_false_eq_true, false_imp_iff, true_imp_iff, Option.some.injEq, Prod.mk.injEq, exists_eq_left', exists_eq_left, true_and, and_true, and_self, true_or, or_true, forall_const, exists_const, exists_and_left, wcat, Nat.zero_le, Nat.reduceLeDiff, Int32.lt_irrefl, not_false_eq_true, Nat.zero_add, forall_eq, gI_uI, gL_uL, gR_uR, gI_uL, gI_uR, gL_uI, gL_uR, gR_uI, gR_uL, true_and, and_true, Nat.add_right_cancel_iff, Nat.add_left_cancel_iff, Nat.reduceEqDiff, Nat.left_eq_add, Nat.right_eq_add, Nat.add_eq_left, Nat.add_eq_right, Nat.reduceAdd, Nat.succ_ne_self, reduceCtorEq, false_and, and_false, if_false, if_true, ite_true, ite_false, ite_self, Nat.succ_ne_zero, Nat.add_one_ne_zero, not_false_eq_true, not_true_eq_false, Nat.one_ne_zero, Nat.zero_ne_one]
      have hr1 : Fr Sj (uI Sj (B + 18 + 42 * pa + 2 + π n) 0 (a * (lt (H pa) n).1 / b)) (B + 18 + 42 * pa) (B + 18 + 42 * pa + 42) := Fr.rf.uI (by omega) (by omega)
      have hL1 : LoAt A (uI Sj (B + 18 + 42 * pa + 2 + π n) 0 (a * (lt (H pa) n).1 / b)) (B + 18 + 42 * pa) ((H pa).take n ++ spS a b (lt (H pa) n) :: R) := by
        refine ⟨⟨n0, n1, n2⟩, π, ?_⟩
        have := LoC.set (S' := uI Sj (B + 18 + 42 * pa + 2 + π n) 0 (a * (lt (H pa) n).1 / b)) (x := spS a b (lt (H pa) n)) hLC' tl' (fun q q1 q2 q3 k => ⟨by simp only [gI_uI, gL_uL, gR_uR, gI_uL, gI_uR, gL_uI, gL_uR, gR_uI, gR_uL, q3, false_and, if_false], by simp only [gI_uI, gL_uL, gR_uR, gI_uL, gI_uR, gL_uI, gL_uR, gR_uI, gR_uL], by simp only [gI_uI, gL_uL, gR_uR, gI_uL, gI_uR, gL_uI, gL_uR, gR_uI, gR_uL]⟩) ⟨by simp only [gI_uI, gL_uL, gR_uR, gI_uL, gI_uR, gL_uI, gL_uR, gR_uI, gR_uL, true_and, and_true, Nat.add_right_cancel_iff, Nat.add_left_cancel_iff, Nat.reduceEqDiff, Nat.left_eq_add, Nat.right_eq_add, Nat.add_eq_left, Nat.add_eq_right, Nat.reduceAdd, Nat.succ_ne_self, reduceCtorEq, false_and, and_false, if_false, if_true, ite_true, ite_false, ite_self, Nat.succ_ne_zero, Nat.add_one_ne_zero, not_false_eq_true, not_true_eq_false, Nat.one_ne_zero, Nat.zero_ne_one, spS], z1, by simp only [gI_uI, gL_uL, gR_uR, gI_uL, gI_uR, gL_uI, gL_uR, gR_uI, gR_uL, true_and, and_true, Nat.add_right_cancel_iff, Nat.add_left_cancel_iff, Nat.reduceEqDiff, Nat.left_eq_add, Nat.right_eq_add, Nat.add_eq_left, Nat.add_eq_right, Nat.reduceAdd, Nat.succ_ne_self, reduceCtorEq, false_and, and_false, if_false, if_true, ite_true, ite_false, ite_self, Nat.succ_ne_zero, Nat.add_one_ne_zero, not_false_eq_true, not_true_eq_false, Nat.one_ne_zero, Nat.zero_ne_one]; exact z2, by simp only [gI_uI, gL_uL, gR_uR, gI_uL, gI_uR, gL_uI, gL_uR, gR_uI, gR_uL, true_and, and_true, Nat.add_right_cancel_iff, Nat.add_left_cancel_iff, Nat.reduceEqDiff, Nat.left_eq_add, Nat.right_eq_add, Nat.add_eq_left, Nat.add_eq_right, Nat.reduceAdd, Nat.succ_ne_self, reduceCtorEq, false_and, and_false, if_false, if_true, ite_true, ite_false, ite_self, Nat.succ_ne_zero, Nat.add_one_ne_zero, not_false_eq_true, not_true_eq_false, Nat.one_ne_zero, Nat.zero_ne_one]; exact z3, by simp only [gI_uI, gL_uL, gR_uR, gI_uL, gI_uR, gL_uI, gL_uR, gR_uI, gR_uL, true_and, and_true, Nat.add_right_cancel_iff, Nat.add_left_cancel_iff, Nat.reduceEqDiff, Nat.left_eq_add, Nat.right_eq_add, Nat.add_eq_left, Nat.add_eq_right, Nat.reduceAdd, Nat.succ_ne_self, reduceCtorEq, false_and, and_false, if_false, if_true, ite_true, ite_false, ite_self, Nat.succ_ne_zero, Nat.add_one_ne_zero, not_false_eq_true, not_true_eq_false, Nat.one_ne_zero, Nat.zero_ne_one]; exact z4, by simp only [gI_uI, gL_uL, gR_uR, gI_uL, gI_uR, gL_uI, gL_uR, gR_uI, gR_uL, true_and, and_true, Nat.add_right_cancel_iff, Nat.add_left_cancel_iff, Nat.reduceEqDiff, Nat.left_eq_add, Nat.right_eq_add, Nat.add_eq_left, Nat.add_eq_right, Nat.reduceAdd, Nat.succ_ne_self, reduceCtorEq, false_and, and_false, if_false, if_true, ite_true, ite_false, ite_self, Nat.succ_ne_zero, Nat.add_one_ne_zero, not_false_eq_true, not_true_eq_false, Nat.one_ne_zero, Nat.zero_ne_one]; exact z5⟩
        have e := set_mid (P := (H pa).take n) (Q := R) (x := lt (H pa) n) (y := spS a b (lt (H pa) n))
        rw [tl] at e
        rwa [e] at this
      have hB1 := hB.up hp hr1 hL1
      rw [upH_up] at hB1
      refine ⟨fun c => ?_, fun c => ?_⟩
      · rw [show nI n + -1 = nI n - 1 from by rw [Int32.sub_eq_add_neg]]
        refine ih (spL a b ((H pa).drop n)) z' _ _ (by omega) rfl ?_ ?_ (hr.trans (hr1.wide (by omega) (by omega)))
        · rw [hz, lt_drop hn, spZ, if_neg c]
        · have : spL a b ((H pa).drop n) = spS a b (lt (H pa) n) :: R := by
            rw [lt_drop hn, hR]
            unfold spL
            rw [List.map_cons, List.filter_cons_of_pos (show spK (spS a b (lt (H pa) n)) = true from decide_eq_true c)]
          rw [this]
          exact hB1
      · refine ct_lotsRemove (hB1.lost.2.2.2.1 pa hp) (by rw [upH_at, List.length_append, tl, List.length_cons]; omega) fun S3 hL3 hr3 => ?_
        have hB3 := hB1.lost.up hp hr3 hL3
        rw [upH_at, upH_up] at hB3
        have e := erase_mid (P := (H pa).take n) (Q := R) (x := spS a b (lt (H pa) n))
        rw [tl] at e
        rw [e] at hB3
        rw [show nI n + -1 = nI n - 1 from by rw [Int32.sub_eq_add_neg]]
        refine ih R _ _ _ (by omega) ?_ ?_ hB3 (((hr.trans (hr1.wide (by omega) (by omega))).uL (by omega) (by omega)).trans (hr3.wide (by omega) (by omega)))
        · rw [lt_drop hn, hR]
          unfold spL
          rw [List.map_cons, List.filter_cons_of_neg (show ¬ spK (spS a b (lt (H pa) n)) = true from fun w => absurd c (of_decide_eq_true w))]
        · rw [hz, lt_drop hn, spZ, if_pos c]
  have h0 := h
  obtain ⟨⟨l0, l1, -⟩, ⟨q0, q1, q2, q3, q4, q5, q6, q7⟩, hG, hH, -⟩ := h
  refine sX0_bookSplit_0 hJ ?_
  obtain ⟨⟨n0, n1, n2⟩, π, w1, w2, -⟩ := hH pa hp
  simp only [c0, c3, hb, l0, q0, l1, q7 pa hp, cl_n (show pa ≤ 100000 by omega), vp_n hp (show 3 ≤ 100000 by omega), n0, w2, not_true_eq_false, not_false_eq_true, false_imp_iff, true_imp_iff, Option.some.injEq, Prod.mk.injEq, exists_eq_left', exists_eq_left, true_and, and_true, and_self, true_or, or_true, forall_const, exists_const, exists_and_left, wcat, Nat.zero_le, Nat.reduceLeDiff, Int32.lt_irrefl, not_false_eq_true, Nat.zero_add, forall_eq, true_and, and_true, Nat.add_right_cancel_iff, Nat.add_left_cancel_iff, Nat.reduceEqDiff, Nat.left_eq_add, Nat.right_eq_add, Nat.add_eq_left, Nat.add_eq_right, Nat.reduceAdd, Nat.succ_ne_self, reduceCtorEq, false_and, and_false, if_false, if_true, ite_true, ite_false, ite_self, Nat.succ_ne_zero, Nat.add_one_ne_zero, not_false_eq_true, not_true_eq_false, Nat.one_ne_zero, Nat.zero_ne_one]
  exact loop1 (H pa).length [] z S _ (Nat.le_refl _) (by rw [List.drop_length]; rfl) (by rw [List.drop_length]; rfl) (by rw [List.take_length, List.append_nil, upH_s]; exact h0) Fr.rf
end
