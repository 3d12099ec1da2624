/-! Book.clearFor, putInOrder, gainOf, deferredOf, allGains, allDeferred -/
/-- the place of trade t among the first n of Q, looked for from behind -/
def inp (D : Nat → Int32) (Q : List Nat) (t : Nat) : Nat → Nat
  | 0 => 0
  | n + 1 => if D (ot Q n) ≤ D t then n + 1 else inp D Q t n
theorem inp_le (D : Nat → Int32) (Q : List Nat) (t : Nat) : ∀ n, inp D Q t n ≤ n
  | 0 => Nat.le_refl 0
  | n + 1 => by have := inp_le D Q t n; unfold inp; split <;> omega
def ordL (D : Nat → Int32) : Nat → List Nat
  | 0 => []
  | t + 1 => (ordL D t).take (inp D (ordL D t) t t) ++ t :: (ordL D t).drop (inp D (ordL D t) t t)
theorem ordL_len (D : Nat → Int32) : ∀ n, (ordL D n).length = n
  | 0 => rfl
  | n + 1 => by
    have := ordL_len D n
    have h := inp_le D (ordL D n) n n
    unfold ordL
    rw [List.length_append, List.length_take, List.length_cons, List.length_drop]
    omega
theorem ordL_lt (D : Nat → Int32) : ∀ n x, x ∈ ordL D n → x < n
  | 0, x, h => by simp [ordL] at h
  | n + 1, x, h => by
    unfold ordL at h
    rcases List.mem_append.mp h with h | h
    · have := ordL_lt D n x (List.mem_of_mem_take h); omega
    · rcases List.mem_cons.mp h with h | h
      · omega
      · have := ordL_lt D n x (List.mem_of_mem_drop h); omega
theorem ot_mem {Q : List Nat} {i : Nat} (h : i < Q.length) : ot Q i ∈ Q := by
  rw [ot, List.getD_eq_getElem?_getD, List.getElem?_eq_getElem h, Option.getD_some]
  exact List.getElem_mem h
theorem ordL_ot {D : Nat → Int32} {n i : Nat} (h : i < n) : ot (ordL D n) i < n := ordL_lt D n _ (ot_mem (by rw [ordL_len]; exact h))
theorem ot_ins {Q : List Nat} {p t k : Nat} (h : p ≤ Q.length) : ot (Q.take p ++ t :: Q.drop p) k = if k < p then ot Q k else if k = p then t else ot Q (k - 1) := by
  have tl : (Q.take p).length = p := by rw [List.length_take]; omega
  unfold ot
  rw [List.getD_eq_getElem?_getD, List.getD_eq_getElem?_getD, List.getD_eq_getElem?_getD]
  by_cases h1 : k < p
  · rw [if_pos h1, List.getElem?_append_left (by omega), List.getElem?_take_of_lt h1]
  · rw [if_neg h1, List.getElem?_append_right (by omega), tl]
    by_cases h2 : k = p
    · subst h2; simp
    · rw [if_neg h2]
      obtain ⟨j, hj⟩ : ∃ j, k - p = j + 1 := ⟨k - p - 1, by omega⟩
      rw [hj]
      simp only [List.getElem?_cons_succ, List.getElem?_drop]
      rw [show p + j = k - 1 by omega]
/-- the ordL of distinct trades: no one twice -/
theorem ordL_inj (D : Nat → Int32) : ∀ n i j, i < n → j < n → ot (ordL D n) i = ot (ordL D n) j → i = j
  | 0, i, _, hi, _, _ => by omega
  | n + 1, i, j, hi, hj, e => by
    have hl := ordL_len D n
    have ih := ordL_inj D n
    have b : ∀ k, k < n → ot (ordL D n) k < n := fun k hk => ordL_ot hk
    have E : ∀ k, ot (ordL D (n + 1)) k = if k < inp D (ordL D n) n n then ot (ordL D n) k else if k = inp D (ordL D n) n n then n else ot (ordL D n) (k - 1) := fun k => by
      rw [ordL]
      exact ot_ins (by rw [hl]; exact inp_le _ _ _ _)
    rw [E i, E j] at e
    have hp' := inp_le D (ordL D n) n n
    generalize inp D (ordL D n) n n = q at *
    by_cases i1 : i < q
    · rw [if_pos i1] at e
      by_cases j1 : j < q
      · rw [if_pos j1] at e; exact ih i j (by omega) (by omega) e
      · rw [if_neg j1] at e
        by_cases j2 : j = q
        · rw [if_pos j2] at e; have := b i (by omega); omega
        · rw [if_neg j2] at e; have := ih i (j - 1) (by omega) (by omega) e; omega
    · rw [if_neg i1] at e
      by_cases i2 : i = q
      · rw [if_pos i2] at e
        by_cases j1 : j < q
        · rw [if_pos j1] at e; have := b j (by omega); omega
        · rw [if_neg j1] at e
          by_cases j2 : j = q
          · omega
          · rw [if_neg j2] at e; have := b (j - 1) (by omega); omega
      · rw [if_neg i2] at e
        by_cases j1 : j < q
        · rw [if_pos j1] at e; have := ih (i - 1) j (by omega) (by omega) e; omega
        · rw [if_neg j1] at e
          by_cases j2 : j = q
          · rw [if_pos j2] at e; have := b (i - 1) (by omega); omega
          · rw [if_neg j2] at e; have := ih (i - 1) (j - 1) (by omega) (by omega) e; omega
/-- the Book with other numbers of order and place -/
theorem BkAt.ord {A : qA} {S S' : qS} {B : Nat} {H : Nat → List Lot} {G : List CPie} {O : List Nat} {z : Int64} {E : BkE} (h : BkAt A S B H G O z E) (hf : Fr S S' (B + 15) (B + 17)) : BkAt A S' B H G O z (E.1, E.2.1, E.2.2.1, fun i => gI S' (B + 15) i, fun i => gI S' (B + 16) i) := by
  obtain ⟨hL, hR, hG, hH, ⟨o1, o2, o3⟩, ⟨x1, x2, x3, x4, x5, x6⟩, hO⟩ := h
  have e : ∀ c, c < 15 ∨ 17 ≤ c → ∀ k, gI S' (B + c) k = gI S (B + c) k := fun c hc k => (hf _ (by omega) k).1
  exact ⟨hL, hR.fr (fun k => (hf _ (by omega) k).2.2) (fun k => (hf _ (by omega) k).2.2), hG.fr hf (by omega), fun p hp => (hH p hp).fr hf (by omega), ⟨(e 0 (by omega) 7).trans o1, o2, fun i hi => (e 17 (by omega) i).trans (o3 i hi)⟩, ⟨(hf B (by omega) 8).2.1.trans x1, (e 0 (by omega) 9).trans x2, fun t ht => (e 13 (by omega) t).trans (x3 t ht), fun t ht => (e 14 (by omega) t).trans (x4 t ht), fun t ht => rfl, fun t ht => rfl⟩, hO⟩
def dayF (T : List Row) (i : Nat) : Int32 := (tr T i).2.2.1
section
variable {d : Nat} {A : qA} {S : qS} {B : Nat} {H : Nat → List Lot} {G : List CPie} {O : List Nat} {z : Int64} {E : BkE}
set_option maxRecDepth 20000 in
set_option maxHeartbeats 4000000 in
theorem ct_clearFor {w : Int32} {f : qS → Prop} (h : BkAt A S B H G O z E) (hf : ∀ S', BkAt A S' B (fun _ => []) [] [] 0 (w, fun _ => 0, fun _ => 0, E.2.2.2) → Fr S S' B (B + 144) → f S') : Run (d + 1) 2 [.ref B, .int w] A S (kV A f) := by
  refine Run.i (C := mX0_clearFor) rfl rfl rfl fun J hJ => ?_
  obtain ⟨⟨l0, l1, l13, l14, l15, l16, l17⟩, ⟨q0, q1, q2, q3, q4, q5, q6, q7⟩, hG, hH, ⟨o1, o2, o3⟩, ⟨x1, x2, x3, x4, x5, x6⟩, hO⟩ := h
  obtain ⟨m, ⟨g0, g1, g2, g3, g4, g5, g6, g7, g8, g9⟩, hC, g10⟩ := hG
  have loop2 : ∀ n i (Sj : qS) (w1 : Option Value), i + n = 36 → Fr S Sj B (B + 144) → (∀ b k, gR Sj b k = gR S b k) → (∀ p, p < 3 → gI Sj (B + 18 + 42 * p) 1 = 0) → gI Sj B 9 = w → (∀ t, t < i → gI Sj (B + 13) t = 0 ∧ gI Sj (B + 14) t = 0) → (∀ t, gI Sj (B + 15) t = gI S (B + 15) t ∧ gI Sj (B + 16) t = gI S (B + 16) t) → J 30 [some (.ref B), w1, some (.int (nI i))] [] A Sj := by
    intro n
    induction n with
    | zero =>
      intro i Sj w1 hi hr eR eC e9 eF eO
      refine sX0_clearFor_30 hJ ?_
      have c36 : ((36 : Int32) ≤ nI i) = True := by rw [show (36 : Int32) = nI 36 from rfl, nIle (by omega) (by omega)]; simp; omega
      simp only [c36, l0, eR, q1, m.1, not_true_eq_false, false_imp_iff, true_imp_iff, Option.some.injEq, Prod.mk.injEq, exists_eq_left', exists_eq_left, true_and, and_true, and_self, true_or, or_true, forall_const, exists_const, exists_and_left, wcat, Nat.zero_le, Nat.reduceLeDiff, Int32.lt_irrefl, not_false_eq_true, Nat.zero_add, forall_eq, gI_uI, gL_uL, gR_uR, gI_uL, gI_uR, gL_uI, gL_uR, gR_uI, gR_uL, true_and, and_true, Nat.add_right_cancel_iff, Nat.add_left_cancel_iff, Nat.reduceEqDiff, Nat.left_eq_add, Nat.right_eq_add, Nat.add_eq_left, Nat.add_eq_right, Nat.reduceAdd, Nat.succ_ne_self, reduceCtorEq, false_and, and_false, if_false, if_true, ite_true, ite_false, ite_self, Nat.succ_ne_zero, Nat.add_one_ne_zero, not_false_eq_true, not_true_eq_false, Nat.one_ne_zero, Nat.zero_ne_one]
      refine kV_i (hf _ ⟨⟨l0, l1, l13, l14, l15, l16, l17⟩, ⟨?_, ?_, ?_, ?_, ?_, ?_, ?_, fun p hp => ?_⟩, ⟨m, ⟨?_, ?_, ?_, ?_, ?_, ?_, ?_, ?_, ?_, ?_⟩, ⟨?_, fun i hi => absurd hi (Nat.not_lt_zero _)⟩, Nat.zero_le _⟩, fun p hp => ⟨(hH p hp).1, ?_⟩, ⟨?_, Nat.zero_le _, fun i hi => absurd hi (Nat.not_lt_zero _)⟩, ⟨?_, ?_, fun t ht => ?_, fun t ht => ?_, fun t ht => ?_, fun t ht => ?_⟩, fun i hi => absurd hi (Nat.not_lt_zero _)⟩ (((hr.uI (by omega) (by omega)).uI (by omega) (by omega)).uL (by omega) (by omega)))
      all_goals simp only [gI_uI, gL_uL, gR_uR, gI_uL, gI_uR, gL_uI, gL_uR, gR_uI, gR_uL, true_and, and_true, Nat.add_right_cancel_iff, Nat.add_left_cancel_iff, Nat.reduceEqDiff, Nat.left_eq_add, Nat.right_eq_add, Nat.add_eq_left, Nat.add_eq_right, Nat.reduceAdd, Nat.succ_ne_self, reduceCtorEq, false_and, and_false, if_false, if_true, ite_true, ite_false, ite_self, Nat.succ_ne_zero, Nat.add_one_ne_zero, not_false_eq_true, not_true_eq_false, Nat.one_ne_zero, Nat.zero_ne_one, eR]
      · exact q0
      · exact q1
      · exact q2
      · exact q3
      · exact q4
      · exact q5
      · exact q6
      · exact q7 p hp
      · exact g0
      · exact g1
      · exact g2
      · exact g3
      · exact g4
      · exact g5
      · exact g6
      · exact g7
      · exact g8
      · exact g9
      · rfl
      · obtain ⟨hl, π, y1, y2, y3, ⟨y4, y5⟩, y6⟩ := hH p hp
        have e1 : (B + 18 + 42 * p = B) = False := by simp only [eq_iff_iff, iff_false]; omega
        have e2 : (B + 18 + 42 * p = B + 2) = False := by simp only [eq_iff_iff, iff_false]; omega
        refine ⟨π, ?_, ?_, Nat.zero_le _, ⟨fun i hi => ?_, y5⟩, fun i hi => absurd hi (Nat.not_lt_zero _)⟩
        · simp only [gI_uI, gL_uL, gR_uR, gI_uL, gI_uR, gL_uI, gL_uR, gR_uI, gR_uL, eR]; exact y1
        · simp only [gI_uI, gL_uL, gR_uR, gI_uL, gI_uR, gL_uI, gL_uR, gR_uI, gR_uL, true_and, and_true, Nat.add_right_cancel_iff, Nat.add_left_cancel_iff, Nat.reduceEqDiff, Nat.left_eq_add, Nat.right_eq_add, Nat.add_eq_left, Nat.add_eq_right, Nat.reduceAdd, Nat.succ_ne_self, reduceCtorEq, false_and, and_false, if_false, if_true, ite_true, ite_false, ite_self, Nat.succ_ne_zero, Nat.add_one_ne_zero, not_false_eq_true, not_true_eq_false, Nat.one_ne_zero, Nat.zero_ne_one, e1, e2]; exact eC p hp
        · simp only [gI_uI, gL_uL, gR_uR, gI_uL, gI_uR, gL_uI, gL_uR, gR_uI, gR_uL, eR]; exact y4 i hi
      · rfl
      · exact e9
      · exact (eF t (by omega)).1
      · exact (eF t (by omega)).2
      · exact (eO t).1.trans (x5 t ht)
      · exact (eO t).2.trans (x6 t ht)
    | succ n ih =>
      intro i Sj w1 hi hr eR eC e9 eF eO
      refine sX0_clearFor_30 hJ ?_
      have c36 : ((36 : Int32) ≤ nI i) = False := by rw [show (36 : Int32) = nI 36 from rfl, nIle (by omega) (by omega)]; simp; omega
      simp only [c36, l0, eR, q2, q3, l13, l14, cl_n (show i ≤ 100000 by omega), vp_n (show i < 36 by omega) (show 36 ≤ 100000 by omega), nI_1, not_false_eq_true, false_imp_iff, true_imp_iff, Option.some.injEq, Prod.mk.injEq, exists_eq_left', exists_eq_left, true_and, and_true, and_self, true_or, or_true, forall_const, exists_const, exists_and_left, wcat, Nat.zero_le, Nat.reduceLeDiff, Int32.lt_irrefl, not_false_eq_true, Nat.zero_add, forall_eq, gI_uI, gL_uL, gR_uR, gI_uL, gI_uR, gL_uI, gL_uR, gR_uI, gR_uL, true_and, and_true, Nat.add_right_cancel_iff, Nat.add_left_cancel_iff, Nat.reduceEqDiff, Nat.left_eq_add, Nat.right_eq_add, Nat.add_eq_left, Nat.add_eq_right, Nat.reduceAdd, Nat.succ_ne_self, reduceCtorEq, false_and, and_false, if_false, if_true, ite_true, ite_false, ite_self, Nat.succ_ne_zero, Nat.add_one_ne_zero, not_false_eq_true, not_true_eq_false, Nat.one_ne_zero, Nat.zero_ne_one]
      refine ih (i + 1) _ _ (by omega) ((hr.uI (by omega) (by omega)).uI (by omega) (by omega)) (fun b k => eR b k) (fun p hp => ?_) ?_ (fun t ht => ?_) (fun t => ?_)
      · have e1 : (B + 18 + 42 * p = B + 13) = False := by simp only [eq_iff_iff, iff_false]; omega
        have e2 : (B + 18 + 42 * p = B + 14) = False := by simp only [eq_iff_iff, iff_false]; omega
        simp only [gI_uI, gL_uL, gR_uR, gI_uL, gI_uR, gL_uI, gL_uR, gR_uI, gR_uL, true_and, and_true, Nat.add_right_cancel_iff, Nat.add_left_cancel_iff, Nat.reduceEqDiff, Nat.left_eq_add, Nat.right_eq_add, Nat.add_eq_left, Nat.add_eq_right, Nat.reduceAdd, Nat.succ_ne_self, reduceCtorEq, false_and, and_false, if_false, if_true, ite_true, ite_false, ite_self, Nat.succ_ne_zero, Nat.add_one_ne_zero, not_false_eq_true, not_true_eq_false, Nat.one_ne_zero, Nat.zero_ne_one, e1, e2]; exact eC p hp
      · simp only [gI_uI, gL_uL, gR_uR, gI_uL, gI_uR, gL_uI, gL_uR, gR_uI, gR_uL, true_and, and_true, Nat.add_right_cancel_iff, Nat.add_left_cancel_iff, Nat.reduceEqDiff, Nat.left_eq_add, Nat.right_eq_add, Nat.add_eq_left, Nat.add_eq_right, Nat.reduceAdd, Nat.succ_ne_self, reduceCtorEq, false_and, and_false, if_false, if_true, ite_true, ite_false, ite_self, Nat.succ_ne_zero, Nat.add_one_ne_zero, not_false_eq_true, not_true_eq_false, Nat.one_ne_zero, Nat.zero_ne_one]; exact e9
      · simp only [gI_uI, gL_uL, gR_uR, gI_uL, gI_uR, gL_uI, gL_uR, gR_uI, gR_uL, true_and, and_true, Nat.add_right_cancel_iff, Nat.add_left_cancel_iff, Nat.reduceEqDiff, Nat.left_eq_add, Nat.right_eq_add, Nat.add_eq_left, Nat.add_eq_right, Nat.reduceAdd, Nat.succ_ne_self, reduceCtorEq, false_and, and_false, if_false, if_true, ite_true, ite_false, ite_self, Nat.succ_ne_zero, Nat.add_one_ne_zero, not_false_eq_true, not_true_eq_false, Nat.one_ne_zero, Nat.zero_ne_one]
        by_cases e : t = i
        · simp only [e, if_true, and_self]
        · simp only [e, if_false]; exact eF t (by omega)
      · simp only [gI_uI, gL_uL, gR_uR, gI_uL, gI_uR, gL_uI, gL_uR, gR_uI, gR_uL, true_and, and_true, Nat.add_right_cancel_iff, Nat.add_left_cancel_iff, Nat.reduceEqDiff, Nat.left_eq_add, Nat.right_eq_add, Nat.add_eq_left, Nat.add_eq_right, Nat.reduceAdd, Nat.succ_ne_self, reduceCtorEq, false_and, and_false, if_false, if_true, ite_true, ite_false, ite_self, Nat.succ_ne_zero, Nat.add_one_ne_zero, not_false_eq_true, not_true_eq_false, Nat.one_ne_zero, Nat.zero_ne_one]; exact eO t
  have loop1 : ∀ n p (Sj : qS) (w1 : Option Value), p + n = 3 → Fr S Sj B (B + 144) → (∀ b k, gR Sj b k = gR S b k) → (∀ p', p' < p → gI Sj (B + 18 + 42 * p') 1 = 0) → gI Sj B 9 = w → (∀ t, gI Sj (B + 15) t = gI S (B + 15) t ∧ gI Sj (B + 16) t = gI S (B + 16) t) → J 7 [some (.ref B), w1, some (.int (nI p))] [] A Sj := by
    intro n
    induction n with
    | zero =>
      intro p Sj w1 hp hr eR eC e9 eO
      refine sX0_clearFor_7 hJ ?_
      have c36 : ((3 : Int32) ≤ nI p) = True := by rw [show (3 : Int32) = nI 3 from rfl, nIle (by omega) (by omega)]; simp; omega
      simp only [c36, not_true_eq_false, false_imp_iff, true_imp_iff, and_true]
      exact loop2 36 0 Sj _ (by omega) hr eR (fun p' h' => eC p' (by omega)) e9 (fun t ht => absurd ht (Nat.not_lt_zero _)) eO
    | succ n ih =>
      intro p Sj w1 hp hr eR eC e9 eO
      refine sX0_clearFor_7 hJ ?_
      have c36 : ((3 : Int32) ≤ nI p) = False := by rw [show (3 : Int32) = nI 3 from rfl, nIle (by omega) (by omega)]; simp; omega
      simp only [c36, l0, eR, q0, l1, q7 p (by omega), (hH p (by omega)).1.1, cl_n (show p ≤ 100000 by omega), vp_n (show p < 3 by omega) (show 3 ≤ 100000 by omega), nI_1, not_false_eq_true, false_imp_iff, true_imp_iff, Option.some.injEq, Prod.mk.injEq, exists_eq_left', exists_eq_left, true_and, and_true, and_self, true_or, or_true, forall_const, exists_const, exists_and_left, wcat, Nat.zero_le, Nat.reduceLeDiff, Int32.lt_irrefl, not_false_eq_true, Nat.zero_add, forall_eq, gI_uI, gL_uL, gR_uR, gI_uL, gI_uR, gL_uI, gL_uR, gR_uI, gR_uL, true_and, and_true, Nat.add_right_cancel_iff, Nat.add_left_cancel_iff, Nat.reduceEqDiff, Nat.left_eq_add, Nat.right_eq_add, Nat.add_eq_left, Nat.add_eq_right, Nat.reduceAdd, Nat.succ_ne_self, reduceCtorEq, false_and, and_false, if_false, if_true, ite_true, ite_false, ite_self, Nat.succ_ne_zero, Nat.add_one_ne_zero, not_false_eq_true, not_true_eq_false, Nat.one_ne_zero, Nat.zero_ne_one]
      refine ih (p + 1) _ _ (by omega) (hr.uI (by omega) (by omega)) (fun b k => eR b k) (fun p' h' => ?_) ?_ (fun t => ?_)
      · by_cases e : p' = p
        · subst e; simp only [gI_uI, gL_uL, gR_uR, gI_uL, gI_uR, gL_uI, gL_uR, gR_uI, gR_uL, true_and, and_true, Nat.add_right_cancel_iff, Nat.add_left_cancel_iff, Nat.reduceEqDiff, Nat.left_eq_add, Nat.right_eq_add, Nat.add_eq_left, Nat.add_eq_right, Nat.reduceAdd, Nat.succ_ne_self, reduceCtorEq, false_and, and_false, if_false, if_true, ite_true, ite_false, ite_self, Nat.succ_ne_zero, Nat.add_one_ne_zero, not_false_eq_true, not_true_eq_false, Nat.one_ne_zero, Nat.zero_ne_one]
        · have e1 : (B + 18 + 42 * p' = B + 18 + 42 * p) = False := by simp only [eq_iff_iff, iff_false]; omega
          simp only [gI_uI, gL_uL, gR_uR, gI_uL, gI_uR, gL_uI, gL_uR, gR_uI, gR_uL, true_and, and_true, Nat.add_right_cancel_iff, Nat.add_left_cancel_iff, Nat.reduceEqDiff, Nat.left_eq_add, Nat.right_eq_add, Nat.add_eq_left, Nat.add_eq_right, Nat.reduceAdd, Nat.succ_ne_self, reduceCtorEq, false_and, and_false, if_false, if_true, ite_true, ite_false, ite_self, Nat.succ_ne_zero, Nat.add_one_ne_zero, not_false_eq_true, not_true_eq_false, Nat.one_ne_zero, Nat.zero_ne_one, e1]; exact eC p' (by omega)
      · have e1 : (B = B + 18 + 42 * p) = False := by simp only [eq_iff_iff, iff_false]; omega
        simp only [gI_uI, gL_uL, gR_uR, gI_uL, gI_uR, gL_uI, gL_uR, gR_uI, gR_uL, true_and, and_true, Nat.add_right_cancel_iff, Nat.add_left_cancel_iff, Nat.reduceEqDiff, Nat.left_eq_add, Nat.right_eq_add, Nat.add_eq_left, Nat.add_eq_right, Nat.reduceAdd, Nat.succ_ne_self, reduceCtorEq, false_and, and_false, if_false, if_true, ite_true, ite_false, ite_self, Nat.succ_ne_zero, Nat.add_one_ne_zero, not_false_eq_true, not_true_eq_false, Nat.one_ne_zero, Nat.zero_ne_one, e1]; exact e9
      · have e1 : (B + 15 = B + 18 + 42 * p) = False := by simp only [eq_iff_iff, iff_false]; omega
        have e2 : (B + 16 = B + 18 + 42 * p) = False := by simp only [eq_iff_iff, iff_false]; omega
        simp only [gI_uI, gL_uL, gR_uR, gI_uL, gI_uR, gL_uI, gL_uR, gR_uI, gR_uL, true_and, and_true, Nat.add_right_cancel_iff, Nat.add_left_cancel_iff, Nat.reduceEqDiff, Nat.left_eq_add, Nat.right_eq_add, Nat.add_eq_left, Nat.add_eq_right, Nat.reduceAdd, Nat.succ_ne_self, reduceCtorEq, false_and, and_false, if_false, if_true, ite_true, ite_false, ite_self, Nat.succ_ne_zero, Nat.add_one_ne_zero, not_false_eq_true, not_true_eq_false, Nat.one_ne_zero, Nat.zero_ne_one, e1, e2]; exact eO t
  refine sX0_clearFor_0 hJ ⟨l0, fun T e => ?_⟩
  subst e
  refine loop1 3 0 _ _ (by omega) (Fr.rf.uI (by omega) (by omega)) (fun b k => rfl) (fun p' h' => absurd h' (Nat.not_lt_zero _)) (by simp only [gI_uI, gL_uL, gR_uR, gI_uL, gI_uR, gL_uI, gL_uR, gR_uI, gR_uL, true_and, and_true, Nat.add_right_cancel_iff, Nat.add_left_cancel_iff, Nat.reduceEqDiff, Nat.left_eq_add, Nat.right_eq_add, Nat.add_eq_left, Nat.add_eq_right, Nat.reduceAdd, Nat.succ_ne_self, reduceCtorEq, false_and, and_false, if_false, if_true, ite_true, ite_false, ite_self, Nat.succ_ne_zero, Nat.add_one_ne_zero, not_false_eq_true, not_true_eq_false, Nat.one_ne_zero, Nat.zero_ne_one]) (fun t => by simp only [gI_uI, gL_uL, gR_uR, gI_uL, gI_uR, gL_uI, gL_uR, gR_uI, gR_uL, true_and, and_true, Nat.add_right_cancel_iff, Nat.add_left_cancel_iff, Nat.reduceEqDiff, Nat.left_eq_add, Nat.right_eq_add, Nat.add_eq_left, Nat.add_eq_right, Nat.reduceAdd, Nat.succ_ne_self, reduceCtorEq, false_and, and_false, if_false, if_true, ite_true, ite_false, ite_self, Nat.succ_ne_zero, Nat.add_one_ne_zero, not_false_eq_true, not_true_eq_false, Nat.one_ne_zero, Nat.zero_ne_one, and_self])
end
