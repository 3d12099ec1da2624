/-! the class Pieces -/
/-- a piece: day, buy, chain, shares, cost, proceeds, left, loss, moved -/
abbrev Pie : Type := Int32 × Int32 × Int32 × Int32 × Int64 × Int64 × Int32 × Int64 × Int64
/-- with its paper ahead -/
abbrev CPie : Type := Int32 × Pie
def cp0 : CPie := (0, 0, 0, 0, 0, 0, 0, 0, 0, 0)
def pt (G : List CPie) (i : Nat) : CPie := G.getD i cp0
theorem pt_app {L U : List CPie} {i : Nat} (h : i < L.length) : pt (L ++ U) i = pt L i := by simp [pt, List.getElem?_append_left h]
theorem pt_end {L : List CPie} {x : CPie} : pt (L ++ [x]) L.length = x := by simp [pt]
theorem pt_set {L : List CPie} {i j : Nat} {x : CPie} (h : i < L.length) : pt (L.set i x) j = if j = i then x else pt L j := by
  unfold pt
  rw [List.getD_eq_getElem?_getD, List.getElem?_set]
  split
  · rename_i e; subst e; simp [h]
  · rename_i e; simp [Ne.symm e]
theorem pt_ext {T U : List CPie} (hl : T.length = U.length) (h : ∀ i, i < T.length → pt T i = pt U i) : T = U := by
  refine List.ext_getElem? fun i => ?_
  by_cases hi : i < T.length
  · have := h i hi
    unfold pt at this
    rw [List.getD_eq_getElem?_getD, List.getD_eq_getElem?_getD, List.getElem?_eq_getElem hi, List.getElem?_eq_getElem (hl ▸ hi)] at this
    rw [List.getElem?_eq_getElem hi, List.getElem?_eq_getElem (hl ▸ hi)]
    simpa using this
  · rw [List.getElem?_eq_none (by omega), List.getElem?_eq_none (by omega)]
def PiL (A : qA) (a : Nat) : Prop := A.1 a = some (5, 0) ∧ A.1 (a + 1) = some (13, 666) ∧ A.1 (a + 2) = some (13, 666) ∧ A.1 (a + 3) = some (13, 666) ∧ A.1 (a + 4) = some (13, 666) ∧ A.1 (a + 5) = some (13, 666) ∧ A.1 (a + 6) = some (14, 666) ∧ A.1 (a + 7) = some (14, 666) ∧ A.1 (a + 8) = some (13, 666) ∧ A.1 (a + 9) = some (14, 666) ∧ A.1 (a + 10) = some (14, 666)
def PiR (S : qS) (a : Nat) : Prop := gR S a 0 = some (a + 1) ∧ gR S a 1 = some (a + 2) ∧ gR S a 2 = some (a + 3) ∧ gR S a 3 = some (a + 4) ∧ gR S a 4 = some (a + 5) ∧ gR S a 5 = some (a + 6) ∧ gR S a 6 = some (a + 7) ∧ gR S a 7 = some (a + 8) ∧ gR S a 8 = some (a + 9) ∧ gR S a 9 = some (a + 10)
def PiC (S : qS) (a : Nat) (G : List CPie) : Prop := gI S a 10 = nI G.length ∧ ∀ i, i < G.length → gI S (a + 1) i = (pt G i).1 ∧ gI S (a + 2) i = (pt G i).2.1 ∧ gI S (a + 3) i = (pt G i).2.2.1 ∧ gI S (a + 4) i = (pt G i).2.2.2.1 ∧ gI S (a + 5) i = (pt G i).2.2.2.2.1 ∧ gL S (a + 6) i = (pt G i).2.2.2.2.2.1 ∧ gL S (a + 7) i = (pt G i).2.2.2.2.2.2.1 ∧ gI S (a + 8) i = (pt G i).2.2.2.2.2.2.2.1 ∧ gL S (a + 9) i = (pt G i).2.2.2.2.2.2.2.2.1 ∧ gL S (a + 10) i = (pt G i).2.2.2.2.2.2.2.2.2
def PiAt (A : qA) (S : qS) (a : Nat) (G : List CPie) : Prop := PiL A a ∧ PiR S a ∧ PiC S a G ∧ G.length ≤ 666
theorem PiAt.fr {A : qA} {S S' : qS} {a lo hi : Nat} {G : List CPie} (h : PiAt A S a G) (hf : Fr S S' lo hi) (hd : hi ≤ a ∨ a + 11 ≤ lo) : PiAt A S' a G := by
  obtain ⟨hL, ⟨q0, q1, q2, q3, q4, q5, q6, q7, q8, q9⟩, hC, h1⟩ := h
  have e : ∀ c, c < 11 → ∀ k, gI S' (a + c) k = gI S (a + c) k := fun c hc k => (hf _ (by omega) k).1
  have el : ∀ c, c < 11 → ∀ k, gL S' (a + c) k = gL S (a + c) k := fun c hc k => (hf _ (by omega) k).2.1
  have er : ∀ k, gR S' a k = gR S a k := fun k => (hf _ (by omega) k).2.2
  refine ⟨hL, ⟨(er _).trans q0, (er _).trans q1, (er _).trans q2, (er _).trans q3, (er _).trans q4, (er _).trans q5, (er _).trans q6, (er _).trans q7, (er _).trans q8, (er _).trans q9⟩, ⟨(e 0 (by omega) 10).trans hC.1, fun i hi => ?_⟩, h1⟩
  rw [e 1 (by omega), e 2 (by omega), e 3 (by omega), e 4 (by omega), e 5 (by omega), el 6 (by omega), el 7 (by omega), e 8 (by omega), el 9 (by omega), el 10 (by omega)]
  exact hC.2 i hi
/-- all of a lot is sold -/
def newPie (day : Int32) (l : Lot) (price : Int32) : Pie := (day, l.2.2.2.1, l.2.2.2.2.2, l.1, l.2.1, l.1.toInt64 * price.toInt64, if l.2.1 ≤ l.1.toInt64 * price.toInt64 then 0 else l.1, if l.2.1 ≤ l.1.toInt64 * price.toInt64 then 0 else l.2.1 - l.1.toInt64 * price.toInt64, 0)
/-- g(lo) + .. + g(lo + n - 1) -/
def sumF (g : Nat → Int64) (lo : Nat) : Nat → Int64
  | 0 => 0
  | n + 1 => sumF g lo n + g (lo + n)
def pGain (p : Pie) : Int64 := p.2.2.2.2.2.1 - p.2.2.2.2.1 + p.2.2.2.2.2.2.2.2
def pMoved (p : Pie) : Int64 := p.2.2.2.2.2.2.2.2
section
variable {d : Nat} {A : qA} {S : qS} {a : Nat} {G : List CPie}
set_option maxRecDepth 20000 in
theorem ct_gainsFrom {i j : Nat} {f : Int64 → qS → Prop} (h : PiAt A S a G) (hij : i ≤ j) (hj : j ≤ G.length) (hf : f (sumF (fun k => pGain (pt G k).2) i (j - i)) S) : Run (d + 1) 34 [.ref a, .int (nI i), .int (nI j)] A S (kL A f) := by
  refine Run.i (C := mX5_gainsFrom) rfl rfl rfl fun J hJ => ?_
  obtain ⟨⟨l0, l1, l2, l3, l4, l5, l6, l7, l8, l9, l10⟩, ⟨q0, q1, q2, q3, q4, q5, q6, q7, q8, q9⟩, hC, h1⟩ := h
  have loop : ∀ n k (w w4 : Option Value), i + k + n = j → J 5 [some (.ref a), w, some (.int (nI j)), some (.long (sumF (fun k => pGain (pt G k).2) i k)), w4, some (.int (nI (i + k)))] [] A S := by
    intro n
    induction n with
    | zero =>
      intro k w w4 hk
      refine sX5_gainsFrom_5 hJ ?_
      simp only [nIle (show j ≤ 100000 by omega) (show i + k ≤ 100000 by omega)]
      refine ⟨fun _ => kL_i ?_, fun c => absurd (by omega) c⟩
      rwa [show k = j - i by omega]
    | succ n ih =>
      intro k w w4 hk
      refine sX5_gainsFrom_5 hJ ?_
      obtain ⟨-, -, -, -, -, z5, z6, -, -, z9⟩ := hC.2 (i + k) (by omega)
      simp only [l0, l6, l7, l10, q5, q6, q9, hC.1, nIle (show j ≤ 100000 by omega) (show i + k ≤ 100000 by omega), nIle (show G.length ≤ 100000 by omega) (show i + k ≤ 100000 by omega), cl_n (show i + k ≤ 100000 by omega), vp_n (show i + k < 666 by omega) (show 666 ≤ 100000 by omega), z5, z6, z9, nI_1, Option.some.injEq, Prod.mk.injEq, exists_eq_left', exists_eq_left, true_and, and_true, and_self, true_or, or_true, forall_const, exists_const, exists_and_left, wcat, Nat.zero_le, Nat.reduceLeDiff, Int32.lt_irrefl, not_false_eq_true, Nat.zero_add, forall_eq]
      exact ⟨fun c => absurd c (by omega), fun _ => ⟨fun c => absurd c (by omega), fun _ => ih (k + 1) _ _ (by omega)⟩⟩
  exact sX5_gainsFrom_0 hJ (loop (j - i) 0 _ _ (by omega))
set_option maxRecDepth 20000 in
theorem ct_movedFrom {i j : Nat} {f : Int64 → qS → Prop} (h : PiAt A S a G) (hij : i ≤ j) (hj : j ≤ G.length) (hf : f (sumF (fun k => pMoved (pt G k).2) i (j - i)) S) : Run (d + 1) 35 [.ref a, .int (nI i), .int (nI j)] A S (kL A f) := by
  refine Run.i (C := mX5_movedFrom) rfl rfl rfl fun J hJ => ?_
  obtain ⟨⟨l0, l1, l2, l3, l4, l5, l6, l7, l8, l9, l10⟩, ⟨q0, q1, q2, q3, q4, q5, q6, q7, q8, q9⟩, hC, h1⟩ := h
  have loop : ∀ n k (w w4 : Option Value), i + k + n = j → J 5 [some (.ref a), w, some (.int (nI j)), some (.long (sumF (fun k => pMoved (pt G k).2) i k)), w4, some (.int (nI (i + k)))] [] A S := by
    intro n
    induction n with
    | zero =>
      intro k w w4 hk
      refine sX5_movedFrom_5 hJ ?_
      simp only [nIle (show j ≤ 100000 by omega) (show i + k ≤ 100000 by omega)]
      refine ⟨fun _ => kL_i ?_, fun c => absurd (by omega) c⟩
      rwa [show k = j - i by omega]
    | succ n ih =>
      intro k w w4 hk
      refine sX5_movedFrom_5 hJ ?_
      obtain ⟨-, -, -, -, -, z5, z6, -, -, z9⟩ := hC.2 (i + k) (by omega)
      simp only [l0, l10, q9, hC.1, nIle (show j ≤ 100000 by omega) (show i + k ≤ 100000 by omega), nIle (show G.length ≤ 100000 by omega) (show i + k ≤ 100000 by omega), cl_n (show i + k ≤ 100000 by omega), vp_n (show i + k < 666 by omega) (show 666 ≤ 100000 by omega), z9, nI_1, Option.some.injEq, Prod.mk.injEq, exists_eq_left', exists_eq_left, true_and, and_true, and_self, true_or, or_true, forall_const, exists_const, exists_and_left, wcat, Nat.zero_le, Nat.reduceLeDiff, Int32.lt_irrefl, not_false_eq_true, Nat.zero_add, forall_eq]
      exact ⟨fun c => absurd c (by omega), fun _ => ⟨fun c => absurd c (by omega), fun _ => ih (k + 1) _ _ (by omega)⟩⟩
  exact sX5_movedFrom_0 hJ (loop (j - i) 0 _ _ (by omega))
set_option maxRecDepth 20000 in
set_option maxHeartbeats 4000000 in
theorem ct_pieceAdd {q : Nat} {pa dy pr : Int32} {l : Lot} {f : qS → Prop} (h : PiAt A S a G) (hn : G.length < 666) (hq : A.1 q = some (3, 0)) (hl : lotIs S q l) (hd : q < a ∨ a + 11 ≤ q) (hf : ∀ S', PiAt A S' a (G ++ [(pa, newPie dy l pr)]) → Fr S S' a (a + 11) → f S') : Run (d + 1) 33 [.ref a, .int pa, .int dy, .ref q, .int pr] A S (kV A f) := by
  refine Run.i (C := mX5_add) rfl rfl rfl fun J hJ => ?_
  obtain ⟨⟨l0, l1, l2, l3, l4, l5, l6, l7, l8, l9, l10⟩, ⟨q0, q1, q2, q3, q4, q5, q6, q7, q8, q9⟩, hC, h1⟩ := h
  obtain ⟨z0, z1, z2, z3, z4, z5⟩ := hl
  refine sX5_add_0 hJ ?_
  have c6 : (nI G.length < 666) = True := by rw [show (666 : Int32) = nI 666 from rfl, nIlt (by omega) (by omega)]; simp [hn]
  have o10 : ((1 : Int32) = 0) = False := by decide
  have e : ∀ c, c < 11 → (q = a + c) = False := fun c hc => by simp only [eq_iff_iff, iff_false]; omega
  have e0 : (q = a) = False := by simp only [eq_iff_iff, iff_false]; omega
  have v := vp_n hn (show 666 ≤ 100000 by omega)
  simp only [l0, l1, l2, l3, l4, l5, l6, l7, l8, l9, l10, q0, q1, q2, q3, q4, q5, q6, q7, q8, q9, hC.1, hq, z0, z1, z2, z3, z4, z5, c6, o10, v, lgc_ge, cl_n (show G.length ≤ 100000 by omega), nI_1, e0, e 1 (by omega), e 2 (by omega), e 3 (by omega), e 4 (by omega), e 5 (by omega), e 6 (by omega), e 7 (by omega), e 8 (by omega), e 9 (by omega), e 10 (by omega), eq_self, not_true_eq_false, false_imp_iff, true_imp_iff, Option.some.injEq, Prod.mk.injEq, exists_eq_left', exists_eq_left, true_and, and_true, and_self, true_or, or_true, forall_const, exists_const, exists_and_left, wcat, Nat.zero_le, Nat.reduceLeDiff, Int32.lt_irrefl, not_false_eq_true, Nat.zero_add, forall_eq, gI_uI, gL_uL, gR_uR, gI_uL, gI_uR, gL_uI, gL_uR, gR_uI, gR_uL, true_and, and_true, Nat.add_right_cancel_iff, Nat.add_left_cancel_iff, Nat.reduceEqDiff, Nat.left_eq_add, Nat.right_eq_add, Nat.add_eq_left, Nat.add_eq_right, Nat.reduceAdd, Nat.succ_ne_self, reduceCtorEq, false_and, and_false, if_false, if_true, ite_true, ite_false, ite_self, Nat.succ_ne_zero, Nat.add_one_ne_zero, not_false_eq_true, not_true_eq_false, Nat.one_ne_zero, Nat.zero_ne_one]
  have fin : ∀ (lf : Int32) (lo : Int64), lf = (newPie dy l pr).2.2.2.2.2.2.1 → lo = (newPie dy l pr).2.2.2.2.2.2.2.1 → f (uI (uL (uL (uI (uL (uL (uI (uI (uI (uI (uI S (a + 1) G.length pa) (a + 2) G.length dy) (a + 3) G.length l.2.2.2.1) (a + 4) G.length l.2.2.2.2.2) (a + 5) G.length l.1) (a + 6) G.length l.2.1) (a + 7) G.length (l.1.toInt64 * pr.toInt64)) (a + 8) G.length lf) (a + 9) G.length lo) (a + 10) G.length 0) a 10 (nI (G.length + 1))) := by
    intro lf lo hlf hlo
    refine hf _ ⟨⟨l0, l1, l2, l3, l4, l5, l6, l7, l8, l9, l10⟩, ⟨q0, q1, q2, q3, q4, q5, q6, q7, q8, q9⟩, ⟨?_, fun i hi => ?_⟩, ?_⟩ ?_
    · simp only [gI_uI, gL_uL, gR_uR, gI_uL, gI_uR, gL_uI, gL_uR, gR_uI, gR_uL, true_and, and_true, Nat.add_right_cancel_iff, Nat.add_left_cancel_iff, Nat.reduceEqDiff, Nat.left_eq_add, Nat.right_eq_add, Nat.add_eq_left, Nat.add_eq_right, Nat.reduceAdd, Nat.succ_ne_self, reduceCtorEq, false_and, and_false, if_false, if_true, ite_true, ite_false, ite_self, Nat.succ_ne_zero, Nat.add_one_ne_zero, not_false_eq_true, not_true_eq_false, Nat.one_ne_zero, Nat.zero_ne_one, List.length_append, List.length_singleton]
    · simp only [List.length_append, List.length_singleton] at hi
      by_cases hi' : i = G.length
      · subst hi'
        rw [pt_end]
        simp only [gI_uI, gL_uL, gR_uR, gI_uL, gI_uR, gL_uI, gL_uR, gR_uI, gR_uL, true_and, and_true, Nat.add_right_cancel_iff, Nat.add_left_cancel_iff, Nat.reduceEqDiff, Nat.left_eq_add, Nat.right_eq_add, Nat.add_eq_left, Nat.add_eq_right, Nat.reduceAdd, Nat.succ_ne_self, reduceCtorEq, false_and, and_false, if_false, if_true, ite_true, ite_false, ite_self, Nat.succ_ne_zero, Nat.add_one_ne_zero, not_false_eq_true, not_true_eq_false, Nat.one_ne_zero, Nat.zero_ne_one, hlf, hlo]
        simp only [newPie, and_self]
      · rw [pt_app (by omega)]
        simp only [gI_uI, gL_uL, gR_uR, gI_uL, gI_uR, gL_uI, gL_uR, gR_uI, gR_uL, true_and, and_true, Nat.add_right_cancel_iff, Nat.add_left_cancel_iff, Nat.reduceEqDiff, Nat.left_eq_add, Nat.right_eq_add, Nat.add_eq_left, Nat.add_eq_right, Nat.reduceAdd, Nat.succ_ne_self, reduceCtorEq, false_and, and_false, if_false, if_true, ite_true, ite_false, ite_self, Nat.succ_ne_zero, Nat.add_one_ne_zero, not_false_eq_true, not_true_eq_false, Nat.one_ne_zero, Nat.zero_ne_one, hi']
        exact hC.2 i (by omega)
    · simp only [List.length_append, List.length_singleton]; omega
    · exact ((((((((((Fr.rf.uI (by omega) (by omega)).uI (by omega) (by omega)).uI (by omega) (by omega)).uI (by omega) (by omega)).uI (by omega) (by omega)).uL (by omega) (by omega)).uL (by omega) (by omega)).uI (by omega) (by omega)).uL (by omega) (by omega)).uL (by omega) (by omega)).uI (by omega) (by omega)
  exact ⟨fun c => kV_i (fin _ _ (by simp only [newPie, if_pos c]) (by simp only [newPie, if_pos c])), fun c => kV_i (fin _ _ (by simp only [newPie, if_neg c]) (by simp only [newPie, if_neg c]))⟩
end
