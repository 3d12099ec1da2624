/-! the class Lots: its rows are a permutation of its own 40 Lot objects -/
theorem lgc_ge (x y : Int64) : 0 ≤ lg_cmp x y ↔ y ≤ x := by
  unfold lg_cmp
  by_cases h1 : x > y
  · simp only [if_pos h1]; exact ⟨fun _ => Int64.le_of_lt h1, fun _ => by decide⟩
  · by_cases h2 : x = y
    · simp only [if_neg h1, if_pos h2]; exact ⟨fun _ => by rw [h2]; exact Int64.le_refl _, fun _ => by decide⟩
    · simp only [if_neg h1, if_neg h2]
      exact ⟨fun h => absurd h (by decide), fun h => absurd (Int64.le_antisymm (Int64.not_lt.mp h1) h) h2⟩
theorem lgc_le (x y : Int64) : lg_cmp x y ≤ 0 ↔ x ≤ y := by
  unfold lg_cmp
  by_cases h1 : x > y
  · simp only [if_pos h1]; exact ⟨fun h => absurd h (by decide), fun h => absurd h (Int64.not_le.mpr h1)⟩
  · by_cases h2 : x = y
    · simp only [if_neg h1, if_pos h2]; exact ⟨fun _ => by rw [h2]; exact Int64.le_refl _, fun _ => by decide⟩
    · simp only [if_neg h1, if_neg h2]
      exact ⟨fun _ => Int64.not_lt.mp h1, fun _ => by decide⟩
theorem lgc_eq (x y : Int64) : lg_cmp x y = 0 ↔ x = y := by
  constructor
  · intro h
    exact Int64.le_antisymm ((lgc_le x y).mp (by rw [h]; decide)) ((lgc_ge x y).mp (by rw [h]; decide))
  · intro h
    subst h
    unfold lg_cmp
    rw [if_neg Int64.lt_irrefl, if_pos rfl]
/-- a lot: shares, cost, day, buy, washed, chain -/
abbrev Lot : Type := Int32 × Int64 × Int32 × Int32 × Bool × Int32
def lot0 : Lot := (0, 0, 0, 0, false, 0)
def lt (L : List Lot) (i : Nat) : Lot := L.getD i lot0
theorem lt_app {L U : List Lot} {i : Nat} (h : i < L.length) : lt (L ++ U) i = lt L i := by simp [lt, List.getElem?_append_left h]
theorem lt_end {L : List Lot} {x : Lot} : lt (L ++ [x]) L.length = x := by simp [lt]
theorem lt_del {L : List Lot} {i j : Nat} : lt (L.eraseIdx i) j = if j < i then lt L j else lt L (j + 1) := by
  unfold lt
  rw [List.getD_eq_getElem?_getD, List.getElem?_eraseIdx]
  split <;> simp
theorem lt_set {L : List Lot} {i j : Nat} {x : Lot} (h : i < L.length) : lt (L.set i x) j = if j = i then x else lt L j := by
  unfold lt
  rw [List.getD_eq_getElem?_getD, List.getElem?_set]
  split
  · rename_i e; subst e; simp [h]
  · rename_i e; simp [Ne.symm e]
theorem lt_ext {T U : List Lot} (hl : T.length = U.length) (h : ∀ i, i < T.length → lt T i = lt U i) : T = U := by
  refine List.ext_getElem? fun i => ?_
  by_cases hi : i < T.length
  · have := h i hi
    unfold lt at this
    rw [List.getD_eq_getElem?_getD, List.getD_eq_getElem?_getD, List.getElem?_eq_getElem hi, List.getElem?_eq_getElem (hl ▸ hi)] at this
    rw [List.getElem?_eq_getElem hi, List.getElem?_eq_getElem (hl ▸ hi)]
    simpa using this
  · rw [List.getElem?_eq_none (by omega), List.getElem?_eq_none (by omega)]
def lotIs (S : qS) (q : Nat) (l : Lot) : Prop := gI S q 0 = l.1 ∧ gL S q 1 = l.2.1 ∧ gI S q 2 = l.2.2.1 ∧ gI S q 3 = l.2.2.2.1 ∧ gI S q 4 = bI l.2.2.2.2.1 ∧ gI S q 5 = l.2.2.2.2.2
def LoL (A : qA) (a : Nat) : Prop := A.1 a = some (4, 0) ∧ A.1 (a + 1) = some (16, 40) ∧ ∀ j, j < 40 → A.1 (a + 2 + j) = some (3, 0)
def LoP (S : qS) (a : Nat) (π : Nat → Nat) : Prop := (∀ i, i < 40 → π i < 40 ∧ gR S (a + 1) i = some (a + 2 + π i)) ∧ ∀ i j, i < 40 → j < 40 → π i = π j → i = j
def LoC (S : qS) (a : Nat) (π : Nat → Nat) (L : List Lot) : Prop := gR S a 0 = some (a + 1) ∧ gI S a 1 = nI L.length ∧ L.length ≤ 40 ∧ LoP S a π ∧ ∀ i, i < L.length → lotIs S (a + 2 + π i) (lt L i)
/-- the Lots object at a holds L -/
def LoAt (A : qA) (S : qS) (a : Nat) (L : List Lot) : Prop := LoL A a ∧ ∃ π, LoC S a π L
theorem lotIs.fr {S S' : qS} {q lo hi : Nat} {l : Lot} (h : lotIs S q l) (hf : Fr S S' lo hi) (hd : q < lo ∨ hi ≤ q) : lotIs S' q l := by
  obtain ⟨h0, h1, h2, h3, h4, h5⟩ := h
  have e := hf q hd
  exact ⟨(e 0).1.trans h0, (e 1).2.1.trans h1, (e 2).1.trans h2, (e 3).1.trans h3, (e 4).1.trans h4, (e 5).1.trans h5⟩
theorem LoC.fr {S S' : qS} {a lo hi : Nat} {π : Nat → Nat} {L : List Lot} (h : LoC S a π L) (hf : Fr S S' lo hi) (hd : hi ≤ a ∨ a + 42 ≤ lo) : LoC S' a π L := by
  obtain ⟨h1, h2, h3, ⟨h4, h5⟩, h6⟩ := h
  refine ⟨((hf a (by omega) 0).2.2).trans h1, ((hf a (by omega) 1).1).trans h2, h3, ⟨fun i hi => ⟨(h4 i hi).1, ((hf (a + 1) (by omega) i).2.2).trans (h4 i hi).2⟩, h5⟩, fun i hi => ?_⟩
  have := (h4 i (by omega)).1
  exact (h6 i hi).fr hf (by omega)
theorem LoAt.fr {A : qA} {S S' : qS} {a lo hi : Nat} {L : List Lot} (h : LoAt A S a L) (hf : Fr S S' lo hi) (hd : hi ≤ a ∨ a + 42 ≤ lo) : LoAt A S' a L := by
  obtain ⟨hL, π, h⟩ := h
  exact ⟨hL, π, h.fr hf hd⟩
def shSum (L : List Lot) : Nat → Int32
  | 0 => 0
  | i + 1 => shSum L i + (lt L i).1
def coSum (L : List Lot) : Nat → Int64
  | 0 => 0
  | i + 1 => coSum L i + (lt L i).2.1
def chMax (L : List Lot) (c : Int32) : Nat → Int32
  | 0 => c
  | i + 1 => if chMax L c i < (lt L i).2.2.2.2.2 then (lt L i).2.2.2.2.2 else chMax L c i
/-- whether lot i goes ahead of lot b by dearest (2) or cheapest -/
def ahead (L : List Lot) (rule : Int32) (i b : Nat) : Bool := if rule = 2 then decide (0 < (lt L i).2.1 * (lt L b).1.toInt64 - (lt L b).2.1 * (lt L i).1.toInt64) else decide ((lt L i).2.1 * (lt L b).1.toInt64 - (lt L b).2.1 * (lt L i).1.toInt64 < 0)
def bst (L : List Lot) (rule : Int32) : Nat → Nat
  | 0 => 0
  | i + 1 => if ahead L rule (i + 1) (bst L rule i) then i + 1 else bst L rule i
theorem bst_le (L : List Lot) (rule : Int32) : ∀ i, bst L rule i ≤ i
  | 0 => Nat.le_refl 0
  | i + 1 => by have := bst_le L rule i; unfold bst; split <;> omega
/-- out of which lot a sell takes next (of a list that isn't empty) -/
def pick (L : List Lot) (rule : Int32) : Nat := if rule = 0 then 0 else if rule = 1 then L.length - 1 else bst L rule (L.length - 1)
section
variable {d : Nat} {A : qA} {S : qS} {a : Nat} {L : List Lot}
set_option maxRecDepth 20000 in
theorem ct_allShares {f : Int32 → qS → Prop} (h : LoAt A S a L) (hf : f (shSum L L.length) S) : Run (d + 1) 29 [.ref a] A S (kI A f) := by
  refine Run.i (C := mX4_allShares) rfl rfl rfl fun J hJ => ?_
  obtain ⟨⟨l0, l1, l2⟩, π, h1, h2, h3, ⟨h4, h5⟩, h6⟩ := h
  have loop : ∀ n i, i + n = L.length → J 4 [some (.ref a), some (.int (shSum L i)), some (.int (nI i))] [] A S := by
    intro n
    induction n with
    | zero =>
      intro i hi
      refine sX4_allShares_4 hJ ?_
      simp only [l0, h2, nIle (show L.length ≤ 100000 by omega) (show i ≤ 100000 by omega), Option.some.injEq, Prod.mk.injEq, exists_eq_left', exists_eq_left, true_and, and_true, and_self, true_or, or_true, forall_const, exists_const, exists_and_left, wcat, Nat.zero_le, Nat.reduceLeDiff, Int32.lt_irrefl, not_false_eq_true, Nat.zero_add, forall_eq]
      refine ⟨fun _ => kI_i ?_, fun c => absurd (by omega) c⟩
      rwa [show i = L.length by omega]
    | succ n ih =>
      intro i hi
      refine sX4_allShares_4 hJ ?_
      simp only [l0, l1, h1, h2, (h4 i (by omega)).2, l2 _ (h4 i (by omega)).1, nIle (show L.length ≤ 100000 by omega) (show i ≤ 100000 by omega), cl_n (show i ≤ 100000 by omega), (h6 i (by omega)).1, nI_1, Option.some.injEq, Prod.mk.injEq, exists_eq_left', exists_eq_left, true_and, and_true, and_self, true_or, or_true, forall_const, exists_const, exists_and_left, wcat, Nat.zero_le, Nat.reduceLeDiff, Int32.lt_irrefl, not_false_eq_true, Nat.zero_add, forall_eq]
      exact ⟨fun c => absurd c (by omega), fun _ => ⟨vp_n (by omega) (by omega), ih (i + 1) (by omega)⟩⟩
  exact sX4_allShares_0 hJ (loop L.length 0 (by omega))
set_option maxRecDepth 20000 in
theorem ct_allCost {f : Int64 → qS → Prop} (h : LoAt A S a L) (hf : f (coSum L L.length) S) : Run (d + 1) 30 [.ref a] A S (kL A f) := by
  refine Run.i (C := mX4_allCost) rfl rfl rfl fun J hJ => ?_
  obtain ⟨⟨l0, l1, l2⟩, π, h1, h2, h3, ⟨h4, h5⟩, h6⟩ := h
  have loop : ∀ n i (w : Option Value), i + n = L.length → J 4 [some (.ref a), some (.long (coSum L i)), w, some (.int (nI i))] [] A S := by
    intro n
    induction n with
    | zero =>
      intro i w hi
      refine sX4_allCost_4 hJ ?_
      simp only [l0, h2, nIle (show L.length ≤ 100000 by omega) (show i ≤ 100000 by omega), Option.some.injEq, Prod.mk.injEq, exists_eq_left', exists_eq_left, true_and, and_true, and_self, true_or, or_true, forall_const, exists_const, exists_and_left, wcat, Nat.zero_le, Nat.reduceLeDiff, Int32.lt_irrefl, not_false_eq_true, Nat.zero_add, forall_eq]
      refine ⟨fun _ => kL_i ?_, fun c => absurd (by omega) c⟩
      rwa [show i = L.length by omega]
    | succ n ih =>
      intro i w hi
      refine sX4_allCost_4 hJ ?_
      simp only [l0, l1, h1, h2, (h4 i (by omega)).2, l2 _ (h4 i (by omega)).1, nIle (show L.length ≤ 100000 by omega) (show i ≤ 100000 by omega), cl_n (show i ≤ 100000 by omega), (h6 i (by omega)).2.1, nI_1, Option.some.injEq, Prod.mk.injEq, exists_eq_left', exists_eq_left, true_and, and_true, and_self, true_or, or_true, forall_const, exists_const, exists_and_left, wcat, Nat.zero_le, Nat.reduceLeDiff, Int32.lt_irrefl, not_false_eq_true, Nat.zero_add, forall_eq]
      exact ⟨fun c => absurd c (by omega), fun _ => ⟨vp_n (by omega) (by omega), ih (i + 1) _ (by omega)⟩⟩
  exact sX4_allCost_0 hJ (loop L.length 0 _ (by omega))
set_option maxRecDepth 20000 in
theorem ct_longestChain {f : Int32 → qS → Prop} (h : LoAt A S a L) (hf : f (chMax L 0 L.length) S) : Run (d + 1) 31 [.ref a] A S (kI A f) := by
  refine Run.i (C := mX4_longestChain) rfl rfl rfl fun J hJ => ?_
  obtain ⟨⟨l0, l1, l2⟩, π, h1, h2, h3, ⟨h4, h5⟩, h6⟩ := h
  have loop : ∀ n i, i + n = L.length → J 4 [some (.ref a), some (.int (chMax L 0 i)), some (.int (nI i))] [] A S := by
    intro n
    induction n with
    | zero =>
      intro i hi
      refine sX4_longestChain_4 hJ ?_
      simp only [l0, h2, nIle (show L.length ≤ 100000 by omega) (show i ≤ 100000 by omega), Option.some.injEq, Prod.mk.injEq, exists_eq_left', exists_eq_left, true_and, and_true, and_self, true_or, or_true, forall_const, exists_const, exists_and_left, wcat, Nat.zero_le, Nat.reduceLeDiff, Int32.lt_irrefl, not_false_eq_true, Nat.zero_add, forall_eq]
      refine ⟨fun _ => kI_i ?_, fun c => absurd (by omega) c⟩
      rwa [show i = L.length by omega]
    | succ n ih =>
      intro i hi
      refine sX4_longestChain_4 hJ ?_
      simp only [l0, l1, h1, h2, (h4 i (by omega)).2, l2 _ (h4 i (by omega)).1, nIle (show L.length ≤ 100000 by omega) (show i ≤ 100000 by omega), cl_n (show i ≤ 100000 by omega), (h6 i (by omega)).2.2.2.2.2, nI_1, Option.some.injEq, Prod.mk.injEq, exists_eq_left', exists_eq_left, true_and, and_true, and_self, true_or, or_true, forall_const, exists_const, exists_and_left, wcat, Nat.zero_le, Nat.reduceLeDiff, Int32.lt_irrefl, not_false_eq_true, Nat.zero_add, forall_eq]
      exact ⟨fun c => absurd c (by omega), fun _ => ⟨vp_n (by omega) (by omega), ih (i + 1) (by omega)⟩⟩
  exact sX4_longestChain_0 hJ (loop L.length 0 (by omega))
set_option maxRecDepth 20000 in
theorem ct_addBought {b dy sh pr : Int32} {f : qS → Prop} (h : LoAt A S a L) (hr : L.length < 40) (hf : ∀ S', LoAt A S' a (L ++ [(sh, sh.toInt64 * pr.toInt64, dy, b, false, 0)]) → Fr S S' a (a + 42) → f S') : Run (d + 1) 25 [.ref a, .int b, .int dy, .int sh, .int pr] A S (kV A f) := by
  refine Run.i (C := mX4_addBought) rfl rfl rfl fun J hJ => ?_
  obtain ⟨⟨l0, l1, l2⟩, π, h1, h2, h3, ⟨h4, h5⟩, h6⟩ := h
  refine sX4_addBought_0 hJ ?_
  obtain ⟨p1, p2⟩ := h4 L.length hr
  have n40 : (nI L.length < 40) = True := by rw [show (40 : Int32) = nI 40 from rfl, nIlt (by omega) (by omega)]; simp [hr]
  have v := vp_n hr (show 40 ≤ 100000 by omega)
  have ne : (a = a + 2 + π L.length) = False := by simp only [eq_iff_iff, iff_false]; omega
  simp only [l0, l1, h1, h2, p2, l2 _ p1, cl_n (show L.length ≤ 100000 by omega), n40, v, nI_1, ne, Option.some.injEq, Prod.mk.injEq, exists_eq_left', exists_eq_left, true_and, and_true, and_self, true_or, or_true, forall_const, exists_const, exists_and_left, wcat, Nat.zero_le, Nat.reduceLeDiff, Int32.lt_irrefl, not_false_eq_true, Nat.zero_add, forall_eq, gI_uI, gL_uL, gR_uR, gI_uL, gI_uR, gL_uI, gL_uR, gR_uI, gR_uL, true_and, and_true, Nat.add_right_cancel_iff, Nat.add_left_cancel_iff, Nat.reduceEqDiff, Nat.left_eq_add, Nat.right_eq_add, Nat.add_eq_left, Nat.add_eq_right, Nat.reduceAdd, Nat.succ_ne_self, reduceCtorEq, false_and, and_false, if_false, if_true, ite_true, ite_false, ite_self, Nat.succ_ne_zero, Nat.add_one_ne_zero, not_false_eq_true, not_true_eq_false, Nat.one_ne_zero, Nat.zero_ne_one]
  refine ⟨kV_i (hf _ ⟨⟨l0, l1, l2⟩, π, h1, ?_, ?_, ⟨h4, h5⟩, fun i hi => ?_⟩ ?_), ?_⟩
  · simp only [gI_uI, gL_uL, gR_uR, gI_uL, gI_uR, gL_uI, gL_uR, gR_uI, gR_uL, true_and, and_true, Nat.add_right_cancel_iff, Nat.add_left_cancel_iff, Nat.reduceEqDiff, Nat.left_eq_add, Nat.right_eq_add, Nat.add_eq_left, Nat.add_eq_right, Nat.reduceAdd, Nat.succ_ne_self, reduceCtorEq, false_and, and_false, if_false, if_true, ite_true, ite_false, ite_self, Nat.succ_ne_zero, Nat.add_one_ne_zero, not_false_eq_true, not_true_eq_false, Nat.one_ne_zero, Nat.zero_ne_one, List.length_append, List.length_singleton]
  · simp only [List.length_append, List.length_singleton]; omega
  · simp only [List.length_append, List.length_singleton] at hi
    by_cases hi' : i = L.length
    · subst hi'
      rw [lt_end]
      have ne' : (a + 2 + π L.length = a) = False := by simp only [eq_iff_iff, iff_false]; omega
      simp only [lotIs, gI_uI, gL_uL, gR_uR, gI_uL, gI_uR, gL_uI, gL_uR, gR_uI, gR_uL, true_and, and_true, Nat.add_right_cancel_iff, Nat.add_left_cancel_iff, Nat.reduceEqDiff, Nat.left_eq_add, Nat.right_eq_add, Nat.add_eq_left, Nat.add_eq_right, Nat.reduceAdd, Nat.succ_ne_self, reduceCtorEq, false_and, and_false, if_false, if_true, ite_true, ite_false, ite_self, Nat.succ_ne_zero, Nat.add_one_ne_zero, not_false_eq_true, not_true_eq_false, Nat.one_ne_zero, Nat.zero_ne_one, ne', bI]
    · rw [lt_app (by omega)]
      have g := (h4 i (by omega)).1
      have ne' : (a + 2 + π i = a) = False := by simp only [eq_iff_iff, iff_false]; omega
      have ne2 : (a + 2 + π i = a + 2 + π L.length) = False := by
        simp only [eq_iff_iff, iff_false]
        intro z
        exact hi' (h5 i L.length (by omega) hr (by omega))
      simp only [lotIs, gI_uI, gL_uL, gR_uR, gI_uL, gI_uR, gL_uI, gL_uR, gR_uI, gR_uL, ne', ne2, false_and, if_false]
      exact h6 i (by omega)
  · exact ((((((Fr.rf.uI (by omega) (by omega)).uL (by omega) (by omega)).uI (by omega) (by omega)).uI (by omega) (by omega)).uI (by omega) (by omega)).uI (by omega) (by omega)).uI (by omega) (by omega)
  · exact fun c => c.elim
end
