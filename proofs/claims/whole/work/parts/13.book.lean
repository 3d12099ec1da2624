/-! the class Book: its words; noteIfOpen, dropClosed -/
/-- what moves of a loss into a lot -/
def mvOf (p : Pie) (l : Lot) : Int64 := p.2.2.2.2.2.2.2.1 * l.1.toInt64 / p.2.2.2.2.2.2.1.toInt64
def repP (p : Pie) (l : Lot) : Pie := (p.1, p.2.1, p.2.2.1, p.2.2.2.1, p.2.2.2.2.1, p.2.2.2.2.2.1, p.2.2.2.2.2.2.1 - l.1, p.2.2.2.2.2.2.2.1 - mvOf p l, p.2.2.2.2.2.2.2.2 + mvOf p l)
def repO (p : Pie) (l : Lot) : Lot := (l.1, l.2.1 + mvOf p l, l.2.2.1, l.2.2.2.1, true, if l.2.2.2.2.2 < p.2.2.1 + 1 then p.2.2.1 + 1 else l.2.2.2.2.2)
def pLeft (p : Pie) : Int32 := p.2.2.2.2.2.2.1
/-- lot i replaces what it can of p -/
def repL (p : Pie) (L : List Lot) (i : Nat) : Pie × List Lot := if 0 < pLeft p then (repP p (lt (partIf L i (pLeft p)) i), (partIf L i (pLeft p)).set i (repO p (lt (partIf L i (pLeft p)) i))) else (p, L)
def ot (O : List Nat) (i : Nat) : Nat := O.getD i 0
theorem ot_app {L U : List Nat} {i : Nat} (h : i < L.length) : ot (L ++ U) i = ot L i := by simp [ot, List.getElem?_append_left h]
theorem ot_end {L : List Nat} {x : Nat} : ot (L ++ [x]) L.length = x := by simp [ot]
def upH (H : Nat → List Lot) (p : Nat) (L : List Lot) : Nat → List Lot := fun q => if q = p then L else H q
/-- window, firstPiece, pieceCount, order, place -/
abbrev BkE : Type := Int32 × (Nat → Int32) × (Nat → Int32) × (Nat → Int32) × (Nat → Int32)
def BkL (A : qA) (B : Nat) : Prop := A.1 B = some (0, 0) ∧ A.1 (B + 1) = some (17, 3) ∧ A.1 (B + 13) = some (13, 36) ∧ A.1 (B + 14) = some (13, 36) ∧ A.1 (B + 15) = some (13, 24) ∧ A.1 (B + 16) = some (13, 24) ∧ A.1 (B + 17) = some (13, 40)
def BkR (S : qS) (B : Nat) : Prop := gR S B 0 = some (B + 1) ∧ gR S B 1 = some (B + 2) ∧ gR S B 2 = some (B + 13) ∧ gR S B 3 = some (B + 14) ∧ gR S B 4 = some (B + 15) ∧ gR S B 5 = some (B + 16) ∧ gR S B 6 = some (B + 17) ∧ ∀ p, p < 3 → gR S (B + 1) p = some (B + 18 + 42 * p)
def BkO (S : qS) (B : Nat) (O : List Nat) : Prop := gI S B 7 = nI O.length ∧ O.length ≤ 40 ∧ ∀ i, i < O.length → gI S (B + 17) i = nI (ot O i)
def BkX (S : qS) (B : Nat) (z : Int64) (E : BkE) : Prop := gL S B 8 = z ∧ gI S B 9 = E.1 ∧ (∀ t, t < 36 → gI S (B + 13) t = E.2.1 t) ∧ (∀ t, t < 36 → gI S (B + 14) t = E.2.2.1 t) ∧ (∀ t, t < 24 → gI S (B + 15) t = E.2.2.2.1 t) ∧ ∀ t, t < 24 → gI S (B + 16) t = E.2.2.2.2 t
/-- the Book at B holds lots H (by papers), pieces G, open rows O, lost cost z -/
def BkAt (A : qA) (S : qS) (B : Nat) (H : Nat → List Lot) (G : List CPie) (O : List Nat) (z : Int64) (E : BkE) : Prop := BkL A B ∧ BkR S B ∧ PiAt A S (B + 2) G ∧ (∀ p, p < 3 → LoAt A S (B + 18 + 42 * p) (H p)) ∧ BkO S B O ∧ BkX S B z E ∧ ∀ i, i < O.length → ot O i < G.length
theorem BkR.fr {S S' : qS} {B : Nat} (h : BkR S B) (e : ∀ k, gR S' B k = gR S B k) (e1 : ∀ k, gR S' (B + 1) k = gR S (B + 1) k) : BkR S' B := by
  obtain ⟨q0, q1, q2, q3, q4, q5, q6, q7⟩ := h
  exact ⟨(e _).trans q0, (e _).trans q1, (e _).trans q2, (e _).trans q3, (e _).trans q4, (e _).trans q5, (e _).trans q6, fun p hp => (e1 _).trans (q7 p hp)⟩
theorem BkAt.fr {A : qA} {S S' : qS} {B lo hi : Nat} {H : Nat → List Lot} {G : List CPie} {O : List Nat} {z : Int64} {E : BkE} (h : BkAt A S B H G O z E) (hf : Fr S S' lo hi) (hd : hi ≤ B ∨ B + 144 ≤ lo) : BkAt A S' B H G O z E := by
  obtain ⟨hL, hR, hG, hH, ⟨o1, o2, o3⟩, ⟨x1, x2, x3, x4, x5, x6⟩, hO⟩ := h
  have e : ∀ c, c < 144 → ∀ k, gI S' (B + c) k = gI S (B + c) k := fun c hc k => (hf _ (by omega) k).1
  have el : ∀ k, gL S' B k = gL S B k := fun k => (hf _ (by omega) k).2.1
  refine ⟨hL, hR.fr (fun k => (hf _ (by omega) k).2.2) (fun k => (hf _ (by omega) k).2.2), hG.fr hf (by omega), fun p hp => (hH p hp).fr hf (by omega), ⟨(e 0 (by omega) 7).trans o1, o2, fun i hi => (e 17 (by omega) i).trans (o3 i hi)⟩, ⟨(el 8).trans x1, (e 0 (by omega) 9).trans x2, fun t ht => (e 13 (by omega) t).trans (x3 t ht), fun t ht => (e 14 (by omega) t).trans (x4 t ht), fun t ht => (e 15 (by omega) t).trans (x5 t ht), fun t ht => (e 16 (by omega) t).trans (x6 t ht)⟩, hO⟩
section
variable {d : Nat} {A : qA} {S : qS} {B : Nat} {H : Nat → List Lot} {G : List CPie} {O : List Nat} {z : Int64} {E : BkE}
set_option maxRecDepth 20000 in
set_option maxHeartbeats 1000000 in
theorem ct_noteIfOpen {k : Nat} {f : qS → Prop} (h : BkAt A S B H G O z E) (hk : k < G.length) (hn : O.length < 40) (hf : ∀ S', BkAt A S' B H G (if pLeft (pt G k).2 ≤ 0 then O else O ++ [k]) z E → Fr S S' B (B + 144) → f S') : Run (d + 1) 8 [.ref B, .int (nI k)] A S (kV A f) := by
  refine Run.i (C := mX0_noteIfOpen) rfl rfl rfl fun J hJ => ?_
  have h0 := h
  obtain ⟨⟨l0, l1, l13, l14, l15, l16, l17⟩, hR, hG, hH, ⟨o1, o2, o3⟩, ⟨x1, x2, x3, x4, x5, x6⟩, hO⟩ := h
  have hR' := hR
  obtain ⟨q0, q1, q2, q3, q4, q5, q6, q7⟩ := hR
  have hG' := hG
  obtain ⟨⟨m0, m1, m2, m3, m4, m5, m6, m7, m8, m9, m10⟩, ⟨g0, g1, g2, g3, g4, g5, g6, g7, g8, g9⟩, hC, g10⟩ := hG
  refine sX0_noteIfOpen_0 hJ ?_
  obtain ⟨-, -, -, -, -, -, -, z7, -, -⟩ := hC.2 k hk
  have c40 : ((40 : Int32) ≤ nI O.length) = False := by rw [show (40 : Int32) = nI 40 from rfl, nIle (by omega) (by omega)]; simp; omega
  simp only [l0, q1, m0, g7, m8, cl_n (show k ≤ 100000 by omega), vp_n (show k < 666 by omega) (show 666 ≤ 100000 by omega), z7, o1, q6, l17, c40, cl_n (show O.length ≤ 100000 by omega), vp_n (show O.length < 40 by omega) (show 40 ≤ 100000 by omega), nI_1, false_imp_iff, Option.some.injEq, Prod.mk.injEq, exists_eq_left', exists_eq_left, true_and, and_true, and_self, true_or, or_true, forall_const, exists_const, exists_and_left, wcat, Nat.zero_le, Nat.reduceLeDiff, Int32.lt_irrefl, not_false_eq_true, Nat.zero_add, forall_eq, gI_uI, gL_uL, gR_uR, gI_uL, gI_uR, gL_uI, gL_uR, gR_uI, gR_uL, true_and, and_true, Nat.add_right_cancel_iff, Nat.add_left_cancel_iff, Nat.reduceEqDiff, Nat.left_eq_add, Nat.right_eq_add, Nat.add_eq_left, Nat.add_eq_right, Nat.reduceAdd, Nat.succ_ne_self, reduceCtorEq, false_and, and_false, if_false, if_true, ite_true, ite_false, ite_self, Nat.succ_ne_zero, Nat.add_one_ne_zero, not_false_eq_true, not_true_eq_false, Nat.one_ne_zero, Nat.zero_ne_one]
  refine ⟨fun c => kV_i (hf S ?_ Fr.rf), fun c => kV_i (hf _ ?_ ((Fr.rf.uI (by omega) (by omega)).uI (by omega) (by omega)))⟩
  · rw [if_pos (show pLeft _ ≤ 0 from c)]; exact h0
  · rw [if_neg (show ¬ pLeft _ ≤ 0 from c)]
    refine ⟨⟨l0, l1, l13, l14, l15, l16, l17⟩, hR', ?_, fun p hp => ?_, ⟨?_, ?_, fun i hi => ?_⟩, ⟨x1, ?_, fun t ht => ?_, fun t ht => ?_, fun t ht => ?_, fun t ht => ?_⟩, fun i hi => ?_⟩
    · exact (hG'.fr (Fr.rf.uI (lo := B + 17) (hi := B + 18) (by omega) (by omega)) (by omega)).fr (Fr.rf.uI (lo := B) (hi := B + 1) (by omega) (by omega)) (by omega)
    · exact ((hH p hp).fr (Fr.rf.uI (lo := B + 17) (hi := B + 18) (by omega) (by omega)) (by omega)).fr (Fr.rf.uI (lo := B) (hi := B + 1) (by omega) (by omega)) (by omega)
    · simp only [gI_uI, gL_uL, gR_uR, gI_uL, gI_uR, gL_uI, gL_uR, gR_uI, gR_uL, true_and, and_true, Nat.add_right_cancel_iff, Nat.add_left_cancel_iff, Nat.reduceEqDiff, Nat.left_eq_add, Nat.right_eq_add, Nat.add_eq_left, Nat.add_eq_right, Nat.reduceAdd, Nat.succ_ne_self, reduceCtorEq, false_and, and_false, if_false, if_true, ite_true, ite_false, ite_self, Nat.succ_ne_zero, Nat.add_one_ne_zero, not_false_eq_true, not_true_eq_false, Nat.one_ne_zero, Nat.zero_ne_one, List.length_append, List.length_singleton]
    · simp only [List.length_append, List.length_singleton]; omega
    · simp only [List.length_append, List.length_singleton] at hi
      by_cases e : i = O.length
      · subst e; simp only [gI_uI, gL_uL, gR_uR, gI_uL, gI_uR, gL_uI, gL_uR, gR_uI, gR_uL, true_and, and_true, Nat.add_right_cancel_iff, Nat.add_left_cancel_iff, Nat.reduceEqDiff, Nat.left_eq_add, Nat.right_eq_add, Nat.add_eq_left, Nat.add_eq_right, Nat.reduceAdd, Nat.succ_ne_self, reduceCtorEq, false_and, and_false, if_false, if_true, ite_true, ite_false, ite_self, Nat.succ_ne_zero, Nat.add_one_ne_zero, not_false_eq_true, not_true_eq_false, Nat.one_ne_zero, Nat.zero_ne_one, ot_end]
      · simp only [gI_uI, gL_uL, gR_uR, gI_uL, gI_uR, gL_uI, gL_uR, gR_uI, gR_uL, true_and, and_true, Nat.add_right_cancel_iff, Nat.add_left_cancel_iff, Nat.reduceEqDiff, Nat.left_eq_add, Nat.right_eq_add, Nat.add_eq_left, Nat.add_eq_right, Nat.reduceAdd, Nat.succ_ne_self, reduceCtorEq, false_and, and_false, if_false, if_true, ite_true, ite_false, ite_self, Nat.succ_ne_zero, Nat.add_one_ne_zero, not_false_eq_true, not_true_eq_false, Nat.one_ne_zero, Nat.zero_ne_one, e, ot_app (show i < O.length by omega)]; exact o3 i (by omega)
    · simp only [gI_uI, gL_uL, gR_uR, gI_uL, gI_uR, gL_uI, gL_uR, gR_uI, gR_uL, true_and, and_true, Nat.add_right_cancel_iff, Nat.add_left_cancel_iff, Nat.reduceEqDiff, Nat.left_eq_add, Nat.right_eq_add, Nat.add_eq_left, Nat.add_eq_right, Nat.reduceAdd, Nat.succ_ne_self, reduceCtorEq, false_and, and_false, if_false, if_true, ite_true, ite_false, ite_self, Nat.succ_ne_zero, Nat.add_one_ne_zero, not_false_eq_true, not_true_eq_false, Nat.one_ne_zero, Nat.zero_ne_one]; exact x2
    · simp only [gI_uI, gL_uL, gR_uR, gI_uL, gI_uR, gL_uI, gL_uR, gR_uI, gR_uL, true_and, and_true, Nat.add_right_cancel_iff, Nat.add_left_cancel_iff, Nat.reduceEqDiff, Nat.left_eq_add, Nat.right_eq_add, Nat.add_eq_left, Nat.add_eq_right, Nat.reduceAdd, Nat.succ_ne_self, reduceCtorEq, false_and, and_false, if_false, if_true, ite_true, ite_false, ite_self, Nat.succ_ne_zero, Nat.add_one_ne_zero, not_false_eq_true, not_true_eq_false, Nat.one_ne_zero, Nat.zero_ne_one]; exact x3 t ht
    · simp only [gI_uI, gL_uL, gR_uR, gI_uL, gI_uR, gL_uI, gL_uR, gR_uI, gR_uL, true_and, and_true, Nat.add_right_cancel_iff, Nat.add_left_cancel_iff, Nat.reduceEqDiff, Nat.left_eq_add, Nat.right_eq_add, Nat.add_eq_left, Nat.add_eq_right, Nat.reduceAdd, Nat.succ_ne_self, reduceCtorEq, false_and, and_false, if_false, if_true, ite_true, ite_false, ite_self, Nat.succ_ne_zero, Nat.add_one_ne_zero, not_false_eq_true, not_true_eq_false, Nat.one_ne_zero, Nat.zero_ne_one]; exact x4 t ht
    · simp only [gI_uI, gL_uL, gR_uR, gI_uL, gI_uR, gL_uI, gL_uR, gR_uI, gR_uL, true_and, and_true, Nat.add_right_cancel_iff, Nat.add_left_cancel_iff, Nat.reduceEqDiff, Nat.left_eq_add, Nat.right_eq_add, Nat.add_eq_left, Nat.add_eq_right, Nat.reduceAdd, Nat.succ_ne_self, reduceCtorEq, false_and, and_false, if_false, if_true, ite_true, ite_false, ite_self, Nat.succ_ne_zero, Nat.add_one_ne_zero, not_false_eq_true, not_true_eq_false, Nat.one_ne_zero, Nat.zero_ne_one]; exact x5 t ht
    · simp only [gI_uI, gL_uL, gR_uR, gI_uL, gI_uR, gL_uI, gL_uR, gR_uI, gR_uL, true_and, and_true, Nat.add_right_cancel_iff, Nat.add_left_cancel_iff, Nat.reduceEqDiff, Nat.left_eq_add, Nat.right_eq_add, Nat.add_eq_left, Nat.add_eq_right, Nat.reduceAdd, Nat.succ_ne_self, reduceCtorEq, false_and, and_false, if_false, if_true, ite_true, ite_false, ite_self, Nat.succ_ne_zero, Nat.add_one_ne_zero, not_false_eq_true, not_true_eq_false, Nat.one_ne_zero, Nat.zero_ne_one]; exact x6 t ht
    · simp only [List.length_append, List.length_singleton] at hi
      by_cases e : i = O.length
      · subst e; rw [ot_end]; exact hk
      · rw [ot_app (by omega)]; exact hO i (by omega)
/-- the piece is open still -/
def opn (G : List CPie) (k : Nat) : Bool := decide (¬ pLeft (pt G k).2 ≤ 0)
theorem take_f {O : List Nat} {g : Nat → Bool} {o : Nat} (h : o < O.length) : (O.take (o + 1)).filter g = (O.take o).filter g ++ (if g (ot O o) = true then [ot O o] else []) := by
  rw [List.take_succ, List.getElem?_eq_getElem h, Option.toList_some, List.filter_append]
  have : ot O o = O[o] := by simp [ot, List.getElem?_eq_getElem h]
  rw [this]
  by_cases c : g O[o] = true
  · simp [c]
  · simp [c]
set_option maxRecDepth 20000 in
set_option maxHeartbeats 1000000 in
theorem ct_dropClosed {f : qS → Prop} (h : BkAt A S B H G O z E) (hf : ∀ S', BkAt A S' B H G (O.filter (opn G)) z E → Fr S S' B (B + 144) → f S') : Run (d + 1) 9 [.ref B] A S (kV A f) := by
  refine Run.i (C := mX0_dropClosed) rfl rfl rfl fun J hJ => ?_
  obtain ⟨⟨l0, l1, l13, l14, l15, l16, l17⟩, hR, hG, hH, ⟨o1, o2, o3⟩, ⟨x1, x2, x3, x4, x5, x6⟩, hO⟩ := h
  have hR' := hR
  obtain ⟨q0, q1, q2, q3, q4, q5, q6, q7⟩ := hR
  have hG' := hG
  obtain ⟨⟨m0, m1, m2, m3, m4, m5, m6, m7, m8, m9, m10⟩, ⟨g0, g1, g2, g3, g4, g5, g6, g7, g8, g9⟩, hC, g10⟩ := hG
  have loop : ∀ n o (F : List Nat) (Sj : qS), o + n = O.length → F = (O.take o).filter (opn G) → F.length ≤ o → Fr S Sj (B + 17) (B + 18) → (∀ i, i < F.length → gI Sj (B + 17) i = nI (ot F i)) → (∀ i, o ≤ i → i < O.length → gI Sj (B + 17) i = nI (ot O i)) → J 4 [some (.ref B), some (.int (nI F.length)), some (.int (nI o))] [] A Sj := by
    intro n
    induction n with
    | zero =>
      intro o F Sj ho hF hFl hr hd hu
      refine sX0_dropClosed_4 hJ ?_
      have e7 : gI Sj B 7 = nI O.length := (hr B (by omega) 7).1.trans o1
      simp only [l0, e7, nIle (show O.length ≤ 100000 by omega) (show o ≤ 100000 by omega), Option.some.injEq, Prod.mk.injEq, exists_eq_left', exists_eq_left, true_and, and_true, and_self, true_or, or_true, forall_const, exists_const, exists_and_left, wcat, Nat.zero_le, Nat.reduceLeDiff, Int32.lt_irrefl, not_false_eq_true, Nat.zero_add, forall_eq]
      refine ⟨fun _ => kV_i (hf _ ?_ ((hr.wide (by omega) (by omega)).uI (by omega) (by omega))), fun c => absurd (by omega) c⟩
      have hFO : F = O.filter (opn G) := by rw [hF, List.take_of_length_le (by omega)]
      rw [← hFO]
      have r2 : Fr Sj (uI Sj B 7 (nI F.length)) B (B + 1) := Fr.rf.uI (by omega) (by omega)
      refine ⟨⟨l0, l1, l13, l14, l15, l16, l17⟩, (hR'.fr (fun k => (hr B (by omega) k).2.2) (fun k => (hr (B + 1) (by omega) k).2.2)), (hG'.fr hr (by omega)).fr r2 (by omega), fun p hp => ((hH p hp).fr hr (by omega)).fr r2 (by omega), ⟨?_, by omega, fun i hi => ?_⟩, ⟨(hr B (by omega) 8).2.1.trans x1, ?_, fun t ht => ?_, fun t ht => ?_, fun t ht => ?_, fun t ht => ?_⟩, fun i hi => ?_⟩
      · simp only [gI_uI, gL_uL, gR_uR, gI_uL, gI_uR, gL_uI, gL_uR, gR_uI, gR_uL, true_and, and_true, Nat.add_right_cancel_iff, Nat.add_left_cancel_iff, Nat.reduceEqDiff, Nat.left_eq_add, Nat.right_eq_add, Nat.add_eq_left, Nat.add_eq_right, Nat.reduceAdd, Nat.succ_ne_self, reduceCtorEq, false_and, and_false, if_false, if_true, ite_true, ite_false, ite_self, Nat.succ_ne_zero, Nat.add_one_ne_zero, not_false_eq_true, not_true_eq_false, Nat.one_ne_zero, Nat.zero_ne_one]
      · simp only [gI_uI, gL_uL, gR_uR, gI_uL, gI_uR, gL_uI, gL_uR, gR_uI, gR_uL, true_and, and_true, Nat.add_right_cancel_iff, Nat.add_left_cancel_iff, Nat.reduceEqDiff, Nat.left_eq_add, Nat.right_eq_add, Nat.add_eq_left, Nat.add_eq_right, Nat.reduceAdd, Nat.succ_ne_self, reduceCtorEq, false_and, and_false, if_false, if_true, ite_true, ite_false, ite_self, Nat.succ_ne_zero, Nat.add_one_ne_zero, not_false_eq_true, not_true_eq_false, Nat.one_ne_zero, Nat.zero_ne_one]; exact hd i hi
      · simp only [gI_uI, gL_uL, gR_uR, gI_uL, gI_uR, gL_uI, gL_uR, gR_uI, gR_uL, true_and, and_true, Nat.add_right_cancel_iff, Nat.add_left_cancel_iff, Nat.reduceEqDiff, Nat.left_eq_add, Nat.right_eq_add, Nat.add_eq_left, Nat.add_eq_right, Nat.reduceAdd, Nat.succ_ne_self, reduceCtorEq, false_and, and_false, if_false, if_true, ite_true, ite_false, ite_self, Nat.succ_ne_zero, Nat.add_one_ne_zero, not_false_eq_true, not_true_eq_false, Nat.one_ne_zero, Nat.zero_ne_one]; exact (hr B (by omega) 9).1.trans x2
      · simp only [gI_uI, gL_uL, gR_uR, gI_uL, gI_uR, gL_uI, gL_uR, gR_uI, gR_uL, true_and, and_true, Nat.add_right_cancel_iff, Nat.add_left_cancel_iff, Nat.reduceEqDiff, Nat.left_eq_add, Nat.right_eq_add, Nat.add_eq_left, Nat.add_eq_right, Nat.reduceAdd, Nat.succ_ne_self, reduceCtorEq, false_and, and_false, if_false, if_true, ite_true, ite_false, ite_self, Nat.succ_ne_zero, Nat.add_one_ne_zero, not_false_eq_true, not_true_eq_false, Nat.one_ne_zero, Nat.zero_ne_one]; exact (hr (B + 13) (by omega) t).1.trans (x3 t ht)
      · simp only [gI_uI, gL_uL, gR_uR, gI_uL, gI_uR, gL_uI, gL_uR, gR_uI, gR_uL, true_and, and_true, Nat.add_right_cancel_iff, Nat.add_left_cancel_iff, Nat.reduceEqDiff, Nat.left_eq_add, Nat.right_eq_add, Nat.add_eq_left, Nat.add_eq_right, Nat.reduceAdd, Nat.succ_ne_self, reduceCtorEq, false_and, and_false, if_false, if_true, ite_true, ite_false, ite_self, Nat.succ_ne_zero, Nat.add_one_ne_zero, not_false_eq_true, not_true_eq_false, Nat.one_ne_zero, Nat.zero_ne_one]; exact (hr (B + 14) (by omega) t).1.trans (x4 t ht)
      · simp only [gI_uI, gL_uL, gR_uR, gI_uL, gI_uR, gL_uI, gL_uR, gR_uI, gR_uL, true_and, and_true, Nat.add_right_cancel_iff, Nat.add_left_cancel_iff, Nat.reduceEqDiff, Nat.left_eq_add, Nat.right_eq_add, Nat.add_eq_left, Nat.add_eq_right, Nat.reduceAdd, Nat.succ_ne_self, reduceCtorEq, false_and, and_false, if_false, if_true, ite_true, ite_false, ite_self, Nat.succ_ne_zero, Nat.add_one_ne_zero, not_false_eq_true, not_true_eq_false, Nat.one_ne_zero, Nat.zero_ne_one]; exact (hr (B + 15) (by omega) t).1.trans (x5 t ht)
      · simp only [gI_uI, gL_uL, gR_uR, gI_uL, gI_uR, gL_uI, gL_uR, gR_uI, gR_uL, true_and, and_true, Nat.add_right_cancel_iff, Nat.add_left_cancel_iff, Nat.reduceEqDiff, Nat.left_eq_add, Nat.right_eq_add, Nat.add_eq_left, Nat.add_eq_right, Nat.reduceAdd, Nat.succ_ne_self, reduceCtorEq, false_and, and_false, if_false, if_true, ite_true, ite_false, ite_self, Nat.succ_ne_zero, Nat.add_one_ne_zero, not_false_eq_true, not_true_eq_false, Nat.one_ne_zero, Nat.zero_ne_one]; exact (hr (B + 16) (by omega) t).1.trans (x6 t ht)
      · have hm : ot F i ∈ O := by
          have : ot F i ∈ F := by rw [ot, List.getD_eq_getElem?_getD, List.getElem?_eq_getElem hi, Option.getD_some]; exact List.getElem_mem hi
          have hs : ∀ x, x ∈ F → x ∈ O := fun x hx => by rw [hFO] at hx; exact (List.mem_filter.mp hx).1
          exact hs _ this
        obtain ⟨j, hj, e⟩ := List.mem_iff_getElem.mp hm
        have := hO j hj
        rw [ot, List.getD_eq_getElem?_getD, List.getElem?_eq_getElem hj, Option.getD_some, e] at this
        exact this
    | succ n ih =>
      intro o F Sj ho hF hFl hr hd hu
      refine sX0_dropClosed_4 hJ ?_
      have e7 : gI Sj B 7 = nI O.length := (hr B (by omega) 7).1.trans o1
      have ko := hO o (by omega)
      have q1' : gR Sj B 1 = some (B + 2) := (hr B (by omega) 1).2.2.trans q1
      have q6' : gR Sj B 6 = some (B + 17) := (hr B (by omega) 6).2.2.trans q6
      have g7' : gR Sj (B + 2) 7 = some (B + 2 + 8) := (hr (B + 2) (by omega) 7).2.2.trans g7
      have z7 : gI Sj (B + 2 + 8) (ot O o) = pLeft (pt G (ot O o)).2 := (hr (B + 2 + 8) (by omega) _).1.trans (hC.2 _ ko).2.2.2.2.2.2.2.1
      have tf := take_f (g := opn G) (show o < O.length by omega)
      rw [← hF] at tf
      simp only [l0, e7, nIle (show O.length ≤ 100000 by omega) (show o ≤ 100000 by omega), q1', q6', g7', m0, m8, l17, cl_n (show o ≤ 100000 by omega), vp_n (show o < 40 by omega) (show 40 ≤ 100000 by omega), hu o (by omega) (by omega), cl_n (show ot O o ≤ 100000 by omega), vp_n (show ot O o < 666 by omega) (show 666 ≤ 100000 by omega), z7, cl_n (show F.length ≤ 100000 by omega), vp_n (show F.length < 40 by omega) (show 40 ≤ 100000 by omega), nI_1, Option.some.injEq, Prod.mk.injEq, exists_eq_left', exists_eq_left, true_and, and_true, and_self, true_or, or_true, forall_const, exists_const, exists_and_left, wcat, Nat.zero_le, Nat.reduceLeDiff, Int32.lt_irrefl, not_false_eq_true, Nat.zero_add, forall_eq]
      refine ⟨fun c => absurd c (by omega), fun _ => ⟨fun c => ih (o + 1) F Sj (by omega) ?_ (by omega) hr hd (fun i h1 h2 => hu i (by omega) h2), fun c => ?_⟩⟩
      · rw [tf, if_neg (by simp only [opn, decide_eq_true_eq]; exact fun w => w c), List.append_nil]
      · have := ih (o + 1) (F ++ [ot O o]) (uI Sj (B + 17) F.length (nI (ot O o))) (by omega) (by rw [tf, if_pos (by simp only [opn, decide_eq_true_eq]; exact c)]) (by simp only [List.length_append, List.length_singleton]; omega) (hr.uI (by omega) (by omega)) (fun i hi => ?_) (fun i h1 h2 => ?_)
        · rw [List.length_append, List.length_singleton] at this
          exact this
        · simp only [List.length_append, List.length_singleton] at hi
          by_cases e : i = F.length
          · subst e; simp only [gI_uI, gL_uL, gR_uR, gI_uL, gI_uR, gL_uI, gL_uR, gR_uI, gR_uL, true_and, and_true, Nat.add_right_cancel_iff, Nat.add_left_cancel_iff, Nat.reduceEqDiff, Nat.left_eq_add, Nat.right_eq_add, Nat.add_eq_left, Nat.add_eq_right, Nat.reduceAdd, Nat.succ_ne_self, reduceCtorEq, false_and, and_false, if_false, if_true, ite_true, ite_false, ite_self, Nat.succ_ne_zero, Nat.add_one_ne_zero, not_false_eq_true, not_true_eq_false, Nat.one_ne_zero, Nat.zero_ne_one, ot_end]
          · simp only [gI_uI, gL_uL, gR_uR, gI_uL, gI_uR, gL_uI, gL_uR, gR_uI, gR_uL, true_and, and_true, Nat.add_right_cancel_iff, Nat.add_left_cancel_iff, Nat.reduceEqDiff, Nat.left_eq_add, Nat.right_eq_add, Nat.add_eq_left, Nat.add_eq_right, Nat.reduceAdd, Nat.succ_ne_self, reduceCtorEq, false_and, and_false, if_false, if_true, ite_true, ite_false, ite_self, Nat.succ_ne_zero, Nat.add_one_ne_zero, not_false_eq_true, not_true_eq_false, Nat.one_ne_zero, Nat.zero_ne_one, e, ot_app (show i < F.length by omega)]; exact hd i (by omega)
        · have e : i ≠ F.length := by omega
          simp only [gI_uI, gL_uL, gR_uR, gI_uL, gI_uR, gL_uI, gL_uR, gR_uI, gR_uL, true_and, and_true, Nat.add_right_cancel_iff, Nat.add_left_cancel_iff, Nat.reduceEqDiff, Nat.left_eq_add, Nat.right_eq_add, Nat.add_eq_left, Nat.add_eq_right, Nat.reduceAdd, Nat.succ_ne_self, reduceCtorEq, false_and, and_false, if_false, if_true, ite_true, ite_false, ite_self, Nat.succ_ne_zero, Nat.add_one_ne_zero, not_false_eq_true, not_true_eq_false, Nat.one_ne_zero, Nat.zero_ne_one, e]
          exact hu i (by omega) h2
  have := loop O.length 0 [] S (by omega) (by simp) (by simp) Fr.rf (fun i hi => absurd hi (by simp)) (fun i _ hi => o3 i hi)
  exact sX0_dropClosed_0 hJ this
end
