/-! Book.bookSell -/
theorem pick_lt {L : List Lot} {rule : Int32} (h : 0 < L.length) : pick L rule < L.length := by
  unfold pick
  have := bst_le L rule (L.length - 1)
  split
  · exact h
  · split <;> omega
/-- the lots that a sell takes, those that stay -/
def sellGo (rule : Int32) : Nat → Int32 → List Lot → List Lot × List Lot
  | 0, _, L => ([], L)
  | n + 1, w, L => if w ≤ 0 then ([], L) else if L.length = 0 then ([], L) else (lt (partIf L (pick L rule) w) (pick L rule) :: (sellGo rule n (w - (lt (partIf L (pick L rule) w) (pick L rule)).1) ((partIf L (pick L rule) w).eraseIdx (pick L rule))).1, (sellGo rule n (w - (lt (partIf L (pick L rule) w) (pick L rule)).1) ((partIf L (pick L rule) w).eraseIdx (pick L rule))).2)
theorem sellGo_stop {rule w : Int32} {n : Nat} {L : List Lot} (h : w ≤ 0) : sellGo rule n w L = ([], L) := by
  cases n with
  | zero => rfl
  | succ n => rw [sellGo, if_pos h]
theorem sellGo_len (rule : Int32) : ∀ n w L, (sellGo rule n w L).1.length + (sellGo rule n w L).2.length ≤ L.length + 1 ∧ (sellGo rule n w L).1.length ≤ L.length := by
  intro n
  induction n with
  | zero => intro w L; simp [sellGo]
  | succ n ih =>
    intro w L
    rw [sellGo]
    by_cases c : w ≤ 0
    · simp [if_pos c]
    · rw [if_neg c]
      by_cases c1 : L.length = 0
      · rw [if_pos c1]; simp
      · rw [if_neg c1]
        have hp := pick_lt (L := L) (rule := rule) (by omega)
        by_cases c2 : ¬ w ≤ 0 ∧ w < (lt L (pick L rule)).1
        · have e : partIf L (pick L rule) w = partL L (pick L rule) w := if_pos c2
          have e1 : (lt (partL L (pick L rule) w) (pick L rule)).1 = w := by rw [lt_part hp, if_neg (by omega), if_pos rfl]; rfl
          rw [e, e1, i32_subself, sellGo_stop (by decide)]
          simp only [List.length_cons, List.length_nil]
          rw [List.length_eraseIdx_of_lt (by rw [partL_len hp]; omega), partL_len hp]
          omega
        · have e : partIf L (pick L rule) w = L := if_neg c2
          rw [e]
          have := ih (w - (lt L (pick L rule)).1) (L.eraseIdx (pick L rule))
          rw [List.length_eraseIdx_of_lt hp] at this
          simp only [List.length_cons]
          omega
theorem rbl_stop {w day : Int32} {n i : Nat} {p : Pie} {L : List Lot} (h : pLeft p ≤ 0) : rbl w day n i p L = (p, L) := by
  cases n with
  | zero => rfl
  | succ n => rw [rbl, if_pos h]; split <;> rfl
theorem rbl_len (w day : Int32) : ∀ n i p L, (pLeft (rbl w day n i p L).1 ≤ 0 ∧ (rbl w day n i p L).2.length ≤ L.length + 1) ∨ (rbl w day n i p L).2.length = L.length := by
  intro n
  induction n with
  | zero => intro i p L; exact Or.inr rfl
  | succ n ih =>
    intro i p L
    rw [rbl]
    by_cases c : L.length ≤ i
    · rw [if_pos c]; exact Or.inr rfl
    · rw [if_neg c]
      by_cases c1 : pLeft p ≤ 0
      · rw [if_pos c1]; exact Or.inr rfl
      · rw [if_neg c1]
        split
        · exact ih _ _ _
        · split
          · exact ih _ _ _
          · rcases repL_len (p := p) (L := L) (i := i) (by omega) with e | e
            · rw [rbl_stop e.1]; exact Or.inl e
            · rw [← e]; exact ih _ _ _
/-- the pieces of a sell, from k on: the lots left replace, what is open is noted -/
def nwGo (w day : Int32) : Nat → Nat → List CPie → List Lot → List Nat → List CPie × List Lot × List Nat
  | 0, _, G, L, O => (G, L, O)
  | n + 1, k, G, L, O => nwGo w day n (k + 1) (G.set k ((pt G k).1, (rbl w day 40 0 (pt G k).2 L).1)) (rbl w day 40 0 (pt G k).2 L).2 (if pLeft (rbl w day 40 0 (pt G k).2 L).1 ≤ 0 then O else O ++ [k])
def soldP (pa : Nat) (day pr : Int32) (l : Lot) : CPie := (nI pa, newPie day l pr)
def upF (g : Nat → Int32) (t : Nat) (v : Int32) : Nat → Int32 := fun j => if j = t then v else g j
theorem nI_subl {a b : Nat} : nI (a + b) - nI a = nI b := by
  induction b with
  | zero => rw [Nat.add_zero, i32_subself]; rfl
  | succ b ih =>
    rw [← nI_1, ← ih, ← Nat.add_assoc, ← nI_1]
    apply Int32.toBitVec_inj.mp
    simp only [Int32.toBitVec_sub, Int32.toBitVec_add]
    rw [BitVec.sub_eq_add_neg, BitVec.sub_eq_add_neg, BitVec.add_assoc, BitVec.add_assoc, BitVec.add_comm _ (-_)]
theorem BkAt.pie {A : qA} {S S' : qS} {B : Nat} {H : Nat → List Lot} {G G' : List CPie} {O : List Nat} {z : Int64} {E : BkE} (h : BkAt A S B H G O z E) (hf : Fr S S' (B + 2) (B + 2 + 11)) (hG' : PiAt A S' (B + 2) G') (hl : G.length ≤ G'.length) : BkAt A S' B H G' O z E := by
  obtain ⟨hL, hR, hG, hH, ⟨o1, o2, o3⟩, ⟨x1, x2, x3, x4, x5, x6⟩, hO⟩ := h
  have e : ∀ c, c < 2 ∨ 13 ≤ c → ∀ k, gI S' (B + c) k = gI S (B + c) k := fun c hc k => (hf _ (by omega) k).1
  have el : ∀ k, gL S' B k = gL S B k := fun k => (hf _ (by omega) k).2.1
  exact ⟨hL, hR.fr (fun k => (hf _ (by omega) k).2.2) (fun k => (hf _ (by omega) k).2.2), hG', fun p hp => (hH p hp).fr hf (by omega), ⟨(e 0 (by omega) 7).trans o1, o2, fun i hi => (e 17 (by omega) i).trans (o3 i hi)⟩, ⟨(el 8).trans x1, (e 0 (by omega) 9).trans x2, fun t ht => (e 13 (by omega) t).trans (x3 t ht), fun t ht => (e 14 (by omega) t).trans (x4 t ht), fun t ht => (e 15 (by omega) t).trans (x5 t ht), fun t ht => (e 16 (by omega) t).trans (x6 t ht)⟩, fun i hi => Nat.lt_of_lt_of_le (hO i hi) hl⟩
theorem BkAt.fp {A : qA} {S : qS} {B t : Nat} {v : Int32} {H : Nat → List Lot} {G : List CPie} {O : List Nat} {z : Int64} {E : BkE} (h : BkAt A S B H G O z E) : BkAt A (uI S (B + 13) t v) B H G O z (E.1, upF E.2.1 t v, E.2.2) := by
  obtain ⟨hL, hR, hG, hH, ⟨o1, o2, o3⟩, ⟨x1, x2, x3, x4, x5, x6⟩, hO⟩ := h
  have hf : Fr S (uI S (B + 13) t v) (B + 13) (B + 14) := Fr.rf.uI (by omega) (by omega)
  refine ⟨hL, hR, hG.fr hf (by omega), fun p hp => (hH p hp).fr hf (by omega), ⟨?_, o2, fun i hi => ?_⟩, ⟨x1, ?_, fun j hj => ?_, fun t ht => ?_, fun t ht => ?_, fun t ht => ?_⟩, hO⟩
  all_goals simp only [gI_uI, gL_uL, gR_uR, gI_uL, gI_uR, gL_uI, gL_uR, gR_uI, gR_uL, true_and, and_true, Nat.add_right_cancel_iff, Nat.add_left_cancel_iff, Nat.reduceEqDiff, Nat.left_eq_add, Nat.right_eq_add, Nat.add_eq_left, Nat.add_eq_right, Nat.reduceAdd, Nat.succ_ne_self, reduceCtorEq, false_and, and_false, if_false, if_true, ite_true, ite_false, ite_self, Nat.succ_ne_zero, Nat.add_one_ne_zero, not_false_eq_true, not_true_eq_false, Nat.one_ne_zero, Nat.zero_ne_one]
  · exact o1
  · exact o3 i hi
  · exact x2
  · unfold upF
    split
    · rfl
    · exact x3 j hj
  · exact x4 t ht
  · exact x5 t ht
  · exact x6 t ht
theorem BkAt.pc {A : qA} {S : qS} {B t : Nat} {v : Int32} {H : Nat → List Lot} {G : List CPie} {O : List Nat} {z : Int64} {E : BkE} (h : BkAt A S B H G O z E) : BkAt A (uI S (B + 14) t v) B H G O z (E.1, E.2.1, upF E.2.2.1 t v, E.2.2.2) := by
  obtain ⟨hL, hR, hG, hH, ⟨o1, o2, o3⟩, ⟨x1, x2, x3, x4, x5, x6⟩, hO⟩ := h
  have hf : Fr S (uI S (B + 14) t v) (B + 14) (B + 15) := Fr.rf.uI (by omega) (by omega)
  refine ⟨hL, hR, hG.fr hf (by omega), fun p hp => (hH p hp).fr hf (by omega), ⟨?_, o2, fun i hi => ?_⟩, ⟨x1, ?_, fun j hj => ?_, fun j hj => ?_, fun t ht => ?_, fun t ht => ?_⟩, hO⟩
  all_goals simp only [gI_uI, gL_uL, gR_uR, gI_uL, gI_uR, gL_uI, gL_uR, gR_uI, gR_uL, true_and, and_true, Nat.add_right_cancel_iff, Nat.add_left_cancel_iff, Nat.reduceEqDiff, Nat.left_eq_add, Nat.right_eq_add, Nat.add_eq_left, Nat.add_eq_right, Nat.reduceAdd, Nat.succ_ne_self, reduceCtorEq, false_and, and_false, if_false, if_true, ite_true, ite_false, ite_self, Nat.succ_ne_zero, Nat.add_one_ne_zero, not_false_eq_true, not_true_eq_false, Nat.one_ne_zero, Nat.zero_ne_one]
  · exact o1
  · exact o3 i hi
  · exact x2
  · exact x3 j hj
  · unfold upF
    split
    · rfl
    · exact x4 j hj
  · exact x5 t ht
  · exact x6 t ht
