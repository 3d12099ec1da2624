/-! the reference's parser: the lines of unsure prices -/
def stG (g : Nat → Int32) (t : Int32) : Nat → Bool
  | 0 => false
  | i + 1 => stG g t i || decide (g i = t)
def stB (L : List (Int32 × Int32)) (t : Int32) : Bool := stG (fun i => (ug L i).1) t L.length
def stP (L : List (Int32 × Int32)) (t : Int32) (p : Psr) : Psr := if stB L t = true then flw 3 p else p
theorem flw_id {k : Int32} {p : Psr} (h : p.1.2.1 = 5) : flw k p = p := if_pos h
theorem gon_id {tp : Nat → Int32} {n : Nat} {p : Psr} (h : p.1.2.1 = 5) : gon tp n p = p := if_pos h
theorem whP_id {lo hi : Int32} {p : Psr} (h : p.1.2.1 = 5) : whP lo hi p = p := by rw [whP, if_neg (by rw [h]; decide), flw_id h]
theorem stP_id {L : List (Int32 × Int32)} {t : Int32} {p : Psr} (h : p.1.2.1 = 5) : stP L t p = p := by
  rw [stP]
  split
  · exact flw_id h
  · rfl
theorem stP_1 {L : List (Int32 × Int32)} {t : Int32} {p : Psr} : (stP L t p).1.1 = p.1.1 := by
  rw [stP]
  split
  · exact flw_1
  · rfl
theorem tdP_1 {T : List Row} {a b : Int32} {p : Psr} : (tdP T a b p).1.1 = p.1.1 := by
  rw [tdP]
  split
  · rfl
  · split
    · exact flw_1
    · exact flw_1
theorem gon_n5 {tp : Nat → Int32} {n : Nat} {p : Psr} (h : ¬ (gon tp n p).1.2.1 = 5) : ¬ p.1.2.1 = 5 := fun c => h (by rw [gon_id c]; exact c)
theorem whP_n5 {lo hi : Int32} {p : Psr} (h : ¬ (whP lo hi p).1.2.1 = 5) : p.1.2.1 = 3 ∧ inB p.1.2.2.2.1 lo hi = true := by
  by_cases c : p.1.2.1 = 3
  · by_cases c1 : inB p.1.2.2.2.1 lo hi = true
    · exact ⟨c, c1⟩
    · rw [whP, if_pos c, if_neg c1] at h
      exact absurd flw_5 h
  · rw [whP, if_neg c] at h
    exact absurd flw_5 h
theorem rdw_n5 {tp : Nat → Int32} {n : Nat} {lo hi : Int32} {p : Psr} (h : ¬ (gon tp n (whP lo hi p)).1.2.1 = 5) : p.1.2.1 = 3 ∧ inB p.1.2.2.2.1 lo hi = true := whP_n5 (gon_n5 h)
theorem stP_n5 {L : List (Int32 × Int32)} {t : Int32} {p : Psr} (h : ¬ (stP L t p).1.2.1 = 5) : stB L t = false ∧ ¬ p.1.2.1 = 5 := by
  cases c : stB L t
  · rw [stP, if_neg (by rw [c]; decide)] at h
    exact ⟨rfl, h⟩
  · rw [stP, if_pos c] at h
    exact absurd flw_5 h
theorem tdP_n5 {T : List Row} {a b : Int32} {p : Psr} (h : ¬ (tdP T a b p).1.2.1 = 5) : tdY T a b p = true := by
  cases c : tdY T a b p
  · rw [tdP, if_neg (by rw [c]; decide)] at h
    split at h
    · exact absurd flw_5 h
    · exact absurd flw_5 h
  · rfl
theorem lnP_n5 {tp : Nat → Int32} {n : Nat} {full bg : Bool} {p : Psr} (h : ¬ (lnP tp n full (bI bg) p).1.2.1 = 5) : full = false ∧ bg = true ∧ ¬ p.1.2.1 = 5 := by
  have h := gon_n5 h
  cases bg
  · rw [if_pos (by decide)] at h
    exact absurd flw_5 h
  · rw [if_neg (by decide)] at h
    cases full
    · rw [lnF, if_neg (by decide)] at h
      exact ⟨rfl, rfl, h⟩
    · rw [lnF, if_pos rfl] at h
      exact absurd flw_5 h
theorem ug_app {X : List (Int32 × Int32)} {x : Int32 × Int32} {i : Nat} (h : i < X.length) : ug (X ++ [x]) i = ug X i := by simp [ug, List.getElem?_append_left h]
theorem ug_end {X : List (Int32 × Int32)} {x : Int32 × Int32} : ug (X ++ [x]) X.length = x := by simp [ug]
def usT (P : Psr) (x : Int32 × Int32) (td : Tld) : Tld := if P.1.2.1 = 5 then td else (td.1, td.2.1, td.2.2.1 ++ [x], td.2.2.2)
def gnT (P : Psr) (x : Int32 × Int32) (td : Tld) : Tld := if P.1.2.1 = 5 then td else (td.1, td.2.1, td.2.2.1, td.2.2.2 ++ [x])
theorem RdAt.uns {A : qA} {S1 : qS} {m q : Nat} {bg : Bool} {td : Tld} {x : Int32 × Int32} (hr : RdAt A S1 m q bg td) : RdAt A (uI (uI (uI S1 (q + 2) td.2.2.1.length x.1) (q + 3) td.2.2.1.length x.2) q 2 (nI td.2.2.1.length + 1)) m q bg (td.1, td.2.1, td.2.2.1 ++ [x], td.2.2.2) := by
  obtain ⟨y1, y2, y3, yk, yr, z1, z2, z3, z4, z5, z6⟩ := hr
  refine ⟨y1, y2, ?_, yk, yr, ?_, ?_, ?_, z4.same fun k => ?_, fun i hi => ?_, fun i hi => ?_⟩
  · simp only [gI_uI, gL_uL, gR_uR, gI_uL, gI_uR, gL_uI, gL_uR, gR_uI, gR_uL, true_and, and_true, Nat.add_right_cancel_iff, Nat.add_left_cancel_iff, Nat.reduceEqDiff, Nat.left_eq_add, Nat.right_eq_add, Nat.add_eq_left, Nat.add_eq_right, Nat.reduceAdd, Nat.succ_ne_self, reduceCtorEq, false_and, and_false, if_false, if_true, ite_true, ite_false, ite_self, Nat.succ_ne_zero, Nat.add_one_ne_zero, not_false_eq_true, not_true_eq_false, Nat.one_ne_zero, Nat.zero_ne_one]; exact y3
  · simp only [gI_uI, gL_uL, gR_uR, gI_uL, gI_uR, gL_uI, gL_uR, gR_uI, gR_uL, true_and, and_true, Nat.add_right_cancel_iff, Nat.add_left_cancel_iff, Nat.reduceEqDiff, Nat.left_eq_add, Nat.right_eq_add, Nat.add_eq_left, Nat.add_eq_right, Nat.reduceAdd, Nat.succ_ne_self, reduceCtorEq, false_and, and_false, if_false, if_true, ite_true, ite_false, ite_self, Nat.succ_ne_zero, Nat.add_one_ne_zero, not_false_eq_true, not_true_eq_false, Nat.one_ne_zero, Nat.zero_ne_one]; exact z1
  · simp only [gI_uI, gL_uL, gR_uR, gI_uL, gI_uR, gL_uI, gL_uR, gR_uI, gR_uL, true_and, and_true, Nat.add_right_cancel_iff, Nat.add_left_cancel_iff, Nat.reduceEqDiff, Nat.left_eq_add, Nat.right_eq_add, Nat.add_eq_left, Nat.add_eq_right, Nat.reduceAdd, Nat.succ_ne_self, reduceCtorEq, false_and, and_false, if_false, if_true, ite_true, ite_false, ite_self, Nat.succ_ne_zero, Nat.add_one_ne_zero, not_false_eq_true, not_true_eq_false, Nat.one_ne_zero, Nat.zero_ne_one, List.length_append, List.length_singleton, nI_1]
  · simp only [gI_uI, gL_uL, gR_uR, gI_uL, gI_uR, gL_uI, gL_uR, gR_uI, gR_uL, true_and, and_true, Nat.add_right_cancel_iff, Nat.add_left_cancel_iff, Nat.reduceEqDiff, Nat.left_eq_add, Nat.right_eq_add, Nat.add_eq_left, Nat.add_eq_right, Nat.reduceAdd, Nat.succ_ne_self, reduceCtorEq, false_and, and_false, if_false, if_true, ite_true, ite_false, ite_self, Nat.succ_ne_zero, Nat.add_one_ne_zero, not_false_eq_true, not_true_eq_false, Nat.one_ne_zero, Nat.zero_ne_one]; exact z3
  · simp only [gI_uI, gL_uL, gR_uR, gI_uL, gI_uR, gL_uI, gL_uR, gR_uI, gR_uL, true_and, and_true, Nat.add_right_cancel_iff, Nat.add_left_cancel_iff, Nat.reduceEqDiff, Nat.left_eq_add, Nat.right_eq_add, Nat.add_eq_left, Nat.add_eq_right, Nat.reduceAdd, Nat.succ_ne_self, reduceCtorEq, false_and, and_false, if_false, if_true, ite_true, ite_false, ite_self, Nat.succ_ne_zero, Nat.add_one_ne_zero, not_false_eq_true, not_true_eq_false, Nat.one_ne_zero, Nat.zero_ne_one]
  · simp only [List.length_append, List.length_singleton] at hi
    by_cases e : i = td.2.2.1.length
    · subst e
      simp only [gI_uI, gL_uL, gR_uR, gI_uL, gI_uR, gL_uI, gL_uR, gR_uI, gR_uL, true_and, and_true, Nat.add_right_cancel_iff, Nat.add_left_cancel_iff, Nat.reduceEqDiff, Nat.left_eq_add, Nat.right_eq_add, Nat.add_eq_left, Nat.add_eq_right, Nat.reduceAdd, Nat.succ_ne_self, reduceCtorEq, false_and, and_false, if_false, if_true, ite_true, ite_false, ite_self, Nat.succ_ne_zero, Nat.add_one_ne_zero, not_false_eq_true, not_true_eq_false, Nat.one_ne_zero, Nat.zero_ne_one, ug_end]
    · simp only [gI_uI, gL_uL, gR_uR, gI_uL, gI_uR, gL_uI, gL_uR, gR_uI, gR_uL, true_and, and_true, Nat.add_right_cancel_iff, Nat.add_left_cancel_iff, Nat.reduceEqDiff, Nat.left_eq_add, Nat.right_eq_add, Nat.add_eq_left, Nat.add_eq_right, Nat.reduceAdd, Nat.succ_ne_self, reduceCtorEq, false_and, and_false, if_false, if_true, ite_true, ite_false, ite_self, Nat.succ_ne_zero, Nat.add_one_ne_zero, not_false_eq_true, not_true_eq_false, Nat.one_ne_zero, Nat.zero_ne_one, e, ug_app (show i < td.2.2.1.length by omega)]
      exact z5 i (by omega)
  · simp only [gI_uI, gL_uL, gR_uR, gI_uL, gI_uR, gL_uI, gL_uR, gR_uI, gR_uL, true_and, and_true, Nat.add_right_cancel_iff, Nat.add_left_cancel_iff, Nat.reduceEqDiff, Nat.left_eq_add, Nat.right_eq_add, Nat.add_eq_left, Nat.add_eq_right, Nat.reduceAdd, Nat.succ_ne_self, reduceCtorEq, false_and, and_false, if_false, if_true, ite_true, ite_false, ite_self, Nat.succ_ne_zero, Nat.add_one_ne_zero, not_false_eq_true, not_true_eq_false, Nat.one_ne_zero, Nat.zero_ne_one]
    exact z6 i hi
theorem RdAt.gns {A : qA} {S1 : qS} {m q : Nat} {bg : Bool} {td : Tld} {x : Int32 × Int32} (hr : RdAt A S1 m q bg td) : RdAt A (uI (uI (uI S1 (q + 4) td.2.2.2.length x.1) (q + 5) td.2.2.2.length x.2) q 3 (nI td.2.2.2.length + 1)) m q bg (td.1, td.2.1, td.2.2.1, td.2.2.2 ++ [x]) := by
  obtain ⟨y1, y2, y3, yk, yr, z1, z2, z3, z4, z5, z6⟩ := hr
  refine ⟨y1, y2, ?_, yk, yr, ?_, ?_, ?_, z4.same fun k => ?_, fun i hi => ?_, fun i hi => ?_⟩
  · simp only [gI_uI, gL_uL, gR_uR, gI_uL, gI_uR, gL_uI, gL_uR, gR_uI, gR_uL, true_and, and_true, Nat.add_right_cancel_iff, Nat.add_left_cancel_iff, Nat.reduceEqDiff, Nat.left_eq_add, Nat.right_eq_add, Nat.add_eq_left, Nat.add_eq_right, Nat.reduceAdd, Nat.succ_ne_self, reduceCtorEq, false_and, and_false, if_false, if_true, ite_true, ite_false, ite_self, Nat.succ_ne_zero, Nat.add_one_ne_zero, not_false_eq_true, not_true_eq_false, Nat.one_ne_zero, Nat.zero_ne_one]; exact y3
  · simp only [gI_uI, gL_uL, gR_uR, gI_uL, gI_uR, gL_uI, gL_uR, gR_uI, gR_uL, true_and, and_true, Nat.add_right_cancel_iff, Nat.add_left_cancel_iff, Nat.reduceEqDiff, Nat.left_eq_add, Nat.right_eq_add, Nat.add_eq_left, Nat.add_eq_right, Nat.reduceAdd, Nat.succ_ne_self, reduceCtorEq, false_and, and_false, if_false, if_true, ite_true, ite_false, ite_self, Nat.succ_ne_zero, Nat.add_one_ne_zero, not_false_eq_true, not_true_eq_false, Nat.one_ne_zero, Nat.zero_ne_one]; exact z1
  · simp only [gI_uI, gL_uL, gR_uR, gI_uL, gI_uR, gL_uI, gL_uR, gR_uI, gR_uL, true_and, and_true, Nat.add_right_cancel_iff, Nat.add_left_cancel_iff, Nat.reduceEqDiff, Nat.left_eq_add, Nat.right_eq_add, Nat.add_eq_left, Nat.add_eq_right, Nat.reduceAdd, Nat.succ_ne_self, reduceCtorEq, false_and, and_false, if_false, if_true, ite_true, ite_false, ite_self, Nat.succ_ne_zero, Nat.add_one_ne_zero, not_false_eq_true, not_true_eq_false, Nat.one_ne_zero, Nat.zero_ne_one]; exact z2
  · simp only [gI_uI, gL_uL, gR_uR, gI_uL, gI_uR, gL_uI, gL_uR, gR_uI, gR_uL, true_and, and_true, Nat.add_right_cancel_iff, Nat.add_left_cancel_iff, Nat.reduceEqDiff, Nat.left_eq_add, Nat.right_eq_add, Nat.add_eq_left, Nat.add_eq_right, Nat.reduceAdd, Nat.succ_ne_self, reduceCtorEq, false_and, and_false, if_false, if_true, ite_true, ite_false, ite_self, Nat.succ_ne_zero, Nat.add_one_ne_zero, not_false_eq_true, not_true_eq_false, Nat.one_ne_zero, Nat.zero_ne_one, List.length_append, List.length_singleton, nI_1]
  · simp only [gI_uI, gL_uL, gR_uR, gI_uL, gI_uR, gL_uI, gL_uR, gR_uI, gR_uL, true_and, and_true, Nat.add_right_cancel_iff, Nat.add_left_cancel_iff, Nat.reduceEqDiff, Nat.left_eq_add, Nat.right_eq_add, Nat.add_eq_left, Nat.add_eq_right, Nat.reduceAdd, Nat.succ_ne_self, reduceCtorEq, false_and, and_false, if_false, if_true, ite_true, ite_false, ite_self, Nat.succ_ne_zero, Nat.add_one_ne_zero, not_false_eq_true, not_true_eq_false, Nat.one_ne_zero, Nat.zero_ne_one]
  · simp only [gI_uI, gL_uL, gR_uR, gI_uL, gI_uR, gL_uI, gL_uR, gR_uI, gR_uL, true_and, and_true, Nat.add_right_cancel_iff, Nat.add_left_cancel_iff, Nat.reduceEqDiff, Nat.left_eq_add, Nat.right_eq_add, Nat.add_eq_left, Nat.add_eq_right, Nat.reduceAdd, Nat.succ_ne_self, reduceCtorEq, false_and, and_false, if_false, if_true, ite_true, ite_false, ite_self, Nat.succ_ne_zero, Nat.add_one_ne_zero, not_false_eq_true, not_true_eq_false, Nat.one_ne_zero, Nat.zero_ne_one]
    exact z5 i hi
  · simp only [List.length_append, List.length_singleton] at hi
    by_cases e : i = td.2.2.2.length
    · subst e
      simp only [gI_uI, gL_uL, gR_uR, gI_uL, gI_uR, gL_uI, gL_uR, gR_uI, gR_uL, true_and, and_true, Nat.add_right_cancel_iff, Nat.add_left_cancel_iff, Nat.reduceEqDiff, Nat.left_eq_add, Nat.right_eq_add, Nat.add_eq_left, Nat.add_eq_right, Nat.reduceAdd, Nat.succ_ne_self, reduceCtorEq, false_and, and_false, if_false, if_true, ite_true, ite_false, ite_self, Nat.succ_ne_zero, Nat.add_one_ne_zero, not_false_eq_true, not_true_eq_false, Nat.one_ne_zero, Nat.zero_ne_one, ug_end]
    · simp only [gI_uI, gL_uL, gR_uR, gI_uL, gI_uR, gL_uI, gL_uR, gR_uI, gR_uL, true_and, and_true, Nat.add_right_cancel_iff, Nat.add_left_cancel_iff, Nat.reduceEqDiff, Nat.left_eq_add, Nat.right_eq_add, Nat.add_eq_left, Nat.add_eq_right, Nat.reduceAdd, Nat.succ_ne_self, reduceCtorEq, false_and, and_false, if_false, if_true, ite_true, ite_false, ite_self, Nat.succ_ne_zero, Nat.add_one_ne_zero, not_false_eq_true, not_true_eq_false, Nat.one_ne_zero, Nat.zero_ne_one, e, ug_app (show i < td.2.2.2.length by omega)]
      exact z6 i (by omega)
section
variable {d e : Nat} {A : qA} {S : qS} {m n q : Nat} {tp : Nat → Int32} {p : Psr} {bg : Bool} {td : Tld}
set_option maxRecDepth 20000 in
theorem cm_stands {a r : Nat} {L : List (Int32 × Int32)} {t : Int32} {f : Bool → qS → Prop} (hk : A.1 a = some (13, r)) (hL : L.length ≤ r) (hr : r ≤ 100000) (hc : ∀ i, i < L.length → gI S a i = (ug L i).1) (hf : f (stB L t) S) : Run (d + 1) 135 [.ref a, .int (nI L.length), .int t] A S (kZ A f) := by
  refine Run.i (C := mX10_stands) rfl rfl rfl fun J hJ => ?_
  have loop : ∀ g i, i + g = L.length → stG (fun i => (ug L i).1) t i = false → J 2 [some (.ref a), some (.int (nI L.length)), some (.int t), some (.int (nI i))] [] A S := by
    intro g
    induction g with
    | zero =>
      intro i hi hs
      refine sX10_stands_2 hJ ⟨fun _ => ⟨Or.inl rfl, kZ_0 ?_⟩, fun z => absurd ((nIle (by omega) (by omega)).2 (by omega)) z⟩
      rwa [show stB L t = false by rw [stB, ← show i = L.length by omega]; exact hs] at hf
    | succ g ih =>
      intro i hi hs
      refine sX10_stands_2 hJ ⟨fun z => absurd ((nIle (by omega) (by omega)).1 z) (by omega), fun _ => ⟨r, hk, vp_n (by omega) hr, ?_⟩⟩
      rw [cl_n (by omega), hc i (by omega), nI_1]
      refine ⟨fun z => ih (i + 1) (by omega) ?_, fun z => ⟨Or.inr rfl, kZ_1 ?_⟩⟩
      · rw [stG, hs, decide_eq_false z]; rfl
      · have mono : ∀ k, stG (fun i => (ug L i).1) t (i + 1 + k) = true := by
          intro k
          induction k with
          | zero => rw [Nat.add_zero, stG, decide_eq_true z, Bool.or_true]
          | succ k ihk => rw [← Nat.add_assoc, stG, ihk, Bool.true_or]
        have := mono g
        rwa [show stB L t = true by rw [stB, show L.length = i + 1 + g by omega]; exact this] at hf
  exact sX10_stands_0 hJ (loop L.length 0 (by omega) rfl)
set_option maxRecDepth 20000 in
theorem cm_usTail {P2 : Psr} {t : Int32} {S1 : qS} {f : qS → Prop} (h : TxAt A S m tp n) (hr : RdAt A S m q bg td) (h1 : PsAt S1 m P2) (l : Ly S S1 m) (hp2 : P2.1.1 ≤ n) (hl : ¬ (gon tp n (whP 0 999 (gon tp n P2))).1.2.1 = 5 → td.2.2.1.length < 4) (hf : ∀ S', PsAt S' m (gon tp n (whP 0 999 (gon tp n P2))) → RdAt A S' m q bg (usT (gon tp n (whP 0 999 (gon tp n P2))) (t, whV 0 999 (gon tp n P2)) td) → Lz S S' m q → f S') : Run (d + 2) 153 [.ref m] A S1 (kV A fun S_7 => A.1 m = some (11, 0) ∧ wcat [] ≤ 8 ∧ Run (e + 3) 160 [.ref m, .int 0, .int 999] A S_7 (kI A fun r_9 S_8 => A.1 m = some (11, 0) ∧ wcat [] ≤ 8 ∧ Run (e + 3) 154 [.ref m] A S_8 (kZ A fun b_11 S_10 => (((bI b_11) = 0 → A.1 m = some (11, 0) ∧ ∃ q_12, gR S_10 m 4 = some q_12 ∧ A.1 q_12 = some (10, 0) ∧ ∃ q_13, gR S_10 q_12 5 = some q_13 ∧ A.1 m = some (11, 0) ∧ ∃ q_14, gR S_10 m 4 = some q_14 ∧ A.1 q_14 = some (10, 0) ∧ ∃ n_15, A.1 q_13 = some (13, n_15) ∧ vp_in (gI S_10 q_14 2) n_15 ∧ ∀ S_16, S_16 = uI S_10 q_13 (gI S_10 q_14 2).toNatClampNeg t → A.1 m = some (11, 0) ∧ ∃ q_17, gR S_16 m 4 = some q_17 ∧ A.1 q_17 = some (10, 0) ∧ ∃ q_18, gR S_16 q_17 6 = some q_18 ∧ A.1 m = some (11, 0) ∧ ∃ q_19, gR S_16 m 4 = some q_19 ∧ A.1 q_19 = some (10, 0) ∧ ∃ n_20, A.1 q_18 = some (13, n_20) ∧ vp_in (gI S_16 q_19 2) n_20 ∧ ∀ S_21, S_21 = uI S_16 q_18 (gI S_16 q_19 2).toNatClampNeg r_9 → A.1 m = some (11, 0) ∧ ∃ q_22, gR S_21 m 4 = some q_22 ∧ A.1 q_22 = some (10, 0) ∧ A.1 q_22 = some (10, 0) ∧ ∀ S_23, S_23 = uI S_21 q_22 2 ((gI S_21 q_22 2) + 1) → kV A f none A S_23) ∧ (¬ (bI b_11) = 0 → kV A f none A S_10))))) := by
  have hk0 := h.1.1.1
  refine cm_gon (h.ly l) h1 hp2 fun S2 h2 l2 => ?_
  have hp3 := gon_le (tp := tp) hp2
  generalize gon tp n P2 = p3 at h2 hf hp3 hl
  have l := l.trans l2
  refine ⟨hk0, wc rfl, cm_readWhole (h.ly l) h2 hp3 fun S3 h3 l3 => ?_⟩
  generalize gon tp n (whP 0 999 p3) = p4 at h3 hf hl
  generalize whV 0 999 p3 = v at hf ⊢
  have l := l.trans l3
  have hr3 := hr.ly l
  have hq := hr.2.1
  have hr4 := hr3
  obtain ⟨y1, y2, y3, ⟨y4, y5, y6, y7, y8, y9⟩, ⟨w1, w2, w3, w4, w5⟩, z1, z2, z3, z4, z5, z6⟩ := hr4
  refine ⟨hk0, wc rfl, cm_over (h.ly l).1 h3 (q_eqb (fun c => ?_) (fun c => kV_i (hf S3 h3 ?_ l.lz)))⟩
  · have c5 := of_decide_eq_false c
    have h4 := hl c5
    refine ⟨hk0, q, y1, y4, q + 2, w2, hk0, q, y1, y4, 4, y6, ?_⟩
    rw [z2, cl_n (by omega)]
    refine ⟨vp_n h4 (by omega), fun T eT => ?_⟩
    subst eT
    refine ⟨hk0, q, y1, y4, q + 3, w3, hk0, q, y1, y4, 4, y7, ?_⟩
    rw [gI_uI, if_neg (by omega), z2, cl_n (by omega)]
    refine ⟨vp_n h4 (by omega), fun T eT => ?_⟩
    subst eT
    refine ⟨hk0, q, y1, y4, y4, fun T eT => ?_⟩
    subst eT
    rw [gI_uI, if_neg (by omega), gI_uI, if_neg (by omega), z2]
    refine kV_i (hf _ (h3.out (fun k => ?_) rfl) ?_ (((l.lz.uI (by omega)).uI (by omega)).uI (by omega)))
    · rw [gI_uI, if_neg (by omega), gI_uI, if_neg (by omega), gI_uI, if_neg (by omega)]
    · rw [usT, if_neg c5]
      exact hr3.uns (x := (t, v))
  · rw [usT, if_pos (of_decide_eq_true c)]
    exact hr3
end
