/-! THE STATE of which class and reference both tell: tape, how many bytes, the ledger told, trades now, past ones, images, trouble, fault, where -/
abbrev Tld : Type := Int32 × List Row × List (Int32 × Int32) × List (Int32 × Int32)
abbrev VSt : Type := (Nat → Int32) × Nat × Option Tld × List Row × List (List Row) × List (List Row) × Int32 × Int32 × Int32
def vTape (V : VSt) : Nat → Int32 := V.1
def vN (V : VSt) : Nat := V.2.1
def vLed (V : VSt) : Option Tld := V.2.2.1
def vNow (V : VSt) : List Row := V.2.2.2.1
def vPast (V : VSt) : List (List Row) := V.2.2.2.2.1
def vImg (V : VSt) : List (List Row) := V.2.2.2.2.2.1
def vTr (V : VSt) : Int32 := V.2.2.2.2.2.2.1
def vFa (V : VSt) : Int32 := V.2.2.2.2.2.2.2.1
def vWh (V : VSt) : Int32 := V.2.2.2.2.2.2.2.2
def setT (V : VSt) (t : Int32) : VSt := (V.1, V.2.1, V.2.2.1, V.2.2.2.1, V.2.2.2.2.1, V.2.2.2.2.2.1, t, V.2.2.2.2.2.2.2.1, -1)
theorem setT_setT (V : VSt) (s t : Int32) : setT (setT V s) t = setT V t := rfl
def lw (o : Option Tld) : Int32 := match o with
  | some td => td.1
  | none => 0
def vT' (w : Int32) (T : List Row) : Prop := vT T ∧ shortT w 999 T = false
/-- what a text may tell -/
def vTd (td : Tld) : Prop := (∃ w, w ≤ 60 ∧ td.1 = nI w) ∧ vT' td.1 td.2.1 ∧ td.2.1.length ≤ 16 ∧ td.2.2.1.length ≤ 4 ∧ (∀ u, u ∈ td.2.2.1 → (∃ t, t < td.2.1.length ∧ u.1 = nI t ∧ ¬ (tr td.2.1 t).1 = 2) ∧ ∃ v, v ≤ 999 ∧ u.2 = nI v) ∧ td.2.2.2.length ≤ 6 ∧ ∀ g, g ∈ td.2.2.2 → ∃ t, t < td.2.1.length ∧ g.1 = nI t ∧ (tr td.2.1 t).1 = 1
def vOk (V : VSt) : Prop := (∀ td, vLed V = some td → vTd td) ∧ vT' (lw (vLed V)) (vNow V) ∧ (vLed V = none → vNow V = [] ∧ vPast V = [] ∧ vImg V = []) ∧ (∀ T, T ∈ vPast V → vT' (lw (vLed V)) T) ∧ (vPast V).length ≤ 16 ∧ (∀ T, T ∈ vImg V → vT' (lw (vLed V)) T) ∧ (vImg V).length ≤ 3 ∧ vN V ≤ 900
def rg (X : List (List Row)) (i : Nat) : List Row := X.getD i []
def ug (X : List (Int32 × Int32)) (i : Nat) : Int32 × Int32 := X.getD i (0, 0)
/-! the reference's cells -/
/-- rows of trades from place o on -/
def RwO (S : qS) (a o : Nat) (T : List Row) : Prop := gI S a o = nI T.length ∧ ∀ i, i < T.length → gI S a (o + (6 * i + 1)) = (tr T i).1 ∧ gI S a (o + (6 * i + 2)) = (tr T i).2.1 ∧ gI S a (o + (6 * i + 3)) = (tr T i).2.2.1 ∧ gI S a (o + (6 * i + 4)) = (tr T i).2.2.2.1 ∧ gI S a (o + (6 * i + 5)) = (tr T i).2.2.2.2.1 ∧ gI S a (o + (6 * i + 6)) = (tr T i).2.2.2.2.2
theorem RwO.same {S S' : qS} {a b o o' : Nat} {T : List Row} (h : RwO S a o T) (hT : T.length ≤ 24) (e : ∀ k, k < 145 → gI S' b (o' + k) = gI S a (o + k)) : RwO S' b o' T := by
  refine ⟨(e 0 (by omega)).trans h.1, fun i hi => ?_⟩
  rw [e _ (by omega), e _ (by omega), e _ (by omega), e _ (by omega), e _ (by omega), e _ (by omega)]
  exact h.2 i hi
theorem RwAt.o {S : qS} {a : Nat} {T : List Row} (h : RwAt S a T) : RwO S a 0 T := ⟨h.1, fun i hi => by simp only [Nat.zero_add]; exact h.2 i hi⟩
theorem RwO.at {S : qS} {a : Nat} {T : List Row} (h : RwO S a 0 T) : RwAt S a T := ⟨h.1, fun i hi => by have := h.2 i hi; simp only [Nat.zero_add] at this; exact this⟩
def LgAt (A : qA) (S : qS) (q : Nat) (td : Tld) : Prop := (A.1 q = some (10, 0) ∧ A.1 (q + 1) = some (13, 145) ∧ A.1 (q + 2) = some (13, 4) ∧ A.1 (q + 3) = some (13, 4) ∧ A.1 (q + 4) = some (13, 6) ∧ A.1 (q + 5) = some (13, 6)) ∧ (gR S q 4 = some (q + 1) ∧ gR S q 5 = some (q + 2) ∧ gR S q 6 = some (q + 3) ∧ gR S q 7 = some (q + 4) ∧ gR S q 8 = some (q + 5)) ∧ gI S q 1 = td.1 ∧ gI S q 2 = nI td.2.2.1.length ∧ gI S q 3 = nI td.2.2.2.length ∧ RwAt S (q + 1) td.2.1 ∧ (∀ i, i < td.2.2.1.length → gI S (q + 2) i = (ug td.2.2.1 i).1 ∧ gI S (q + 3) i = (ug td.2.2.1 i).2) ∧ ∀ i, i < td.2.2.2.length → gI S (q + 4) i = (ug td.2.2.2 i).1 ∧ gI S (q + 5) i = (ug td.2.2.2 i).2
theorem LgAt.fr {A : qA} {S S' : qS} {q : Nat} {td : Tld} (h : LgAt A S q td) (e : ∀ b, q ≤ b → b < q + 6 → ∀ k, gI S' b k = gI S b k ∧ gR S' b k = gR S b k) : LgAt A S' q td := by
  obtain ⟨hk, ⟨r1, r2, r3, r4, r5⟩, h1, h2, h3, h4, h5, h6⟩ := h
  have e0 := e q (by omega) (by omega)
  refine ⟨hk, ⟨(e0 _).2.trans r1, (e0 _).2.trans r2, (e0 _).2.trans r3, (e0 _).2.trans r4, (e0 _).2.trans r5⟩, (e0 _).1.trans h1, (e0 _).1.trans h2, (e0 _).1.trans h3, h4.same (fun k => (e (q + 1) (by omega) (by omega) k).1), fun i hi => ?_, fun i hi => ?_⟩
  · rw [(e (q + 2) (by omega) (by omega) i).1, (e (q + 3) (by omega) (by omega) i).1]; exact h5 i hi
  · rw [(e (q + 4) (by omega) (by omega) i).1, (e (q + 5) (by omega) (by omega) i).1]; exact h6 i hi
def mLed (A : qA) (S : qS) (m : Nat) (o : Option Tld) : Prop := match o with
  | none => gR S m 3 = none
  | some td => ∃ q, gR S m 3 = some q ∧ m + 27 < q ∧ LgAt A S q td
def mCore (S : qS) (m : Nat) (V : VSt) : Prop := (∀ k, k < 900 → gI S (m + 1) k = vTape V k) ∧ gI S m 6 = nI (vN V) ∧ RwAt S (m + 2) (vNow V) ∧ gI S m 19 = nI (vPast V).length ∧ (∀ i, i < (vPast V).length → RwO S (m + 4) (145 * i) (rg (vPast V) i)) ∧ gI S m 20 = nI (vImg V).length ∧ (∀ i, i < (vImg V).length → RwO S (m + 5) (145 * i) (rg (vImg V) i)) ∧ gI S m 1 = vTr V ∧ gI S m 2 = vWh V ∧ gI S m 12 = vFa V
def MAt (A : qA) (S : qS) (m : Nat) (V : VSt) : Prop := mI A S m ∧ (∃ H, MH S m H) ∧ mCore S m V ∧ mLed A S m (vLed V)
/-- cells that tell nothing -/
def scr (m b k : Nat) : Prop := b = m ∧ (k = 0 ∨ 41 ≤ k) ∨ b = m + 3 ∨ m + 6 ≤ b ∧ b ≤ m + 26
def Fk (S S' : qS) (m : Nat) : Prop := (∀ b k, ¬ scr m b k → gI S' b k = gI S b k ∧ gL S' b k = gL S b k) ∧ ∀ b k, gR S' b k = gR S b k
theorem Fk.rf {S : qS} {m : Nat} : Fk S S m := ⟨fun _ _ _ => ⟨rfl, rfl⟩, fun _ _ => rfl⟩
theorem Fk.trans {S S' S'' : qS} {m : Nat} (h : Fk S S' m) (h' : Fk S' S'' m) : Fk S S'' m := ⟨fun b k n => ⟨(h'.1 b k n).1.trans (h.1 b k n).1, (h'.1 b k n).2.trans (h.1 b k n).2⟩, fun b k => (h'.2 b k).trans (h.2 b k)⟩
theorem Fm.k {S S' : qS} {m lo hi u v : Nat} (h : Fm S S' m lo hi u v) (h1 : 6 ≤ lo ∧ hi ≤ 27 ∧ 41 ≤ u) : Fk S S' m := ⟨fun b k n => h.1 b (by unfold scr at n; omega) k (by unfold scr at n; omega), h.2⟩
theorem Fk.uI {S S' : qS} {m b k : Nat} {x : Int32} (h : Fk S S' m) (h1 : scr m b k) : Fk S (uI S' b k x) m := ⟨fun c j n => ⟨by rw [gI_uI, if_neg (fun z => n (by rw [z.1, z.2]; exact h1))]; exact (h.1 c j n).1, (h.1 c j n).2⟩, h.2⟩
theorem Fk.fr {S S' : qS} {m : Nat} (h : Fk S S' m) : Fr S S' m (m + 27) := fun b hb k => ⟨(h.1 b k (by unfold scr; omega)).1, (h.1 b k (by unfold scr; omega)).2, h.2 b k⟩
theorem mLed.fr {A : qA} {S S' : qS} {m : Nat} {o : Option Tld} (h : mLed A S m o) (e3 : gR S' m 3 = gR S m 3) (e : ∀ b, m + 27 < b → ∀ k, gI S' b k = gI S b k ∧ gR S' b k = gR S b k) : mLed A S' m o := by
  unfold mLed at *
  cases o with
  | none => exact e3.trans h
  | some td =>
    obtain ⟨q, h1, h2, h3⟩ := h
    exact ⟨q, e3.trans h1, h2, h3.fr fun b b1 b2 k => e b (by omega) k⟩
theorem MAt.fk {A : qA} {S S' : qS} {m : Nat} {V : VSt} {H : Nat → List Lot} (h : MAt A S m V) (hf : Fk S S' m) (hH : MH S' m H) : MAt A S' m V := by
  obtain ⟨hI, -, ⟨c1, c2, c3, c4, c5, c6, c7, c8, c9, c10⟩, hL⟩ := h
  have e : ∀ b k, ¬ scr m b k → gI S' b k = gI S b k := fun b k n => (hf.1 b k n).1
  refine ⟨⟨hI.1, hI.2.fr fun k => hf.2 m k⟩, ⟨H, hH⟩, ⟨fun k hk => (e _ _ (by unfold scr; omega)).trans (c1 k hk), (e _ _ (by unfold scr; omega)).trans c2, c3.same fun k => e _ _ (by unfold scr; omega), (e _ _ (by unfold scr; omega)).trans c4, fun i hi => ?_, (e _ _ (by unfold scr; omega)).trans c6, fun i hi => ?_, (e _ _ (by unfold scr; omega)).trans c8, (e _ _ (by unfold scr; omega)).trans c9, (e _ _ (by unfold scr; omega)).trans c10⟩, hL.fr (hf.2 m 3) fun b hb k => ⟨e _ _ (by unfold scr; omega), hf.2 b k⟩⟩
  · obtain ⟨a1, a2⟩ := c5 i hi
    refine ⟨(e _ _ (by unfold scr; omega)).trans a1, fun j hj => ?_⟩
    rw [e _ _ (by unfold scr; omega), e _ _ (by unfold scr; omega), e _ _ (by unfold scr; omega), e _ _ (by unfold scr; omega), e _ _ (by unfold scr; omega), e _ _ (by unfold scr; omega)]
    exact a2 j hj
  · obtain ⟨a1, a2⟩ := c7 i hi
    refine ⟨(e _ _ (by unfold scr; omega)).trans a1, fun j hj => ?_⟩
    rw [e _ _ (by unfold scr; omega), e _ _ (by unfold scr; omega), e _ _ (by unfold scr; omega), e _ _ (by unfold scr; omega), e _ _ (by unfold scr; omega), e _ _ (by unfold scr; omega)]
    exact a2 j hj
theorem MH.one {S : qS} {m k : Nat} {x : Int32} {H : Nat → List Lot} (h : MH S m H) : MH (uI S m k x) m H := h.fm (lo := 6) (hi := 6) (u := k) (v := k + 1) (Fm.rf.uI (by omega)) (by omega)
/-- thrown is cleared -/
theorem MAt.t0 {A : qA} {S : qS} {m : Nat} {x : Int32} {V : VSt} (h : MAt A S m V) : MAt A (uI S m 0 x) m V := by
  obtain ⟨H, hH⟩ := h.2.1
  exact h.fk (Fk.rf.uI (by unfold scr; omega)) hH.one
theorem MAt.set {A : qA} {S : qS} {m : Nat} {V : VSt} {t : Int32} (h : MAt A S m V) : MAt A (uI (uI S m 1 t) m 2 (-1)) m (setT V t) := by
  obtain ⟨hI, ⟨H, hH⟩, ⟨c1, c2, c3, c4, c5, c6, c7, c8, c9, c10⟩, hL⟩ := h
  refine ⟨⟨hI.1, hI.2.fr fun k => rfl⟩, ⟨H, hH.one.one⟩, ⟨fun k hk => ?_, ?_, c3.same fun k => ?_, ?_, fun i hi => ?_, ?_, fun i hi => ?_, ?_, ?_, ?_⟩, hL.fr rfl fun b hb k => ⟨?_, rfl⟩⟩
  · simp only [gI_uI, gL_uL, gR_uR, gI_uL, gI_uR, gL_uI, gL_uR, gR_uI, gR_uL, true_and, and_true, Nat.add_right_cancel_iff, Nat.add_left_cancel_iff, Nat.reduceEqDiff, Nat.left_eq_add, Nat.right_eq_add, Nat.add_eq_left, Nat.add_eq_right, Nat.reduceAdd, Nat.succ_ne_self, reduceCtorEq, false_and, and_false, if_false, if_true, ite_true, ite_false, ite_self, Nat.succ_ne_zero, Nat.add_one_ne_zero, not_false_eq_true, not_true_eq_false, Nat.one_ne_zero, Nat.zero_ne_one]; exact c1 k hk
  · simp only [gI_uI, gL_uL, gR_uR, gI_uL, gI_uR, gL_uI, gL_uR, gR_uI, gR_uL, true_and, and_true, Nat.add_right_cancel_iff, Nat.add_left_cancel_iff, Nat.reduceEqDiff, Nat.left_eq_add, Nat.right_eq_add, Nat.add_eq_left, Nat.add_eq_right, Nat.reduceAdd, Nat.succ_ne_self, reduceCtorEq, false_and, and_false, if_false, if_true, ite_true, ite_false, ite_self, Nat.succ_ne_zero, Nat.add_one_ne_zero, not_false_eq_true, not_true_eq_false, Nat.one_ne_zero, Nat.zero_ne_one]; exact c2
  · simp only [gI_uI, gL_uL, gR_uR, gI_uL, gI_uR, gL_uI, gL_uR, gR_uI, gR_uL, true_and, and_true, Nat.add_right_cancel_iff, Nat.add_left_cancel_iff, Nat.reduceEqDiff, Nat.left_eq_add, Nat.right_eq_add, Nat.add_eq_left, Nat.add_eq_right, Nat.reduceAdd, Nat.succ_ne_self, reduceCtorEq, false_and, and_false, if_false, if_true, ite_true, ite_false, ite_self, Nat.succ_ne_zero, Nat.add_one_ne_zero, not_false_eq_true, not_true_eq_false, Nat.one_ne_zero, Nat.zero_ne_one]
  · simp only [gI_uI, gL_uL, gR_uR, gI_uL, gI_uR, gL_uI, gL_uR, gR_uI, gR_uL, true_and, and_true, Nat.add_right_cancel_iff, Nat.add_left_cancel_iff, Nat.reduceEqDiff, Nat.left_eq_add, Nat.right_eq_add, Nat.add_eq_left, Nat.add_eq_right, Nat.reduceAdd, Nat.succ_ne_self, reduceCtorEq, false_and, and_false, if_false, if_true, ite_true, ite_false, ite_self, Nat.succ_ne_zero, Nat.add_one_ne_zero, not_false_eq_true, not_true_eq_false, Nat.one_ne_zero, Nat.zero_ne_one]; exact c4
  · obtain ⟨a1, a2⟩ := c5 i hi
    exact ⟨by simp only [gI_uI, gL_uL, gR_uR, gI_uL, gI_uR, gL_uI, gL_uR, gR_uI, gR_uL, true_and, and_true, Nat.add_right_cancel_iff, Nat.add_left_cancel_iff, Nat.reduceEqDiff, Nat.left_eq_add, Nat.right_eq_add, Nat.add_eq_left, Nat.add_eq_right, Nat.reduceAdd, Nat.succ_ne_self, reduceCtorEq, false_and, and_false, if_false, if_true, ite_true, ite_false, ite_self, Nat.succ_ne_zero, Nat.add_one_ne_zero, not_false_eq_true, not_true_eq_false, Nat.one_ne_zero, Nat.zero_ne_one]; exact a1, fun j hj => by simp only [gI_uI, gL_uL, gR_uR, gI_uL, gI_uR, gL_uI, gL_uR, gR_uI, gR_uL, true_and, and_true, Nat.add_right_cancel_iff, Nat.add_left_cancel_iff, Nat.reduceEqDiff, Nat.left_eq_add, Nat.right_eq_add, Nat.add_eq_left, Nat.add_eq_right, Nat.reduceAdd, Nat.succ_ne_self, reduceCtorEq, false_and, and_false, if_false, if_true, ite_true, ite_false, ite_self, Nat.succ_ne_zero, Nat.add_one_ne_zero, not_false_eq_true, not_true_eq_false, Nat.one_ne_zero, Nat.zero_ne_one]; exact a2 j hj⟩
  · simp only [gI_uI, gL_uL, gR_uR, gI_uL, gI_uR, gL_uI, gL_uR, gR_uI, gR_uL, true_and, and_true, Nat.add_right_cancel_iff, Nat.add_left_cancel_iff, Nat.reduceEqDiff, Nat.left_eq_add, Nat.right_eq_add, Nat.add_eq_left, Nat.add_eq_right, Nat.reduceAdd, Nat.succ_ne_self, reduceCtorEq, false_and, and_false, if_false, if_true, ite_true, ite_false, ite_self, Nat.succ_ne_zero, Nat.add_one_ne_zero, not_false_eq_true, not_true_eq_false, Nat.one_ne_zero, Nat.zero_ne_one]; exact c6
  · obtain ⟨a1, a2⟩ := c7 i hi
    exact ⟨by simp only [gI_uI, gL_uL, gR_uR, gI_uL, gI_uR, gL_uI, gL_uR, gR_uI, gR_uL, true_and, and_true, Nat.add_right_cancel_iff, Nat.add_left_cancel_iff, Nat.reduceEqDiff, Nat.left_eq_add, Nat.right_eq_add, Nat.add_eq_left, Nat.add_eq_right, Nat.reduceAdd, Nat.succ_ne_self, reduceCtorEq, false_and, and_false, if_false, if_true, ite_true, ite_false, ite_self, Nat.succ_ne_zero, Nat.add_one_ne_zero, not_false_eq_true, not_true_eq_false, Nat.one_ne_zero, Nat.zero_ne_one]; exact a1, fun j hj => by simp only [gI_uI, gL_uL, gR_uR, gI_uL, gI_uR, gL_uI, gL_uR, gR_uI, gR_uL, true_and, and_true, Nat.add_right_cancel_iff, Nat.add_left_cancel_iff, Nat.reduceEqDiff, Nat.left_eq_add, Nat.right_eq_add, Nat.add_eq_left, Nat.add_eq_right, Nat.reduceAdd, Nat.succ_ne_self, reduceCtorEq, false_and, and_false, if_false, if_true, ite_true, ite_false, ite_self, Nat.succ_ne_zero, Nat.add_one_ne_zero, not_false_eq_true, not_true_eq_false, Nat.one_ne_zero, Nat.zero_ne_one]; exact a2 j hj⟩
  · simp only [gI_uI, gL_uL, gR_uR, gI_uL, gI_uR, gL_uI, gL_uR, gR_uI, gR_uL, true_and, and_true, Nat.add_right_cancel_iff, Nat.add_left_cancel_iff, Nat.reduceEqDiff, Nat.left_eq_add, Nat.right_eq_add, Nat.add_eq_left, Nat.add_eq_right, Nat.reduceAdd, Nat.succ_ne_self, reduceCtorEq, false_and, and_false, if_false, if_true, ite_true, ite_false, ite_self, Nat.succ_ne_zero, Nat.add_one_ne_zero, not_false_eq_true, not_true_eq_false, Nat.one_ne_zero, Nat.zero_ne_one]; rfl
  · simp only [gI_uI, gL_uL, gR_uR, gI_uL, gI_uR, gL_uI, gL_uR, gR_uI, gR_uL, true_and, and_true, Nat.add_right_cancel_iff, Nat.add_left_cancel_iff, Nat.reduceEqDiff, Nat.left_eq_add, Nat.right_eq_add, Nat.add_eq_left, Nat.add_eq_right, Nat.reduceAdd, Nat.succ_ne_self, reduceCtorEq, false_and, and_false, if_false, if_true, ite_true, ite_false, ite_self, Nat.succ_ne_zero, Nat.add_one_ne_zero, not_false_eq_true, not_true_eq_false, Nat.one_ne_zero, Nat.zero_ne_one]; rfl
  · simp only [gI_uI, gL_uL, gR_uR, gI_uL, gI_uR, gL_uI, gL_uR, gR_uI, gR_uL, true_and, and_true, Nat.add_right_cancel_iff, Nat.add_left_cancel_iff, Nat.reduceEqDiff, Nat.left_eq_add, Nat.right_eq_add, Nat.add_eq_left, Nat.add_eq_right, Nat.reduceAdd, Nat.succ_ne_self, reduceCtorEq, false_and, and_false, if_false, if_true, ite_true, ite_false, ite_self, Nat.succ_ne_zero, Nat.add_one_ne_zero, not_false_eq_true, not_true_eq_false, Nat.one_ne_zero, Nat.zero_ne_one]; exact c10
  · have e1 : (b = m) = False := by simp only [eq_iff_iff, iff_false]; omega
    simp only [gI_uI, gL_uL, gR_uR, gI_uL, gI_uR, gL_uI, gL_uR, gR_uI, gR_uL, true_and, and_true, Nat.add_right_cancel_iff, Nat.add_left_cancel_iff, Nat.reduceEqDiff, Nat.left_eq_add, Nat.right_eq_add, Nat.add_eq_left, Nat.add_eq_right, Nat.reduceAdd, Nat.succ_ne_self, reduceCtorEq, false_and, and_false, if_false, if_true, ite_true, ite_false, ite_self, Nat.succ_ne_zero, Nat.add_one_ne_zero, not_false_eq_true, not_true_eq_false, Nat.one_ne_zero, Nat.zero_ne_one, e1]
