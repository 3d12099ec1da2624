/-! WORDS FOR THE CONTRACTS (pure): frames, rows -/
/-- outside [lo, hi) nothing changed -/
def Fr (S S' : qS) (lo hi : Nat) : Prop := ∀ b, (b < lo ∨ hi ≤ b) → ∀ k, gI S' b k = gI S b k ∧ gL S' b k = gL S b k ∧ gR S' b k = gR S b k
theorem Fr.rf {S : qS} {lo hi : Nat} : Fr S S lo hi := fun _ _ _ => ⟨rfl, rfl, rfl⟩
theorem Fr.trans {S S' S'' : qS} {lo hi : Nat} (h : Fr S S' lo hi) (h' : Fr S' S'' lo hi) : Fr S S'' lo hi := fun b z k => ⟨(h' b z k).1.trans (h b z k).1, (h' b z k).2.1.trans (h b z k).2.1, (h' b z k).2.2.trans (h b z k).2.2⟩
theorem Fr.wide {S S' : qS} {lo hi lo' hi' : Nat} (h : Fr S S' lo hi) (h1 : lo' ≤ lo) (h2 : hi ≤ hi') : Fr S S' lo' hi' := fun b z k => h b (by omega) k
theorem Fr.uI {S S' : qS} {lo hi a k : Nat} {v : Int32} (h : Fr S S' lo hi) (h1 : lo ≤ a) (h2 : a < hi) : Fr S (uI S' a k v) lo hi := fun b z j => ⟨by rw [gI_uI, if_neg (by omega)]; exact (h b z j).1, (h b z j).2.1, (h b z j).2.2⟩
theorem Fr.uL {S S' : qS} {lo hi a k : Nat} {v : Int64} (h : Fr S S' lo hi) (h1 : lo ≤ a) (h2 : a < hi) : Fr S (uL S' a k v) lo hi := fun b z j => ⟨(h b z j).1, by rw [gL_uL, if_neg (by omega)]; exact (h b z j).2.1, (h b z j).2.2⟩
theorem Fr.uR {S S' : qS} {lo hi a k : Nat} {v : Option Nat} (h : Fr S S' lo hi) (h1 : lo ≤ a) (h2 : a < hi) : Fr S (uR S' a k v) lo hi := fun b z j => ⟨(h b z j).1, (h b z j).2.1, by rw [gR_uR, if_neg (by omega)]; exact (h b z j).2.2⟩
theorem Fr.uC {S S' : qS} {lo hi a i b j n : Nat} (h : Fr S S' lo hi) (h1 : lo ≤ b) (h2 : b < hi) : Fr S (uC S' a i b j n) lo hi := fun c z k => ⟨by rw [gI_uC, if_neg (by omega)]; exact (h c z k).1, (h c z k).2.1, (h c z k).2.2⟩
theorem vp_n {i n : Nat} (h : i < n) (hn : n ≤ 100000) : vp_in (nI i) n := vp_in_nI h (by omega)
theorem cl_n {i : Nat} (h : i ≤ 100000) : (nI i).toNatClampNeg = i := nI_clamp (by omega)
theorem nI_idx {x : Int32} {n : Nat} (hn : n ≤ 100000) (h1 : ¬ x < 0) (h2 : ¬ nI n ≤ x) : ∃ i, i < n ∧ x = nI i := by
  rcases pk_ix x (n := n) (by omega) with h | h | h
  · exact absurd h h1
  · exact absurd h h2
  · exact h
theorem nIle {a b : Nat} (ha : a ≤ 100000) (hb : b ≤ 100000) : nI a ≤ nI b ↔ a ≤ b := nI_leI (by omega) (by omega)
theorem nIlt {a b : Nat} (ha : a ≤ 100000) (hb : b ≤ 100000) : nI a < nI b ↔ a < b := nI_ltI (by omega) (by omega)
theorem nIeq {a b : Nat} (ha : a ≤ 100000) (hb : b ≤ 100000) : nI a = nI b ↔ a = b := nI_eq (by omega) (by omega)
/-- a trade: sort, paper, day, shares, price, rule -/
abbrev Row : Type := Int32 × Int32 × Int32 × Int32 × Int32 × Int32
def r0 : Row := (0, 0, 0, 0, 0, 0)
def tr (T : List Row) (i : Nat) : Row := T.getD i r0
theorem tr_app {T U : List Row} {i : Nat} (h : i < T.length) : tr (T ++ U) i = tr T i := by simp [tr, List.getElem?_append_left h]
theorem tr_end {T : List Row} {x : Row} : tr (T ++ [x]) T.length = x := by simp [tr]
theorem tr_del {T : List Row} {i j : Nat} : tr (T.eraseIdx i) j = if j < i then tr T j else tr T (j + 1) := by
  unfold tr
  rw [List.getD_eq_getElem?_getD, List.getElem?_eraseIdx]
  split <;> simp
theorem tr_set {T : List Row} {i j : Nat} {x : Row} (h : i < T.length) : tr (T.set i x) j = if j = i then x else tr T j := by
  unfold tr
  rw [List.getD_eq_getElem?_getD, List.getElem?_set]
  split
  · rename_i e; subst e; simp [h]
  · rename_i e; simp [Ne.symm e]
theorem tr_ext {T U : List Row} (hl : T.length = U.length) (h : ∀ i, i < T.length → tr T i = tr U i) : T = U := by
  refine List.ext_getElem? fun i => ?_
  by_cases hi : i < T.length
  · have := h i hi
    unfold tr at this
    rw [List.getD_eq_getElem?_getD, List.getD_eq_getElem?_getD, List.getElem?_eq_getElem hi, List.getElem?_eq_getElem (hl ▸ hi)] at this
    rw [List.getElem?_eq_getElem hi, List.getElem?_eq_getElem (hl ▸ hi)]
    simpa using this
  · rw [List.getElem?_eq_none (by omega), List.getElem?_eq_none (by omega)]
def TrL (A : qA) (a r : Nat) : Prop := A.1 a = some (8, 0) ∧ A.1 (a + 1) = some (13, r) ∧ A.1 (a + 2) = some (13, r) ∧ A.1 (a + 3) = some (13, r) ∧ A.1 (a + 4) = some (13, r) ∧ A.1 (a + 5) = some (13, r) ∧ A.1 (a + 6) = some (13, r)
def TrR (S : qS) (a r : Nat) : Prop := gI S a 0 = nI r ∧ gR S a 1 = some (a + 1) ∧ gR S a 2 = some (a + 2) ∧ gR S a 3 = some (a + 3) ∧ gR S a 4 = some (a + 4) ∧ gR S a 5 = some (a + 5) ∧ gR S a 6 = some (a + 6)
def TrC (S : qS) (a : Nat) (T : List Row) : Prop := gI S a 7 = nI T.length ∧ ∀ i, i < T.length → gI S (a + 1) i = (tr T i).1 ∧ gI S (a + 2) i = (tr T i).2.1 ∧ gI S (a + 3) i = (tr T i).2.2.1 ∧ gI S (a + 4) i = (tr T i).2.2.2.1 ∧ gI S (a + 5) i = (tr T i).2.2.2.2.1 ∧ gI S (a + 6) i = (tr T i).2.2.2.2.2
/-- the Trades object at a, of room r, holds T -/
def TrAt (A : qA) (S : qS) (a r : Nat) (T : List Row) : Prop := TrL A a r ∧ TrR S a r ∧ TrC S a T ∧ T.length ≤ r ∧ r ≤ 24
theorem TrAt.fr {A : qA} {S S' : qS} {a r lo hi : Nat} {T : List Row} (h : TrAt A S a r T) (hf : Fr S S' lo hi) (hd : hi ≤ a ∨ a + 7 ≤ lo) : TrAt A S' a r T := by
  obtain ⟨hL, ⟨q0, q1, q2, q3, q4, q5, q6⟩, hC, h1, h2⟩ := h
  have e : ∀ c, c < 7 → ∀ k, gI S' (a + c) k = gI S (a + c) k := fun c hc k => (hf _ (by omega) k).1
  have er : ∀ k, gR S' a k = gR S a k := fun k => (hf _ (by omega) k).2.2
  refine ⟨hL, ⟨(e 0 (by omega) 0).trans q0, (er 1).trans q1, (er 2).trans q2, (er 3).trans q3, (er 4).trans q4, (er 5).trans q5, (er 6).trans q6⟩, ⟨(e 0 (by omega) 7).trans hC.1, fun i hi => ?_⟩, h1, h2⟩
  rw [e 1 (by omega), e 2 (by omega), e 3 (by omega), e 4 (by omega), e 5 (by omega), e 6 (by omega)]
  exact hC.2 i hi
def hasT (T : List Row) (t : Int32) : Bool := decide (¬ t < 0 ∧ ¬ nI T.length ≤ t)
theorem hasT_i {T : List Row} {t : Int32} (hT : T.length ≤ 100000) (h : hasT T t = true) : ∃ i, i < T.length ∧ t = nI i := by
  have h := of_decide_eq_true h
  exact nI_idx hT h.1 h.2
theorem hasT_n {T : List Row} {i : Nat} (hT : T.length ≤ 100000) (h : i < T.length) : hasT T (nI i) = true := decide_eq_true ⟨nI_pos (by omega), nI_ge h (by omega)⟩
/-- the sell number t -/
def isSellT (T : List Row) (t : Int32) : Bool := hasT T t && decide ((tr T t.toNatClampNeg).1 = 1)
theorem isSellT_i {T : List Row} {t : Int32} (hT : T.length ≤ 100000) (h : isSellT T t = true) : ∃ i, i < T.length ∧ t = nI i ∧ (tr T i).1 = 1 := by
  have h := Bool.and_eq_true_iff.mp h
  obtain ⟨i, hi, rfl⟩ := hasT_i hT h.1
  have h2 := of_decide_eq_true h.2
  rw [cl_n (by omega)] at h2
  exact ⟨i, hi, rfl, h2⟩
def spl (T : List Row) : Nat → Nat
  | 0 => 0
  | i + 1 => spl T i + if (tr T i).1 = 2 then 1 else 0
theorem spl_le (T : List Row) : ∀ i, spl T i ≤ i
  | 0 => Nat.le_refl 0
  | i + 1 => by have := spl_le T i; unfold spl; split <;> omega
def lastD (T : List Row) : Nat → Int32
  | 0 => 0
  | i + 1 => if lastD T i < (tr T i).2.2.1 then (tr T i).2.2.1 else lastD T i
