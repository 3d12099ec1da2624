/-! THE MACHINE BELOW THE PURE LAYER: what a heap is that holds (A, S), and each transformer by the kit's row. -/
def wsA : List Cond := lw_tbl.filter goodWord
theorem inA {w : Cond} (h : w ∈ lw_tbl) (hg : goodWord w = true) : w ∈ wsA := List.mem_filter.mpr ⟨h, hg⟩
theorem inT {w : Cond} (h : w ∈ tables_1) (hg : goodWord w = true) : w ∈ wsA := inA (List.mem_append_right _ h) hg
theorem wsA_good : ∀ w ∈ wsA, (w.onTables && w.keeps) = true ∨ ∃ ty, w = .arrayClass ty := fun _ h => good_of_word (List.mem_filter.mp h).2
theorem wsA_tbl {args : Array Value} {s : State} (h : ∀ w ∈ lw_tbl, w.before args s = true) : ∀ w ∈ wsA, w.before args s = true := fun w hw => h w (List.mem_filter.mp hw).1
/-- what a field of a class is: 0 an int, 1 a long, 2 a reference -/
def ftcL : List (List Nat) := [[2, 2, 2, 2, 2, 2, 2, 0, 1, 0], [2, 0, 0], [2, 0], [0, 1, 0, 0, 0, 0], [2, 0], [2, 2, 2, 2, 2, 2, 2, 2, 2, 2, 0], [0, 0, 2, 0, 0, 0, 0, 0, 2], [0, 0, 2, 2, 2, 0, 2, 2, 0], [0, 2, 2, 2, 2, 2, 2, 0], [2, 0, 2, 0, 2, 2, 2, 2, 2, 2, 2, 2, 0, 2, 0, 0, 0], [0, 0, 0, 0, 2, 2, 2, 2, 2], [0, 0, 0, 2, 2, 2, 0, 0, 0, 0, 0, 0, 0, 0, 1, 2, 2, 2, 2, 0, 0, 2, 2, 2, 2, 2, 2, 2, 2, 2, 2, 2, 2, 2, 2, 2, 2, 2, 2, 2, 2, 0, 1, 0, 0, 0, 0, 0, 2, 0, 0]]
def ftc (c k : Nat) : Nat := (ftcL.getD c []).getD k 0
def fval (t : Nat) (S : qS) (a k : Nat) : Value := match t with
  | 0 => .int (gI S a k)
  | 1 => .long (gL S a k)
  | _ => va_rf (gR S a k)
abbrev qG : Type := Nat × Heap × va_G × (Nat → ClassId) × (Nat → Nat)
/-- the cell at a is of kind kn.1, of length kn.2, and holds what S says -/
def cOk (b0 : Nat) (D : va_G) (cy : Nat → ClassId) (ad : Nat → Nat) (S : qS) (H : Heap) (a : Nat) (kn : Nat × Nat) : Prop := match kn.1 with
  | 12 => b0 ≤ a ∧ H[a]? = some (arrV (cy 12) kn.2 (fun j => .int (gI S a j)))
  | 13 => b0 ≤ a ∧ H[a]? = some (arrV (cy 13) kn.2 (fun j => .int (gI S a j)))
  | 14 => b0 ≤ a ∧ H[a]? = some (arrV (cy 14) kn.2 (fun j => .long (gL S a j)))
  | 15 => b0 ≤ a ∧ H[a]? = some (arrV (cy 15) kn.2 (fun j => .int (gI S a j)))
  | 16 => b0 ≤ a ∧ H[a]? = some (arrV (cy 16) kn.2 (fun j => va_rf (gR S a j)))
  | 17 => b0 ≤ a ∧ H[a]? = some (arrV (cy 17) kn.2 (fun j => va_rf (gR S a j)))
  | 18 => b0 ≤ a ∧ H[a]? = some (arrV (cy 18) kn.2 (fun j => va_rf (gR S a j)))
  | 20 => kn.2 < 13 ∧ a = ad kn.2
  | c => c < 12 ∧ b0 ≤ a ∧ ∃ r : vw_C, vwCl[c]? = some r ∧ t_OB a (D.1 c) r.2.2 (D.2 c) H (fun k => fval (ftc c k) S a k)
/-- the heap H holds (A, S), above the old cells of H0 -/
def Hp (b0 : Nat) (H0 : Heap) (D : va_G) (cy : Nat → ClassId) (ad : Nat → Nat) (A : qA) (S : qS) (H : Heap) : Prop :=
  H.size = A.2.1 ∧ b0 ≤ H.size ∧ (∀ q : Nat, q < b0 → H[q]? = H0[q]?) ∧ (∀ (a : Nat) (kn : Nat × Nat), A.1 a = some kn → cOk b0 D cy ad S H a kn) ∧ (∀ i, i < 13 → A.1 (ad i) = some (20, i) ∧ ad i < b0)
/-- the locals -/
def lsOk (arr : Array Slot) (n : Nat) (ls : qL) : Prop := ls.length = n ∧ arr.size = n ∧ lv_wf arr ∧ ∀ k v, lget ls k = some v → arr[k]? = some (.val v)
theorem lget_lt : ∀ {ls : qL} {k : Nat} {v : Value}, lget ls k = some v → k < ls.length
  | [], _, _, h => by simp [lget] at h
  | _ :: _, 0, _, _ => by simp
  | _ :: t, k + 1, _, h => by have := lget_lt (ls := t) h; simp; omega
def qAs (ls : qL) : List (Nat × Value) := (List.range ls.length).filterMap fun k => (lget ls k).map fun v => (k, v)
theorem mem_qAs {ls : qL} {k : Nat} {v : Value} : (k, v) ∈ qAs ls ↔ lget ls k = some v := by
  unfold qAs
  rw [List.mem_filterMap]
  constructor
  · rintro ⟨j, -, h⟩
    cases hj : lget ls j with
    | none => rw [hj] at h; simp at h
    | some w => rw [hj] at h; simp at h; obtain ⟨rfl, rfl⟩ := h; exact hj
  · intro h
    exact ⟨k, List.mem_range.mpr (lget_lt h), by rw [h]; rfl⟩
theorem lsOk.has {arr : Array Slot} {n : Nat} {ls : qL} (h : lsOk arr n ls) : lv_has arr n (qAs ls) := ⟨h.2.1, h.2.2.1, fun q hq => h.2.2.2 q.1 q.2 (mem_qAs.mp hq)⟩
theorem unl_some {x : Option Value} {v : Value} (h : unl x = some v) : x = some v ∧ ¬ v.category = 2 := by
  cases x with
  | none => simp [unl] at h
  | some w => cases w <;> simp [unl] at h <;> subst h <;> simp [Value.category]
theorem lset_len : ∀ (ls : qL) (k : Nat) (v : Value), (lset ls k v).length = ls.length
  | [], _, _ => rfl
  | _ :: _, 0, _ => rfl
  | _ :: t, 1, v => by simp [lset, lset_len t 0 v]
  | _ :: t, k + 2, v => by simp [lset, lset_len t (k + 1) v]
theorem lget_lset : ∀ (ls : qL) (i j : Nat) (v w : Value), lget (lset ls i v) j = some w → (j = i ∧ w = v) ∨ (j ≠ i ∧ lget ls j = some w ∧ ¬ (j + 1 = i ∧ w.category = 2))
  | [], _, _, _, _, h => by simp [lset, lget] at h
  | x :: t, 0, 0, v, w, h => by simp [lset, lget] at h; exact Or.inl ⟨rfl, h.symm⟩
  | x :: t, 0, j + 1, v, w, h => by simp [lset, lget] at h; exact Or.inr ⟨by omega, h, by omega⟩
  | x :: t, 1, 0, v, w, h => by
    simp [lset, lget] at h
    obtain ⟨h1, h2⟩ := unl_some h
    exact Or.inr ⟨by omega, h1, fun q => h2 q.2⟩
  | x :: t, 1, j + 1, v, w, h => by
    simp [lset, lget] at h
    rcases lget_lset t 0 j v w h with ⟨h1, h2⟩ | ⟨h1, h2, h3⟩
    · exact Or.inl ⟨by omega, h2⟩
    · exact Or.inr ⟨by omega, h2, by omega⟩
  | x :: t, k + 2, 0, v, w, h => by simp [lset, lget] at h; exact Or.inr ⟨by omega, h, by omega⟩
  | x :: t, k + 2, j + 1, v, w, h => by
    simp [lset, lget] at h
    rcases lget_lset t (k + 1) j v w h with ⟨h1, h2⟩ | ⟨h1, h2, h3⟩
    · exact Or.inl ⟨by omega, h2⟩
    · exact Or.inr ⟨by omega, h2, fun q => h3 ⟨by omega, q.2⟩⟩
theorem lset2_len : ∀ (ls : qL) (k : Nat) (v : Value), (lset2 ls k v).length = ls.length
  | [], _, _ => rfl
  | _ :: [], 0, _ => rfl
  | _ :: _ :: _, 0, _ => rfl
  | _ :: t, 1, v => by simp [lset2, lset2_len t 0 v]
  | _ :: t, k + 2, v => by simp [lset2, lset2_len t (k + 1) v]
theorem lget_lset2 : ∀ (ls : qL) (i j : Nat) (v w : Value), lget (lset2 ls i v) j = some w → (j = i ∧ w = v) ∨ (j ≠ i ∧ j ≠ i + 1 ∧ lget ls j = some w ∧ ¬ (j + 1 = i ∧ w.category = 2))
  | [], _, _, _, _, h => by simp [lset2, lget] at h
  | [x], 0, 0, v, w, h => by simp [lset2, lget] at h; exact Or.inl ⟨rfl, h.symm⟩
  | [x], 0, j + 1, v, w, h => by simp [lset2, lget] at h
  | x :: y :: t, 0, 0, v, w, h => by simp [lset2, lget] at h; exact Or.inl ⟨rfl, h.symm⟩
  | x :: y :: t, 0, 1, v, w, h => by simp [lset2, lget] at h
  | x :: y :: t, 0, j + 2, v, w, h => by simp [lset2, lget] at h; exact Or.inr ⟨by omega, by omega, h, by omega⟩
  | x :: t, 1, 0, v, w, h => by
    simp [lset2, lget] at h
    obtain ⟨h1, h2⟩ := unl_some h
    exact Or.inr ⟨by omega, by omega, h1, fun q => h2 q.2⟩
  | x :: t, 1, j + 1, v, w, h => by
    simp [lset2, lget] at h
    rcases lget_lset2 t 0 j v w h with ⟨h1, h2⟩ | ⟨h1, h1', h2, h3⟩
    · exact Or.inl ⟨by omega, h2⟩
    · exact Or.inr ⟨by omega, by omega, h2, by omega⟩
  | x :: t, k + 2, 0, v, w, h => by simp [lset2, lget] at h; exact Or.inr ⟨by omega, by omega, h, by omega⟩
  | x :: t, k + 2, j + 1, v, w, h => by
    simp [lset2, lget] at h
    rcases lget_lset2 t (k + 1) j v w h with ⟨h1, h2⟩ | ⟨h1, h1', h2, h3⟩
    · exact Or.inl ⟨by omega, h2⟩
    · exact Or.inr ⟨by omega, by omega, h2, fun q => h3 ⟨by omega, q.2⟩⟩
theorem lsOk.set1 {arr arr' : Array Slot} {n i : Nat} {ls : qL} {v : Value} (h : lsOk arr n ls) (h' : lv_has arr' n ((i, v) :: (qAs ls).filter (fun q => !(q.1 == i) && !(q.1 + 1 == i && q.2.category == 2)))) : lsOk arr' n (lset ls i v) := by
  refine ⟨by rw [lset_len]; exact h.1, h'.1, h'.2.1, fun k w hk => ?_⟩
  rcases lget_lset ls i k v w hk with ⟨rfl, rfl⟩ | ⟨h1, h2, h3⟩
  · exact h'.2.2 _ List.mem_cons_self
  · refine h'.2.2 (k, w) (List.mem_cons_of_mem _ (List.mem_filter.mpr ⟨mem_qAs.mpr h2, ?_⟩))
    have e1 : (k == i) = false := by simpa using h1
    have e2 : (k + 1 == i && w.category == 2) = false := by
      cases hb : (k + 1 == i && w.category == 2) with
      | false => rfl
      | true => exact absurd (by simpa using hb) h3
    simp [e1, e2]
theorem lsOk.set2 {arr arr' : Array Slot} {n i : Nat} {ls : qL} {v : Value} (h : lsOk arr n ls) (h' : lv_has arr' n ((i, v) :: (qAs ls).filter (fun q => !(q.1 == i) && (!(q.1 == i + 1) && !(q.1 + 1 == i && q.2.category == 2))))) : lsOk arr' n (lset2 ls i v) := by
  refine ⟨by rw [lset2_len]; exact h.1, h'.1, h'.2.1, fun k w hk => ?_⟩
  rcases lget_lset2 ls i k v w hk with ⟨rfl, rfl⟩ | ⟨h1, h1', h2, h3⟩
  · exact h'.2.2 _ List.mem_cons_self
  · refine h'.2.2 (k, w) (List.mem_cons_of_mem _ (List.mem_filter.mpr ⟨mem_qAs.mpr h2, ?_⟩))
    have e1 : (k == i) = false := by simpa using h1
    have e1' : (k == i + 1) = false := by simpa using h1'
    have e2 : (k + 1 == i && w.category == 2) = false := by
      cases hb : (k + 1 == i && w.category == 2) with
      | false => rfl
      | true => exact absurd (by simpa using hb) h3
    simp [e1, e1', e2]
/-- the array classes by kind -/
def tysL (cy : Nat → ClassId) : List (ClassId × FieldType) := [(cy 12, .byte), (cy 13, .int), (cy 14, .long), (cy 15, .boolean), (cy 16, .object RX3), (cy 17, .object RX4), (cy 18, .object RX8)]
/-- the links between nest mates -/
def nestL : List Cond := [.methodLinkNest RX9 15 yX6_init RX9, .methodLinkNest RX9 22 yX7_init RX9, .methodLinkNest RX0 19 yX5_init RX9, .methodLinkNest RX4 17 yX3_init RX9, .methodLinkNest RX9 65 yX1_init RX9, .methodLinkNest RX11 321 yX10_init RX11, .methodLinkNest RX11 299 yX10_stands RX11, .fieldLinkNest RX11 197 RX10 "begun" "Z" RX11, .fieldLinkNest RX11 223 RX10 "window" "I" RX11, .fieldLinkNest RX11 291 RX10 "unsures" "I" RX11, .fieldLinkNest RX11 306 RX10 "gains" "I" RX11, .fieldLinkNest RX11 203 RX10 "trades" "[I" RX11, .fieldLinkNest RX11 297 RX10 "unsure" "[I" RX11, .fieldLinkNest RX11 303 RX10 "may" "[I" RX11, .fieldLinkNest RX11 309 RX10 "sell" "[I" RX11, .fieldLinkNest RX11 316 RX10 "gain" "[I" RX11]
