/-! the order of trades: sorted, each once, by rank; what the class's book answers, by papers -/
theorem ordL_perm (D : Nat → Int32) : ∀ n, (ordL D n).Perm (List.range n)
  | 0 => List.Perm.refl _
  | n + 1 => by
    rw [ordL, List.range_succ]
    refine List.perm_middle.trans ?_
    rw [List.take_append_drop]
    exact ((ordL_perm D n).cons n).trans (List.perm_append_singleton n (List.range n)).symm
/-- x goes ahead of y -/
def ahd (D : Nat → Int32) (x y : Nat) : Prop := D x < D y ∨ D x = D y ∧ x < y
def lex (D : Nat → Int32) (Q : List Nat) : Prop := Q.Pairwise (ahd D)
theorem ahd.le {D : Nat → Int32} {x y : Nat} (h : ahd D x y) : D x ≤ D y := by
  rcases h with h | h
  · exact Int32.le_of_lt h
  · rw [h.1]; exact Int32.le_refl _
theorem inp_ge {D : Nat → Int32} {Q : List Nat} {t : Nat} : ∀ n i, inp D Q t n ≤ i → i < n → D t < D (ot Q i)
  | 0, i, _, h => by omega
  | n + 1, i, h, hi => by
    rw [inp] at h
    by_cases c : D (ot Q n) ≤ D t
    · rw [if_pos c] at h; omega
    · rw [if_neg c] at h
      by_cases e : i = n
      · subst e; exact Int32.not_le.mp c
      · exact inp_ge n i h (by omega)
theorem inp_at {D : Nat → Int32} {Q : List Nat} {t : Nat} : ∀ n, 0 < inp D Q t n → D (ot Q (inp D Q t n - 1)) ≤ D t
  | 0, h => by simp [inp] at h
  | n + 1, h => by
    rw [inp] at h ⊢
    by_cases c : D (ot Q n) ≤ D t
    · rw [if_pos c]; exact c
    · rw [if_neg c] at h ⊢; exact inp_at n h
theorem mem_take_ot {Q : List Nat} {p x : Nat} (h : x ∈ Q.take p) : ∃ i, i < p ∧ i < Q.length ∧ ot Q i = x := by
  obtain ⟨i, hi, e⟩ := List.mem_iff_getElem.mp h
  rw [List.length_take] at hi
  refine ⟨i, by omega, by omega, ?_⟩
  rw [List.getElem_take] at e
  simp [ot, List.getElem?_eq_getElem (show i < Q.length by omega), e]
theorem mem_drop_ot {Q : List Nat} {p x : Nat} (h : x ∈ Q.drop p) : ∃ i, p ≤ i ∧ i < Q.length ∧ ot Q i = x := by
  obtain ⟨i, hi, e⟩ := List.mem_iff_getElem.mp h
  rw [List.length_drop] at hi
  refine ⟨p + i, by omega, by omega, ?_⟩
  rw [List.getElem_drop] at e
  simp [ot, List.getElem?_eq_getElem (show p + i < Q.length by omega), e]
theorem lex_ot {D : Nat → Int32} {Q : List Nat} (h : lex D Q) {i j : Nat} (hij : i < j) (hj : j < Q.length) : ahd D (ot Q i) (ot Q j) := by
  have := List.pairwise_iff_getElem.mp h i j (by omega) hj hij
  simpa [ot, List.getElem?_eq_getElem hj, List.getElem?_eq_getElem (show i < Q.length by omega)] using this
theorem ordL_lex (D : Nat → Int32) : ∀ n, lex D (ordL D n)
  | 0 => List.Pairwise.nil
  | n + 1 => by
    have ih := ordL_lex D n
    have hl := ordL_len D n
    have hp := inp_le D (ordL D n) n n
    have big : ∀ y, y ∈ (ordL D n).drop (inp D (ordL D n) n n) → D n < D y := by
      intro y hy
      obtain ⟨i, h1, h2, e⟩ := mem_drop_ot hy
      rw [← e]
      exact inp_ge n i h1 (by omega)
    have small : ∀ x, x ∈ (ordL D n).take (inp D (ordL D n) n n) → D x ≤ D n := by
      intro x hx
      obtain ⟨i, h1, h2, e⟩ := mem_take_ot hx
      have ha := inp_at (D := D) (Q := ordL D n) (t := n) n (by omega)
      rw [← e]
      by_cases z : i = inp D (ordL D n) n n - 1
      · rw [z]; exact ha
      · exact Int32.le_trans (lex_ot ih (show i < inp D (ordL D n) n n - 1 by omega) (by omega)).le ha
    rw [ordL]
    refine List.pairwise_append.mpr ⟨ih.sublist (List.take_sublist _ _), List.pairwise_cons.mpr ⟨fun y hy => Or.inl (big y hy), ih.sublist (List.drop_sublist _ _)⟩, fun x hx y hy => ?_⟩
    rcases List.mem_cons.mp hy with e | e
    · subst e
      have hx' : x < y := ordL_lt D y x (List.mem_of_mem_take hx)
      by_cases z : D x < D y
      · exact Or.inl z
      · exact Or.inr ⟨Int32.le_antisymm (small x hx) (Int32.not_lt.mp z), hx'⟩
    · exact Or.inl (Int32.lt_of_le_of_lt (small x hx) (big y e))
theorem spQ_perm {T : List Row} {Q Q' : List Nat} (h : Q.Perm Q') : spQ T Q = spQ T Q' := by
  induction h with
  | nil => rfl
  | cons x _ ih => rw [spQ, spQ, ih]
  | swap x y l => simp only [spQ]; omega
  | trans _ _ i1 i2 => rw [i1, i2]
theorem spQ_app {T : List Row} (Q R : List Nat) : spQ T (Q ++ R) = spQ T Q + spQ T R := by
  induction Q with
  | nil => simp [spQ]
  | cons x Q ih => simp only [List.cons_append, spQ, ih]; omega
theorem spQ_range (T : List Row) : ∀ n, spQ T (List.range n) = spl T n
  | 0 => rfl
  | n + 1 => by
    rw [List.range_succ, spQ_app, spQ_range T n, spl]
    simp only [spQ, isSpl, Nat.add_zero]
def qT (T : List Row) : List Nat := ordL (dayF T) T.length
theorem qT_len (T : List Row) : (qT T).length = T.length := ordL_len _ _
theorem qT_spl (T : List Row) : spQ T (qT T) = spl T T.length := by unfold qT; rw [spQ_perm (ordL_perm _ _), spQ_range]
theorem qT_srt (T : List Row) : srt T (qT T) := (ordL_lex (dayF T) T.length).imp ahd.le
theorem qT_mem {T : List Row} {t : Nat} : t ∈ qT T ↔ t < T.length := by
  unfold qT
  rw [(ordL_perm _ _).mem_iff, List.mem_range]
/-- how many go ahead of t -/
def rnk (D : Nat → Int32) (t : Nat) : Nat → Nat
  | 0 => 0
  | n + 1 => rnk D t n + if D n < D t ∨ D n = D t ∧ n < t then 1 else 0
def ahB (D : Nat → Int32) (t x : Nat) : Bool := decide (D x < D t ∨ D x = D t ∧ x < t)
theorem rnk_range (D : Nat → Int32) (t : Nat) : ∀ n, rnk D t n = ((List.range n).filter (ahB D t)).length
  | 0 => rfl
  | n + 1 => by
    rw [List.range_succ, List.filter_append, List.length_append, rnk, rnk_range D t n]
    congr 1
    by_cases c : D n < D t ∨ D n = D t ∧ n < t
    · rw [if_pos c, List.filter_cons_of_pos (show ahB D t n = true from decide_eq_true c)]; rfl
    · rw [if_neg c, List.filter_cons_of_neg (show ¬ ahB D t n = true from fun z => c (of_decide_eq_true z))]; rfl
theorem ahd_asym {D : Nat → Int32} {x y : Nat} (h : ahd D x y) : ¬ ahd D y x := by
  intro h'
  rcases h with h | h <;> rcases h' with h' | h'
  · exact absurd h' (Int32.lt_asymm h)
  · rw [h'.1] at h; exact Int32.lt_irrefl h
  · rw [h.1] at h'; exact Int32.lt_irrefl h'
  · omega
theorem rnk_ot {D : Nat → Int32} {n t : Nat} (h : t < n) : rnk D t n < n ∧ ot (ordL D n) (rnk D t n) = t := by
  have hm : t ∈ ordL D n := (ordL_perm D n).mem_iff.mpr (List.mem_range.mpr h)
  obtain ⟨i, hi, e⟩ := List.mem_iff_getElem.mp hm
  have hl := ordL_len D n
  have lx := ordL_lex D n
  have eo : ot (ordL D n) i = t := by simp [ot, List.getElem?_eq_getElem hi, e]
  have er : rnk D t n = i := by
    rw [rnk_range, ← ((ordL_perm D n).filter (ahB D t)).length_eq]
    have es : ordL D n = (ordL D n).take i ++ (ordL D n).drop i := (List.take_append_drop _ _).symm
    rw [es, List.filter_append, List.length_append]
    have a1 : ((ordL D n).take i).filter (ahB D t) = (ordL D n).take i := List.filter_eq_self.mpr fun x hx => by
      obtain ⟨j, j1, j2, j3⟩ := mem_take_ot hx
      have := lex_ot lx j1 hi
      rw [j3, eo] at this
      exact decide_eq_true this
    have a2 : ((ordL D n).drop i).filter (ahB D t) = [] := List.filter_eq_nil_iff.mpr fun x hx => by
      obtain ⟨j, j1, j2, j3⟩ := mem_drop_ot hx
      intro z
      have z := of_decide_eq_true z
      by_cases ej : j = i
      · subst ej
        rw [eo] at j3
        subst j3
        rcases z with z | z
        · exact Int32.lt_irrefl z
        · omega
      · have := lex_ot lx (show i < j by omega) j2
        rw [j3, eo] at this
        exact ahd_asym this z
    rw [a1, a2, List.length_take, List.length_nil]
    omega
  rw [er]
  exact ⟨by omega, eo⟩
/-- trades that may be told: valid rows, up to 24, splits up to 4 -/
def vT (T : List Row) : Prop := (∀ i, i < T.length → vRow (tr T i)) ∧ spl T T.length ≤ 4 ∧ T.length ≤ 24
def aRes (w last : Int32) (T : List Row) (p : Nat) : PSt := aGo w last T p (qT T) p0
def shortT (w last : Int32) (T : List Row) : Bool := (aRes w last T 0).2.2.2.1 || (aRes w last T 1).2.2.2.1 || (aRes w last T 2).2.2.2.1
theorem shortT_f {w last : Int32} {T : List Row} : shortT w last T = false ↔ ∀ p, p < 3 → (aRes w last T p).2.2.2.1 = false := by
  unfold shortT
  rw [Bool.or_eq_false_iff, Bool.or_eq_false_iff]
  constructor
  · intro h p hp
    rcases (show p = 0 ∨ p = 1 ∨ p = 2 by omega) with e | e | e <;> subst e
    · exact h.1.1
    · exact h.1.2
    · exact h.2
  · intro h
    exact ⟨⟨h 0 (by omega), h 1 (by omega)⟩, h 2 (by omega)⟩
theorem CR.z {pf : Nat → Nat} : CR pf c0 (fun _ => p0) := by
  refine ⟨fun _ _ => rfl, fun _ _ => rfl, fun c hc => by simp [c0] at hc, rfl, rfl, fun t ht => ⟨0, 0, rfl, rfl, Nat.le_refl _, rfl, rfl, fun j hj => absurd hj (Nat.not_lt_zero _)⟩⟩
def cRes (w last : Int32) (T : List Row) : Bool × CSt := cGo w last T (qT T) c0
theorem book_rel {pf : Nat → Nat} {w last : Int32} {T : List Row} (hT : vT T) (hpf : ∀ t, t < T.length → pf t = paF (tr T t)) : cFit w last T (qT T) c0 ∧ (cRes w last T).1 = !shortT w last T ∧ (shortT w last T = false → CR pf (cRes w last T).2 (aRes w last T) ∧ ∃ nn : Nat → Nat, (∀ p, p < 3 → PInv (999 * 9 ^ 4) (nn p) (aRes w last T p)) ∧ nn 0 + nn 1 + nn 2 ≤ T.length) := by
  obtain ⟨h1, h2, h3⟩ := cGo_rel (pf := pf) (w := w) (last := last) (T := T) (qT T) c0 (fun _ => p0) (fun _ => 0) 0 CR.z (fun _ _ => PInv.z) (fun _ _ => rfl) (fun t ht => ⟨hT.1 t (qT_mem.mp ht), hpf t (qT_mem.mp ht)⟩) (qT_srt T) (by rw [qT_spl]; have := hT.2.1; omega) (by rw [qT_len]; have := hT.2.2; omega)
  have e : (cRes w last T).1 = !shortT w last T := by
    cases hc : (cRes w last T).1
    · obtain ⟨p, hp, z⟩ := h3 hc
      cases hs : shortT w last T
      · have := shortT_f.mp hs p hp
        rw [show aRes w last T p = aGo w last T p (qT T) p0 from rfl, z] at this
        cases this
      · rfl
    · obtain ⟨-, z, -⟩ := h2 hc
      rw [shortT_f.mpr z]
      rfl
  refine ⟨h1, e, fun hs => ?_⟩
  rw [hs] at e
  obtain ⟨j1, j2, nn, j3, j4⟩ := h2 e
  exact ⟨j1, nn, j3, by rw [qT_len] at j4; omega⟩
