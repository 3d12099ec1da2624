/-! ONE PAPER BY ITSELF: what class and reference both come to; bounds of shares, chains, lengths -/
def pie0 : Pie := (0, 0, 0, 0, 0, 0, 0, 0, 0)
def pp (P : List Pie) (i : Nat) : Pie := P.getD i pie0
def isOpn (p : Pie) : Bool := decide (¬ pLeft p ≤ 0)
def nOpn (P : List Pie) : Nat := (P.filter isOpn).length
/-- the last lot replaces open pieces, one behind the other -/
def buyP (w day : Int32) : List Pie → List Lot → List Pie × List Lot
  | [], L => ([], L)
  | p :: P, L => if (lt L (L.length - 1)).2.2.2.2.1 = true then (p :: P, L) else if isOpn p = false ∨ w < day - p.1 then (p :: (buyP w day P L).1, (buyP w day P L).2) else ((repL p L (L.length - 1)).1 :: (buyP w day P (repL p L (L.length - 1)).2).1, (buyP w day P (repL p L (L.length - 1)).2).2)
def repAll (w day : Int32) : List Pie → List Lot → List Pie × List Lot
  | [], L => ([], L)
  | p :: P, L => ((rbl w day 40 0 p L).1 :: (repAll w day P (rbl w day 40 0 p L).2).1, (repAll w day P (rbl w day 40 0 p L).2).2)
/-- shares 1 .. b, chain up to c -/
def okL (b c : Nat) (l : Lot) : Prop := (∃ s, 1 ≤ s ∧ s ≤ b ∧ l.1 = nI s) ∧ ∃ k, k ≤ c ∧ l.2.2.2.2.2 = nI k
def okP (b c : Nat) (p : Pie) : Prop := (∃ s, s ≤ b ∧ pLeft p = nI s) ∧ ∃ k, k ≤ c ∧ p.2.2.1 = nI k
theorem okL.up {b c b' c' : Nat} {l : Lot} (h : okL b c l) (hb : b ≤ b') (hc : c ≤ c') : okL b' c' l := by
  obtain ⟨⟨s, h1, h2, h3⟩, k, h4, h5⟩ := h
  exact ⟨⟨s, h1, by omega, h3⟩, k, by omega, h5⟩
theorem okP.up {b c b' c' : Nat} {p : Pie} (h : okP b c p) (hb : b ≤ b') (hc : c ≤ c') : okP b' c' p := by
  obtain ⟨⟨s, h2, h3⟩, k, h4, h5⟩ := h
  exact ⟨⟨s, by omega, h3⟩, k, by omega, h5⟩
theorem lt_mem {L : List Lot} {i : Nat} (h : i < L.length) : lt L i ∈ L := by
  rw [lt, List.getD_eq_getElem?_getD, List.getElem?_eq_getElem h, Option.getD_some]
  exact List.getElem_mem h
def mxN : Nat := 10000000
theorem nIleB {a b : Nat} (ha : a ≤ 1000000000) (hb : b ≤ 1000000000) : nI a ≤ nI b ↔ a ≤ b := nI_leI (by omega) (by omega)
theorem nIltB {a b : Nat} (ha : a ≤ 1000000000) (hb : b ≤ 1000000000) : nI a < nI b ↔ a < b := nI_ltI (by omega) (by omega)
theorem nIeqB {a b : Nat} (ha : a ≤ 1000000000) (hb : b ≤ 1000000000) : nI a = nI b ↔ a = b := nI_eq (by omega) (by omega)
theorem nI_sub {a b : Nat} (h : b ≤ a) : nI a - nI b = nI (a - b) := by
  have := nI_subl (a := b) (b := a - b)
  rwa [show b + (a - b) = a by omega] at this
theorem pos_nI {x : Int32} (h : ¬ x ≤ 0) : ∃ j, 1 ≤ j ∧ j < 2 ^ 31 ∧ x = nI j := by
  obtain ⟨j, hj, e⟩ := nI_of (x := x) (fun z => h (Int32.le_of_lt z))
  refine ⟨j, ?_, hj, e⟩
  rcases Nat.eq_zero_or_pos j with z | z
  · subst z; exact absurd (by rw [e]; decide) h
  · exact z
theorem not_le_0 {s : Nat} (h : s ≤ 1000000000) : (nI s ≤ 0) ↔ s = 0 := by
  rw [show (0 : Int32) = nI 0 from rfl, nIleB h (by omega)]
  omega
theorem lt_nI {x : Int32} {s : Nat} (h : ¬ x ≤ 0) (hs : s ≤ 1000000000) (h2 : x < nI s) : ∃ j, 1 ≤ j ∧ j < s ∧ x = nI j := by
  obtain ⟨j, h1, hj, e⟩ := pos_nI h
  rw [e] at h2
  have := (nI_ltI hj (show s < 2 ^ 31 by omega)).mp h2
  exact ⟨j, h1, this, e⟩
/-- a part of a list of good lots -/
theorem partIf_ok {b c i : Nat} {L : List Lot} {sh : Int32} (hb : b ≤ mxN) (hi : i < L.length) (h : ∀ l, l ∈ L → okL b c l) : ∀ l, l ∈ partIf L i sh → okL b c l := by
  unfold mxN at hb
  intro l hl
  unfold partIf at hl
  by_cases z : ¬ sh ≤ 0 ∧ sh < (lt L i).1
  · rw [if_pos z] at hl
    obtain ⟨⟨s, s1, s2, s3⟩, k, k1, k2⟩ := h _ (lt_mem hi)
    obtain ⟨j, j1, j2, e⟩ := lt_nI z.1 (show s ≤ 1000000000 by omega) (by rw [← s3]; exact z.2)
    unfold partL at hl
    rcases List.mem_append.mp hl with w | w
    · exact h _ (List.mem_of_mem_take w)
    · rcases List.mem_cons.mp w with w | w
      · subst w; exact ⟨⟨j, j1, by omega, e⟩, k, k1, k2⟩
      · rcases List.mem_cons.mp w with w | w
        · subst w
          refine ⟨⟨s - j, by omega, by omega, ?_⟩, k, k1, k2⟩
          show (lt L i).1 - sh = _
          rw [s3, e, nI_sub (by omega)]
        · exact h _ (List.mem_of_mem_drop w)
  · rw [if_neg z] at hl
    exact h _ hl
/-- the part's shares: as many as asked for, if there are more -/
theorem partIf_sh {b c i s w : Nat} {L : List Lot} (hb : b ≤ mxN) (hi : i < L.length) (h : ∀ l, l ∈ L → okL b c l) (hs : (lt L i).1 = nI s) (hsb : s ≤ b) (hw : 1 ≤ w) (hwb : w ≤ 1000000000) : (lt (partIf L i (nI w)) i).1 = nI (min w s) := by
  unfold mxN at hb
  unfold partIf
  by_cases z : w < s
  · rw [if_pos ⟨by rw [not_le_0 hwb]; omega, by rw [hs, nIltB hwb (by omega)]; exact z⟩, lt_part hi, if_neg (by omega), if_pos rfl, Nat.min_eq_left (by omega)]
    rfl
  · rw [if_neg (fun y => z (by have := y.2; rwa [hs, nIltB hwb (by omega)] at this)), hs, Nat.min_eq_right (by omega)]
theorem repL_ok {b c i : Nat} {L : List Lot} {p : Pie} (hb : b ≤ mxN) (hc : c ≤ mxN) (hi : i < L.length) (hp : okP b c p) (h : ∀ l, l ∈ L → okL b (c + 1) l) : okP b c (repL p L i).1 ∧ ∀ l, l ∈ (repL p L i).2 → okL b (c + 1) l := by
  have hb' := hb
  unfold mxN at hb hc
  obtain ⟨⟨x, x1, x2⟩, k, k1, k2⟩ := hp
  unfold repL
  by_cases z : 0 < pLeft p
  · rw [if_pos z]
    have x0 : 1 ≤ x := by
      rcases Nat.eq_zero_or_pos x with e | e
      · rw [x2, e] at z; exact absurd z (by decide)
      · exact e
    have hq := partIf_ok (sh := pLeft p) hb' hi h
    obtain ⟨⟨s, s1, s2, s3⟩, -⟩ := h _ (lt_mem hi)
    have hm := partIf_sh hb' hi h s3 s2 x0 (by omega)
    rw [← x2] at hm
    have pl := partIf_len (sh := pLeft p) hi
    have hown := hq _ (lt_mem pl.1)
    refine ⟨⟨⟨x - min x s, by omega, ?_⟩, k, k1, k2⟩, fun l hl => ?_⟩
    · show pLeft p - (lt (partIf L i (pLeft p)) i).1 = _
      rw [hm, x2, nI_sub (by omega)]
    · rcases List.mem_or_eq_of_mem_set hl with w | w
      · exact hq _ w
      · subst w
        obtain ⟨hw1, k', k3, k4⟩ := hown
        refine ⟨hw1, ?_⟩
        show ∃ k, k ≤ c + 1 ∧ (if _ < p.2.2.1 + 1 then p.2.2.1 + 1 else _) = nI k
        rw [k2, nI_1]
        split
        · exact ⟨k + 1, by omega, rfl⟩
        · exact ⟨k', k3, k4⟩
  · rw [if_neg z]
    exact ⟨⟨⟨x, x1, x2⟩, k, k1, k2⟩, h⟩
def opi (p : Pie) : Nat := if isOpn p then 1 else 0
theorem nOpn_cons (p : Pie) (P : List Pie) : nOpn (p :: P) = opi p + nOpn P := by
  unfold nOpn opi
  cases h : isOpn p
  · rw [List.filter_cons_of_neg (by simp [h])]; simp
  · rw [List.filter_cons_of_pos h]; simp; omega
theorem nOpn_nil : nOpn [] = 0 := rfl
theorem nOpn_app (P Q : List Pie) : nOpn (P ++ Q) = nOpn P + nOpn Q := by
  unfold nOpn
  rw [List.filter_append, List.length_append]
theorem opi_closed {p : Pie} (h : pLeft p ≤ 0) : opi p = 0 := by
  unfold opi isOpn
  rw [decide_eq_false (fun z => z h)]
  rfl
theorem opi_le (p : Pie) : opi p ≤ 1 := by unfold opi; split <;> omega
theorem isOpn_f {p : Pie} : isOpn p = false ↔ pLeft p ≤ 0 := by
  unfold isOpn
  rw [decide_eq_false_iff_not, Classical.not_not]
theorem isOpn_t {p : Pie} : isOpn p = true ↔ ¬ pLeft p ≤ 0 := by
  unfold isOpn
  rw [decide_eq_true_iff]
theorem opi_open {p : Pie} (h : ¬ pLeft p ≤ 0) : opi p = 1 := by
  unfold opi
  rw [isOpn_t.mpr h]
  rfl
theorem repL_opn {i : Nat} {L : List Lot} {p : Pie} (hi : i < L.length) (h : ¬ pLeft p ≤ 0) : (repL p L i).2.length + opi (repL p L i).1 ≤ L.length + opi p := by
  rw [opi_open h]
  rcases repL_len (p := p) hi with e | e
  · rw [opi_closed e.1]; omega
  · have := opi_le (repL p L i).1; omega
theorem rbl_ok {b c : Nat} {w day : Int32} (hb : b ≤ mxN) (hc : c ≤ mxN) : ∀ n i (p : Pie) (L : List Lot), okP b c p → (∀ l, l ∈ L → okL b (c + 1) l) → okP b c (rbl w day n i p L).1 ∧ ∀ l, l ∈ (rbl w day n i p L).2 → okL b (c + 1) l := by
  intro n
  induction n with
  | zero => intro i p L hp h; exact ⟨hp, h⟩
  | succ n ih =>
    intro i p L hp h
    rw [rbl]
    by_cases c1 : L.length ≤ i
    · rw [if_pos c1]; exact ⟨hp, h⟩
    · rw [if_neg c1]
      by_cases c2 : pLeft p ≤ 0
      · rw [if_pos c2]; exact ⟨hp, h⟩
      · rw [if_neg c2]
        split
        · exact ih _ _ _ hp h
        · split
          · exact ih _ _ _ hp h
          · have := repL_ok hb hc (show i < L.length by omega) hp h
            exact ih _ _ _ this.1 this.2
theorem rbl_opn {w day : Int32} {n i : Nat} {p : Pie} {L : List Lot} : (rbl w day n i p L).2.length + opi (rbl w day n i p L).1 ≤ L.length + 1 := by
  rcases rbl_len w day n i p L with e | e
  · rw [opi_closed e.1]; omega
  · have := opi_le (rbl w day n i p L).1; omega
theorem rbl_ge (w day : Int32) : ∀ n i p L, L.length ≤ (rbl w day n i p L).2.length := by
  intro n
  induction n with
  | zero => intro i p L; exact Nat.le_refl _
  | succ n ih =>
    intro i p L
    rw [rbl]
    by_cases c : L.length ≤ i
    · rw [if_pos c]; exact Nat.le_refl _
    · rw [if_neg c]
      split
      · exact Nat.le_refl _
      · split
        · exact ih _ _ _
        · split
          · exact ih _ _ _
          · exact Nat.le_trans (repL_ge (by omega)).1 (ih _ _ _)
theorem buyP_ok {b c : Nat} {w day : Int32} (hb : b ≤ mxN) (hc : c ≤ mxN) : ∀ (P : List Pie) (L : List Lot), 0 < L.length → (∀ p, p ∈ P → okP b c p) → (∀ l, l ∈ L → okL b (c + 1) l) → (∀ p, p ∈ (buyP w day P L).1 → okP b c p) ∧ (∀ l, l ∈ (buyP w day P L).2 → okL b (c + 1) l) ∧ (buyP w day P L).2.length + nOpn (buyP w day P L).1 ≤ L.length + nOpn P ∧ (buyP w day P L).1.length = P.length := by
  intro P
  induction P with
  | nil => intro L h0 hp h; exact ⟨hp, h, Nat.le_refl _, rfl⟩
  | cons p P ih =>
    intro L h0 hp h
    rw [buyP]
    by_cases c1 : (lt L (L.length - 1)).2.2.2.2.1 = true
    · rw [if_pos c1]; exact ⟨hp, h, Nat.le_refl _, rfl⟩
    · rw [if_neg c1]
      by_cases c2 : isOpn p = false ∨ w < day - p.1
      · rw [if_pos c2]
        obtain ⟨i1, i2, i3, i4⟩ := ih L h0 (fun q hq => hp q (List.mem_cons_of_mem _ hq)) h
        refine ⟨fun q hq => ?_, i2, ?_, by rw [List.length_cons, List.length_cons, i4]⟩
        · rcases List.mem_cons.mp hq with e | e
          · subst e; exact hp _ (List.mem_cons_self ..)
          · exact i1 q e
        · simp only [nOpn_cons]; omega
      · rw [if_neg c2]
        have hr := repL_ok hb hc (show L.length - 1 < L.length by omega) (hp p (List.mem_cons_self ..)) h
        have hg := (repL_ge (p := p) (show L.length - 1 < L.length by omega)).1
        have ho := repL_opn (p := p) (show L.length - 1 < L.length by omega) (fun z => c2 (Or.inl (isOpn_f.mpr z)))
        obtain ⟨i1, i2, i3, i4⟩ := ih (repL p L (L.length - 1)).2 (by omega) (fun q hq => hp q (List.mem_cons_of_mem _ hq)) hr.2
        refine ⟨fun q hq => ?_, i2, ?_, by rw [List.length_cons, List.length_cons, i4]⟩
        · rcases List.mem_cons.mp hq with e | e
          · subst e; exact hr.1
          · exact i1 q e
        · simp only [nOpn_cons]; omega
theorem repAll_ok {b c : Nat} {w day : Int32} (hb : b ≤ mxN) (hc : c ≤ mxN) : ∀ (P : List Pie) (L : List Lot), (∀ p, p ∈ P → okP b c p) → (∀ l, l ∈ L → okL b (c + 1) l) → (∀ p, p ∈ (repAll w day P L).1 → okP b c p) ∧ (∀ l, l ∈ (repAll w day P L).2 → okL b (c + 1) l) ∧ (repAll w day P L).2.length + nOpn (repAll w day P L).1 ≤ L.length + P.length ∧ (repAll w day P L).1.length = P.length := by
  intro P
  induction P with
  | nil => intro L hp h; exact ⟨hp, h, Nat.le_refl _, rfl⟩
  | cons p P ih =>
    intro L hp h
    rw [repAll]
    have hr := rbl_ok (w := w) (day := day) hb hc 40 0 p L (hp p (List.mem_cons_self ..)) h
    have ho := rbl_opn (w := w) (day := day) (n := 40) (i := 0) (p := p) (L := L)
    obtain ⟨i1, i2, i3, i4⟩ := ih (rbl w day 40 0 p L).2 (fun q hq => hp q (List.mem_cons_of_mem _ hq)) hr.2
    refine ⟨fun q hq => ?_, i2, ?_, by rw [List.length_cons, List.length_cons, i4]⟩
    · rcases List.mem_cons.mp hq with e | e
      · subst e; exact hr.1
      · exact i1 q e
    · simp only [nOpn_cons, List.length_cons]; omega
