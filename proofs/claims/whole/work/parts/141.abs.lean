/-! sums of shares; a sell's lots; one paper's steps and their bounds -/
def shN : List Lot → Nat
  | [] => 0
  | l :: L => l.1.toNatClampNeg + shN L
theorem shN_app (L M : List Lot) : shN (L ++ M) = shN L + shN M := by
  induction L with
  | nil => simp [shN]
  | cons l L ih => simp only [List.cons_append, shN, ih]; omega
theorem clB {s : Nat} (h : s ≤ 1000000000) : (nI s).toNatClampNeg = s := nI_clamp (by omega)
theorem okL.cl {b c : Nat} {l : Lot} (hb : b ≤ mxN) (h : okL b c l) : l.1 = nI l.1.toNatClampNeg ∧ 1 ≤ l.1.toNatClampNeg ∧ l.1.toNatClampNeg ≤ b := by
  unfold mxN at hb
  obtain ⟨⟨s, s1, s2, s3⟩, -⟩ := h
  rw [s3, clB (by omega)]
  exact ⟨rfl, s1, s2⟩
theorem shSum_N {b c : Nat} {L : List Lot} (hb : b ≤ mxN) (h : ∀ l, l ∈ L → okL b c l) : ∀ i, i ≤ L.length → shSum L i = nI (shN (L.take i)) := by
  intro i
  induction i with
  | zero => intro _; rfl
  | succ i ih =>
    intro hi
    have e := ((h _ (lt_mem hi)).cl hb).1
    have e1 : shSum L (i + 1) = nI (shN (L.take i)) + nI (lt L i).1.toNatClampNeg := by rw [shSum, ih (by omega), ← e]
    rw [e1, nI_add, take_lt hi, shN_app]
    simp only [shN, Nat.add_zero]
theorem shSum_all {b c : Nat} {L : List Lot} (hb : b ≤ mxN) (h : ∀ l, l ∈ L → okL b c l) : shSum L L.length = nI (shN L) := by
  rw [shSum_N hb h _ (Nat.le_refl _), List.take_length]
theorem shN_le {b c : Nat} (hb : b ≤ mxN) : ∀ L : List Lot, (∀ l, l ∈ L → okL b c l) → shN L ≤ mxN * L.length ∧ L.length ≤ shN L := by
  intro L
  induction L with
  | nil => intro _; simp [shN]
  | cons l L ih =>
    intro h
    have h1 := (h l (List.mem_cons_self ..)).cl hb
    have h2 := ih (fun x hx => h x (List.mem_cons_of_mem _ hx))
    unfold mxN at *
    simp only [shN, List.length_cons]
    omega
theorem shN_erase : ∀ (M : List Lot) (i : Nat), i < M.length → shN (M.eraseIdx i) + (lt M i).1.toNatClampNeg = shN M := by
  intro M
  induction M with
  | nil => intro i h; simp at h
  | cons l M ih =>
    intro i h
    cases i with
    | zero => simp [shN, lt]; omega
    | succ i =>
      have := ih i (by simpa using h)
      have e : lt (l :: M) (i + 1) = lt M i := by simp [lt]
      rw [e]
      simp only [List.eraseIdx_cons_succ, shN]
      omega
theorem shN_part {b c i : Nat} {L : List Lot} {sh : Int32} (hb : b ≤ mxN) (hi : i < L.length) (h : ∀ l, l ∈ L → okL b c l) : shN (partIf L i sh) = shN L := by
  unfold partIf
  by_cases z : ¬ sh ≤ 0 ∧ sh < (lt L i).1
  · rw [if_pos z]
    have hcl := (h _ (lt_mem hi)).cl hb
    have hsb : (lt L i).1.toNatClampNeg ≤ 1000000000 := by have := hcl.2.2; unfold mxN at hb; omega
    obtain ⟨j, j1, j2, e⟩ := lt_nI z.1 hsb (by rw [← hcl.1]; exact z.2)
    have e1 : (partOwn (lt L i) sh).1.toNatClampNeg = j := by show sh.toNatClampNeg = _; rw [e, clB (by omega)]
    have e2 : (partRest (lt L i) sh).1.toNatClampNeg = (lt L i).1.toNatClampNeg - j := by
      show ((lt L i).1 - sh).toNatClampNeg = _
      rw [hcl.1, e, nI_sub (by omega), clB (by omega), clB hsb]
    have eL : L = L.take i ++ lt L i :: L.drop (i + 1) := by rw [← lt_drop hi, List.take_append_drop]
    unfold partL
    rw [shN_app, shN, shN, e1, e2]
    have := congrArg shN eL
    rw [shN_app, shN] at this
    omega
  · rw [if_neg z]
theorem sellGo_ok {b c : Nat} {rule : Int32} (hb : b ≤ mxN) : ∀ n x (L : List Lot), (∀ l, l ∈ L → okL b c l) → L.length ≤ n → x ≤ shN L → x ≤ 1000000000 → (∀ l, l ∈ (sellGo rule n (nI x) L).1 → okL b c l) ∧ (∀ l, l ∈ (sellGo rule n (nI x) L).2 → okL b c l) := by
  intro n
  induction n with
  | zero => intro x L h hl hx hxb; exact ⟨fun l z => by simp [sellGo] at z, h⟩
  | succ n ih =>
    intro x L h hl hx hxb
    rw [sellGo]
    by_cases c1 : nI x ≤ 0
    · rw [if_pos c1]; exact ⟨fun l z => by simp at z, h⟩
    · rw [if_neg c1]
      rw [not_le_0 hxb] at c1
      by_cases c2 : L.length = 0
      · rw [if_pos c2]; exact ⟨fun l z => by simp at z, h⟩
      · rw [if_neg c2]
        have hp := pick_lt (L := L) (rule := rule) (by omega)
        have hcl := (h _ (lt_mem hp)).cl hb
        have hm := partIf_sh hb hp h hcl.1 hcl.2.2 (show 1 ≤ x by omega) hxb
        have hq := partIf_ok (sh := nI x) hb hp h
        have pl := partIf_len (sh := nI x) hp
        have hs := shN_part (sh := nI x) hb hp h
        have he := shN_erase _ _ pl.1
        rw [hs, hm, clB (by omega)] at he
        have hq' : ∀ l, l ∈ (partIf L (pick L rule) (nI x)).eraseIdx (pick L rule) → okL b c l := fun l hl => hq l (List.mem_of_mem_eraseIdx hl)
        have hlen : x ≤ (lt L (pick L rule)).1.toNatClampNeg ∨ partIf L (pick L rule) (nI x) = L := by
          by_cases z : x < (lt L (pick L rule)).1.toNatClampNeg
          · exact Or.inl (by omega)
          · right
            unfold partIf
            rw [if_neg (fun y => z (by have := y.2; rw [hcl.1, nIltB hxb (by have := hcl.2.2; unfold mxN at hb; omega)] at this; exact this))]
        rw [hm, nI_sub (by omega)]
        have key : (∀ l, l ∈ (sellGo rule n (nI (x - min x (lt L (pick L rule)).1.toNatClampNeg)) ((partIf L (pick L rule) (nI x)).eraseIdx (pick L rule))).1 → okL b c l) ∧ (∀ l, l ∈ (sellGo rule n (nI (x - min x (lt L (pick L rule)).1.toNatClampNeg)) ((partIf L (pick L rule) (nI x)).eraseIdx (pick L rule))).2 → okL b c l) := by
          rcases hlen with z | z
          · rw [show x - min x (lt L (pick L rule)).1.toNatClampNeg = 0 by omega, sellGo_stop (by decide)]
            exact ⟨fun l z => by simp at z, hq'⟩
          · refine ih _ _ hq' ?_ (by omega) (by omega)
            rw [List.length_eraseIdx_of_lt pl.1, z]
            omega
        refine ⟨fun l hl => ?_, key.2⟩
        rcases List.mem_cons.mp hl with e | e
        · subst e; exact hq _ (lt_mem pl.1)
        · exact key.1 l e
/-- lots, pieces, what is lost, whether a sell was short, first piece and many of each sell -/
abbrev PSt : Type := List Lot × List Pie × Int64 × Bool × (Nat → Nat) × (Nat → Nat)
def p0 : PSt := ([], [], 0, false, fun _ => 0, fun _ => 0)
def upN (g : Nat → Nat) (t v : Nat) : Nat → Nat := fun j => if j = t then v else g j
def aBuy (w : Int32) (t : Nat) (day sh pr : Int32) (s : PSt) : PSt := ((buyP w day s.2.1 (s.1 ++ [newLot (nI t) day sh pr])).2, (buyP w day s.2.1 (s.1 ++ [newLot (nI t) day sh pr])).1, s.2.2)
def aSplit (a b : Int32) (s : PSt) : PSt := (spL a b s.1, s.2.1.map (spP a b), spZ a b s.1 s.2.2.1, s.2.2.2)
def soldL (day pr rule sh : Int32) (L : List Lot) : List Pie := (sellGo rule 40 sh L).1.map (fun l => newPie day l pr)
def aSell (w : Int32) (t : Nat) (day sh pr rule : Int32) (s : PSt) : PSt :=
  if sh ≤ shSum s.1 s.1.length then ((repAll w day (soldL day pr rule sh s.1) (sellGo rule 40 sh s.1).2).2, s.2.1 ++ (repAll w day (soldL day pr rule sh s.1) (sellGo rule 40 sh s.1).2).1, s.2.2.1, s.2.2.2.1, upN s.2.2.2.2.1 t s.2.1.length, upN s.2.2.2.2.2 t (sellGo rule 40 sh s.1).1.length)
  else (s.1, s.2.1, s.2.2.1, true, s.2.2.2.2)
def aStep (w : Int32) (T : List Row) (t : Nat) (s : PSt) : PSt :=
  if (tr T t).1 = 0 then aBuy w t (tr T t).2.2.1 (tr T t).2.2.2.1 (tr T t).2.2.2.2.1 s
  else if (tr T t).1 = 2 then aSplit (tr T t).2.2.2.1 (tr T t).2.2.2.2.1 s
  else aSell w t (tr T t).2.2.1 (tr T t).2.2.2.1 (tr T t).2.2.2.2.1 (tr T t).2.2.2.2.2 s
def aGo (w last : Int32) (T : List Row) (p : Nat) : List Nat → PSt → PSt
  | [], s => s
  | t :: Q, s => if paF (tr T t) = p ∧ dayF T t ≤ last then aGo w last T p Q (aStep w T t s) else aGo w last T p Q s
/-- n trades of the paper are booked -/
def PInv (b n : Nat) (s : PSt) : Prop := (∀ l, l ∈ s.1 → okL b n l) ∧ (∀ p, p ∈ s.2.1 → okP b n p) ∧ s.1.length + nOpn s.2.1 ≤ n ∧ 2 * s.2.1.length + n ≤ n * n
theorem PInv.z {b : Nat} : PInv b 0 p0 := ⟨fun l h => by simp [p0] at h, fun l h => by simp [p0] at h, Nat.le_refl _, Nat.le_refl _⟩
theorem newPie_ok {b c : Nat} {day pr : Int32} {l : Lot} (h : okL b c l) : okP b c (newPie day l pr) := by
  obtain ⟨⟨s, s1, s2, s3⟩, k, k1, k2⟩ := h
  refine ⟨?_, k, k1, k2⟩
  have e : pLeft (newPie day l pr) = if l.2.1 ≤ l.1.toInt64 * pr.toInt64 then 0 else l.1 := rfl
  rw [e]
  split
  · exact ⟨0, by omega, rfl⟩
  · exact ⟨s, s2, s3⟩
theorem sq1 (n : Nat) : (n + 1) * (n + 1) = n * n + 2 * n + 1 := by
  rw [Nat.add_mul, Nat.mul_add, Nat.one_mul, Nat.mul_one]
  omega
theorem aBuy_inv {b n t : Nat} {w day pr : Int32} {x : Nat} {s : PSt} (hb : b ≤ mxN) (hn : n ≤ 100) (h : PInv b n s) (hx : 1 ≤ x) (hxb : x ≤ b) : PInv b (n + 1) (aBuy w t day (nI x) pr s) := by
  obtain ⟨h1, h2, h3, h4⟩ := h
  have hc : n ≤ mxN := by unfold mxN; omega
  obtain ⟨k1, k2, k3, k4⟩ := buyP_ok (w := w) (day := day) hb hc s.2.1 (s.1 ++ [newLot (nI t) day (nI x) pr]) (by simp) h2 (fun l hl => by
    rcases List.mem_append.mp hl with e | e
    · exact (h1 l e).up (Nat.le_refl _) (by omega)
    · rw [List.mem_singleton] at e; subst e
      exact ⟨⟨x, hx, hxb, rfl⟩, 0, by omega, rfl⟩)
  refine ⟨k2, fun p hp => (k1 p hp).up (Nat.le_refl _) (by omega), ?_, ?_⟩
  · rw [List.length_append, List.length_singleton] at k3
    show (buyP _ _ _ _).2.length + nOpn (buyP _ _ _ _).1 ≤ _
    omega
  · show 2 * (buyP _ _ _ _).1.length + _ ≤ _
    rw [k4, sq1]
    omega
theorem aSell_inv {b n t : Nat} {w day pr rule : Int32} {x : Nat} {s : PSt} (hb : b ≤ mxN) (hn : n ≤ 39) (h : PInv b n s) (hxb : x ≤ 1000000000) : PInv b (n + 1) (aSell w t day (nI x) pr rule s) := by
  obtain ⟨h1, h2, h3, h4⟩ := h
  have hc : n ≤ mxN := by unfold mxN; omega
  have sq : n + 1 + n * n ≤ (n + 1) * (n + 1) := by rw [sq1]; omega
  unfold aSell
  by_cases c : nI x ≤ shSum s.1 s.1.length
  · rw [if_pos c]
    have hs := shN_le hb s.1 h1
    unfold mxN at hs
    rw [shSum_all hb h1, nIleB hxb (by omega)] at c
    have hg := sellGo_ok (rule := rule) hb 40 x s.1 h1 (by omega) c hxb
    have hl := sellGo_len rule 40 (nI x) s.1
    obtain ⟨k1, k2, k3, k4⟩ := repAll_ok (w := w) (day := day) hb hc (soldL day pr rule (nI x) s.1) (sellGo rule 40 (nI x) s.1).2 (fun p hp => by
      unfold soldL at hp
      obtain ⟨l, hl, e⟩ := List.mem_map.mp hp
      subst e
      exact newPie_ok (hg.1 l hl)) (fun l hl => (hg.2 l hl).up (Nat.le_refl _) (by omega))
    have el : (soldL day pr rule (nI x) s.1).length = (sellGo rule 40 (nI x) s.1).1.length := by unfold soldL; rw [List.length_map]
    refine ⟨k2, fun p hp => ?_, ?_, ?_⟩
    · rcases List.mem_append.mp hp with e | e
      · exact (h2 p e).up (Nat.le_refl _) (by omega)
      · exact (k1 p e).up (Nat.le_refl _) (by omega)
    · show (repAll _ _ _ _).2.length + nOpn (s.2.1 ++ (repAll _ _ _ _).1) ≤ _
      rw [nOpn_app]
      omega
    · show 2 * (s.2.1 ++ (repAll _ _ _ _).1).length + _ ≤ _
      rw [List.length_append, k4, el, sq1]
      omega
  · rw [if_neg c]
    exact ⟨fun l hl => (h1 l hl).up (Nat.le_refl _) (by omega), fun p hp => (h2 p hp).up (Nat.le_refl _) (by omega), by show s.1.length + nOpn s.2.1 ≤ _; omega, by show 2 * s.2.1.length + _ ≤ _; omega⟩
