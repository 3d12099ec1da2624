/-! the relation of the class's book to the papers; each trade keeps it -/
def cnt (p : Nat) (X : List Int32) : Nat := (X.filter (fun c => decide (c = nI p))).length
def tags (G : List CPie) : List Int32 := G.map (·.1)
def fpOk (pf : Nat → Nat) (X : List Int32) (fp pc : Nat → Int32) (a : Nat → PSt) : Prop := ∀ t, pf t < 3 → ∃ i n, fp t = nI i ∧ pc t = nI n ∧ i + n ≤ X.length ∧ (a (pf t)).2.2.2.2.2 t = n ∧ cnt (pf t) (X.take i) = (a (pf t)).2.2.2.2.1 t ∧ ∀ j, j < n → X[i + j]? = some (nI (pf t))
def CR (pf : Nat → Nat) (s : CSt) (a : Nat → PSt) : Prop := (∀ p, p < 3 → s.1 p = (a p).1) ∧ (∀ p, p < 3 → flt p s.2.1 = (a p).2.1) ∧ (∀ c, c ∈ s.2.1 → ∃ p, p < 3 ∧ c.1 = nI p) ∧ s.2.2.1 = opIdx 0 s.2.1 ∧ s.2.2.2.1 = (a 0).2.2.1 + (a 1).2.2.1 + (a 2).2.2.1 ∧ fpOk pf (tags s.2.1) s.2.2.2.2.1 s.2.2.2.2.2 a
def upA (a : Nat → PSt) (p : Nat) (x : PSt) : Nat → PSt := fun q => if q = p then x else a q
theorem upA_at {a : Nat → PSt} {p : Nat} {x : PSt} : upA a p x p = x := if_pos rfl
theorem upA_ne {a : Nat → PSt} {p q : Nat} {x : PSt} (h : ¬ q = p) : upA a p x q = a q := if_neg h
theorem nI3 {p q : Nat} (hp : p < 3) (hq : q < 3) (h : ¬ q = p) : ¬ nI q = nI p := fun z => h ((nIeq (by omega) (by omega)).mp z)
theorem clo_mem {G K : List CPie} (h : clo G K) (hG : ∀ c, c ∈ G → ∃ p, p < 3 ∧ c.1 = nI p) : ∀ c, c ∈ K → ∃ p, p < 3 ∧ c.1 = nI p := by
  intro c hc
  have : c.1 ∈ K.map (·.1) := List.mem_map_of_mem hc
  rw [h.tags] at this
  obtain ⟨c', h1, h2⟩ := List.mem_map.mp this
  obtain ⟨p, hp, e⟩ := hG c' h1
  exact ⟨p, hp, by rw [← h2, e]⟩
theorem fpOk.keep {pf : Nat → Nat} {X : List Int32} {fp pc : Nat → Int32} {a : Nat → PSt} {p : Nat} {x : PSt} (h : fpOk pf X fp pc a) (hx : x.2.2.2.2 = (a p).2.2.2.2) : fpOk pf X fp pc (upA a p x) := by
  intro t ht
  obtain ⟨i, n, h1, h2, h3, h4, h5, h6⟩ := h t ht
  have e : (upA a p x (pf t)).2.2.2.2 = (a (pf t)).2.2.2.2 := by
    unfold upA
    split
    · rename_i z; rw [hx, z]
    · rfl
  exact ⟨i, n, h1, h2, h3, by rw [e]; exact h4, by rw [e]; exact h5, h6⟩
theorem CR.buy {pf : Nat → Nat} {s : CSt} {a : Nat → PSt} {w day sh pr : Int32} {p t : Nat} (h : CR pf s a) (hp : p < 3) : CR pf (cBuy w p (nI t) day sh pr s) (upA a p (aBuy w t day sh pr (a p))) := by
  obtain ⟨h1, h2, h3, h4, h5, h6⟩ := h
  obtain ⟨K, k1, k2, k3, k4, k5⟩ := buyGo_eq (w := w) (day := day) (p := p) s.2.1 [] (s.1 p ++ [newLot (nI t) day sh pr])
  rw [List.nil_append, List.length_nil, List.nil_append] at k1
  rw [List.nil_append, List.length_nil] at k4
  have eb : buyGo w day p s.2.2.1 s.2.1 (s.1 p ++ [newLot (nI t) day sh pr]) = (K, (buyP w day (a p).2.1 ((a p).1 ++ [newLot (nI t) day sh pr])).2) := by
    rw [h4]
    refine Prod.ext k1 ?_
    rw [k4, h2 p hp, h1 p hp]
  have k3' : flt p K = (buyP w day (a p).2.1 ((a p).1 ++ [newLot (nI t) day sh pr])).1 := by rw [k3, h2 p hp, h1 p hp]
  unfold cBuy aBuy
  rw [eb]
  refine ⟨fun q hq => ?_, fun q hq => ?_, clo_mem k2 h3, ?_, ?_, ?_⟩
  · by_cases z : q = p
    · subst z; rw [upA_at]; exact upH_at
    · rw [upA_ne z]; show upH s.1 p _ q = _; unfold upH; rw [if_neg z]; exact h1 q hq
  · by_cases z : q = p
    · subst z; rw [upA_at]; exact k3'
    · rw [upA_ne z]; show flt q K = _; rw [k5 q (nI3 hp hq z)]; exact h2 q hq
  · show s.2.2.1.filter (opn K) = opIdx 0 K
    rw [h4]
    exact clo.idx (G1 := []) k2 rfl
  · have e : ∀ q, (upA a p ((buyP w day (a p).2.1 ((a p).1 ++ [newLot (nI t) day sh pr])).2, (buyP w day (a p).2.1 ((a p).1 ++ [newLot (nI t) day sh pr])).1, (a p).2.2) q).2.2.1 = (a q).2.2.1 := by
      intro q
      unfold upA
      split
      · rename_i z; rw [z]
      · rfl
    rw [e, e, e]
    exact h5
  · show fpOk pf (tags K) s.2.2.2.2.1 s.2.2.2.2.2 _
    have : tags K = tags s.2.1 := k2.tags
    rw [this]
    exact h6.keep rfl
theorem i64_swap (x y z : Int64) : x + y + z = x + z + y := by rw [Int64.add_assoc, Int64.add_comm y z, ← Int64.add_assoc]
/-- what is lost is added to what was -/
theorem spZ_add (a b : Int32) : ∀ (L : List Lot) (x y : Int64), spZ a b L (x + y) = spZ a b L x + y := by
  intro L
  induction L with
  | nil => intro x y; rfl
  | cons l L ih =>
    intro x y
    rw [spZ, spZ]
    split
    · rw [ih, i64_swap]
    · exact ih x y
theorem CR.split {pf : Nat → Nat} {s : CSt} {a : Nat → PSt} {u v : Int32} {p : Nat} (h : CR pf s a) (hp : p < 3) (hc : ∀ q, q < 3 → ∀ x, x ∈ (a q).2.1 → isOpn x = false → spP u v x = x) : CR pf (cSplit p u v s) (upA a p (aSplit u v (a p))) := by
  obtain ⟨h1, h2, h3, h4, h5, h6⟩ := h
  have hc' : ∀ c, c ∈ s.2.1 → isOpn c.2 = false → spP u v c.2 = c.2 := by
    intro c hcm hco
    obtain ⟨q, hq, e⟩ := h3 c hcm
    refine hc q hq c.2 ?_ hco
    rw [← h2 q hq]
    unfold flt
    exact List.mem_map_of_mem (List.mem_filter.mpr ⟨hcm, by simp [e]⟩)
  have eg : spG u v p s.2.2.1 s.2.1 = s.2.1.map (spC u v p) := by
    rw [h4]
    exact spG_eq s.2.1 [] hc'
  have k2 := clo_spC (a := u) (b := v) (p := p) s.2.1 hc'
  unfold cSplit aSplit
  rw [eg]
  refine ⟨fun q hq => ?_, fun q hq => ?_, clo_mem k2 h3, ?_, ?_, ?_⟩
  · by_cases z : q = p
    · subst z; rw [upA_at]; show upH s.1 q _ q = _; rw [upH_at, h1 q hq]
    · rw [upA_ne z]; show upH s.1 p _ q = _; unfold upH; rw [if_neg z]; exact h1 q hq
  · by_cases z : q = p
    · subst z; rw [upA_at]; show flt q (s.2.1.map (spC u v q)) = _; rw [flt_spC, h2 q hq]
    · rw [upA_ne z]; show flt q (s.2.1.map (spC u v p)) = _; rw [flt_spC' (nI3 hp hq z)]; exact h2 q hq
  · show s.2.2.1.filter (opn _) = opIdx 0 _
    rw [h4]
    exact clo.idx (G1 := []) k2 rfl
  · show spZ u v (s.1 p) s.2.2.2.1 = _
    rw [h5, h1 p hp]
    rcases (show p = 0 ∨ p = 1 ∨ p = 2 by omega) with e | e | e
    · subst e
      rw [upA_at, upA_ne (by decide), upA_ne (by decide), spZ_add, spZ_add]
    · subst e
      rw [upA_at, upA_ne (by decide), upA_ne (by decide), spZ_add, Int64.add_comm (a 0).2.2.1, spZ_add, Int64.add_comm _ (a 0).2.2.1]
    · subst e
      rw [upA_at, upA_ne (by decide), upA_ne (by decide), Int64.add_comm _ (a 2).2.2.1, spZ_add, Int64.add_comm]
  · show fpOk pf (tags (s.2.1.map (spC u v p))) s.2.2.2.2.1 s.2.2.2.2.2 _
    have : tags (s.2.1.map (spC u v p)) = tags s.2.1 := k2.tags
    rw [this]
    exact h6.keep rfl
theorem cnt_flt {p : Nat} : ∀ (G : List CPie), cnt p (tags G) = (flt p G).length
  | [] => rfl
  | c :: G => by
    have ih := cnt_flt (p := p) G
    unfold cnt tags at *
    rw [List.map_cons]
    by_cases z : c.1 = nI p
    · rw [flt_t z, List.filter_cons_of_pos (by simp [z]), List.length_cons, List.length_cons, ih]
    · rw [flt_f z, List.filter_cons_of_neg (by simp [z]), ih]
theorem CR.sell {pf : Nat → Nat} {s : CSt} {a : Nat → PSt} {w day sh pr rule : Int32} {p t : Nat} (h : CR pf s a) (hp : p < 3) (ht : pf t = p) (hs : sh ≤ shSum (s.1 p) (s.1 p).length) : CR pf (cSell w p t day sh pr rule s) (upA a p (aSell w t day sh pr rule (a p))) := by
  obtain ⟨h1, h2, h3, h4, h5, h6⟩ := h
  have hs' : sh ≤ shSum (a p).1 (a p).1.length := by rw [← h1 p hp]; exact hs
  have em : (sellGo rule 40 sh (a p).1).1.map (soldP p day pr) = (soldL day pr rule sh (a p).1).map (tagP p) := by
    unfold soldL
    rw [List.map_map]
    rfl
  have el : (soldL day pr rule sh (a p).1).length = (sellGo rule 40 sh (a p).1).1.length := by unfold soldL; rw [List.length_map]
  have ea : sellAll w p day sh pr rule s.2.1 (s.1 p) s.2.2.1 = (s.2.1 ++ (repAll w day (soldL day pr rule sh (a p).1) (sellGo rule 40 sh (a p).1).2).1.map (tagP p), (repAll w day (soldL day pr rule sh (a p).1) (sellGo rule 40 sh (a p).1).2).2, s.2.2.1 ++ opIdx s.2.1.length ((repAll w day (soldL day pr rule sh (a p).1) (sellGo rule 40 sh (a p).1).2).1.map (tagP p))) := by
    unfold sellAll
    rw [h1 p hp, em, ← el]
    exact nwGo_eq _ _ _ _
  have er : ∀ L, (repAll w day (soldL day pr rule sh (a p).1) L).1.length = (sellGo rule 40 sh (a p).1).1.length := by
    intro L
    rw [← el]
    generalize soldL day pr rule sh (a p).1 = P
    induction P generalizing L with
    | nil => rfl
    | cons x P ih => rw [repAll, List.length_cons, List.length_cons, ih]
  unfold cSell aSell
  rw [ea, if_pos hs']
  have er' := er (sellGo rule 40 sh (a p).1).2
  generalize hR : repAll w day (soldL day pr rule sh (a p).1) (sellGo rule 40 sh (a p).1).2 = R at er'
  rw [h1 p hp]
  generalize hn : (sellGo rule 40 sh (a p).1).1.length = n at er'
  have tg : tags (s.2.1 ++ R.1.map (tagP p)) = tags s.2.1 ++ List.replicate n (nI p) := by
    unfold tags
    rw [List.map_append, ← er']
    congr 1
    clear hR er'
    generalize R.1 = P
    induction P with
    | nil => rfl
    | cons x P ih => rw [List.map_cons, List.map_cons, List.length_cons, List.replicate_succ, ih]; rfl
  have tl : (tags s.2.1).length = s.2.1.length := by unfold tags; rw [List.length_map]
  refine ⟨fun q hq => ?_, fun q hq => ?_, fun c hc => ?_, ?_, ?_, ?_⟩
  · by_cases z : q = p
    · subst z; rw [upA_at]; exact upH_at
    · rw [upA_ne z]; show upH s.1 p _ q = _; unfold upH; rw [if_neg z]; exact h1 q hq
  · show flt q (s.2.1 ++ R.1.map (tagP p)) = _
    rw [flt_app, h2 q hq]
    by_cases z : q = p
    · subst z; rw [upA_at, flt_tag]
    · rw [upA_ne z, flt_tag' (nI3 hp hq z), List.append_nil]
  · rcases List.mem_append.mp hc with e | e
    · exact h3 c e
    · obtain ⟨x, -, e⟩ := List.mem_map.mp e
      exact ⟨p, hp, by rw [← e]; rfl⟩
  · show s.2.2.1 ++ opIdx _ _ = opIdx 0 (s.2.1 ++ _)
    rw [opIdx_app, Nat.zero_add, ← h4]
  · have e : ∀ q, (upA a p (R.2, (a p).2.1 ++ R.1, (a p).2.2.1, (a p).2.2.2.1, upN (a p).2.2.2.2.1 t (a p).2.1.length, upN (a p).2.2.2.2.2 t n) q).2.2.1 = (a q).2.2.1 := by
      intro q
      unfold upA
      split
      · rename_i z; rw [z]
      · rfl
    rw [e, e, e]
    exact h5
  · intro t' ht'
    show ∃ i n', upF s.2.2.2.2.1 t _ t' = nI i ∧ upF s.2.2.2.2.2 t _ t' = nI n' ∧ _
    by_cases z : t' = t
    · subst z
      refine ⟨s.2.1.length, n, by unfold upF; rw [if_pos rfl], by unfold upF; rw [if_pos rfl], ?_, ?_, ?_, fun j hj => ?_⟩
      · show _ ≤ (tags (s.2.1 ++ _)).length
        rw [tg, List.length_append, List.length_replicate, tl]
        exact Nat.le_refl _
      · rw [ht, upA_at]; show upN _ t' n t' = n; unfold upN; rw [if_pos rfl]
      · show cnt (pf t') ((tags (s.2.1 ++ _)).take _) = _
        rw [ht, upA_at, tg, List.take_append_of_le_length (by omega), List.take_of_length_le (by omega), cnt_flt, h2 p hp]
        show _ = upN _ t' _ t'
        unfold upN
        rw [if_pos rfl]
      · show (tags (s.2.1 ++ _))[_]? = _
        rw [ht, tg, List.getElem?_append_right (by omega), tl, Nat.add_sub_cancel_left, List.getElem?_replicate, if_pos hj]
    · obtain ⟨i, m, k1, k2, k3, k4, k5, k6⟩ := h6 t' ht'
      refine ⟨i, m, by unfold upF; rw [if_neg z]; exact k1, by unfold upF; rw [if_neg z]; exact k2, ?_, ?_, ?_, fun j hj => ?_⟩
      · show _ ≤ (tags (s.2.1 ++ _)).length
        rw [tg, List.length_append]; omega
      · by_cases zp : pf t' = p
        · rw [zp, upA_at]; show upN _ t n t' = m; unfold upN; rw [if_neg z, ← zp]; exact k4
        · rw [upA_ne zp]; exact k4
      · show cnt (pf t') ((tags (s.2.1 ++ _)).take _) = _
        rw [tg, List.take_append_of_le_length (by omega), k5]
        by_cases zp : pf t' = p
        · rw [zp, upA_at]; show _ = upN _ t _ t'; unfold upN; rw [if_neg z]
        · rw [upA_ne zp]
      · show (tags (s.2.1 ++ _))[_]? = _
        rw [tg, List.getElem?_append_left (by omega)]
        exact k6 j hj
