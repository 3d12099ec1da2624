/-! THE CLASS'S BOOK is the three papers side by side -/
def flt (p : Nat) (G : List CPie) : List Pie := (G.filter (fun c => decide (c.1 = nI p))).map (·.2)
theorem flt_nil {p : Nat} : flt p [] = [] := rfl
theorem flt_t {p : Nat} {c : CPie} {G : List CPie} (h : c.1 = nI p) : flt p (c :: G) = c.2 :: flt p G := by
  unfold flt
  rw [List.filter_cons_of_pos (by simp [h]), List.map_cons]
theorem flt_f {p : Nat} {c : CPie} {G : List CPie} (h : ¬ c.1 = nI p) : flt p (c :: G) = flt p G := by
  unfold flt
  rw [List.filter_cons_of_neg (by simp [h])]
theorem flt_app {p : Nat} {G K : List CPie} : flt p (G ++ K) = flt p G ++ flt p K := by
  unfold flt
  rw [List.filter_append, List.map_append]
def opIdx : Nat → List CPie → List Nat
  | _, [] => []
  | k, c :: G => if isOpn c.2 then k :: opIdx (k + 1) G else opIdx (k + 1) G
theorem opIdx_app : ∀ (G K : List CPie) (k : Nat), opIdx k (G ++ K) = opIdx k G ++ opIdx (k + G.length) K := by
  intro G
  induction G with
  | nil => intro K k; simp [opIdx]
  | cons c G ih =>
    intro K k
    simp only [List.cons_append, opIdx, List.length_cons]
    rw [ih, show k + 1 + G.length = k + (G.length + 1) by omega]
    split <;> simp
theorem pt_mid {P Q : List CPie} {x : CPie} : pt (P ++ x :: Q) P.length = x := by simp [pt]
theorem pset_mid {P Q : List CPie} {x y : CPie} : (P ++ x :: Q).set P.length y = P ++ y :: Q := by simp
/-- same papers; what is open then was open before -/
def clo : List CPie → List CPie → Prop
  | [], [] => True
  | c :: G, c' :: G' => c'.1 = c.1 ∧ (isOpn c'.2 = true → isOpn c.2 = true) ∧ clo G G'
  | _, _ => False
theorem clo.rf : ∀ G : List CPie, clo G G
  | [] => trivial
  | _ :: G => ⟨rfl, id, clo.rf G⟩
theorem clo.len : ∀ {G K : List CPie}, clo G K → G.length = K.length
  | [], [], _ => rfl
  | _ :: _, _ :: _, h => by rw [List.length_cons, List.length_cons, clo.len h.2.2]
  | [], _ :: _, h => h.elim
  | _ :: _, [], h => h.elim
theorem clo.tags : ∀ {G K : List CPie}, clo G K → K.map (·.1) = G.map (·.1)
  | [], [], _ => rfl
  | _ :: _, _ :: _, h => by rw [List.map_cons, List.map_cons, h.1, clo.tags h.2.2]
  | [], _ :: _, h => h.elim
  | _ :: _, [], h => h.elim
theorem clo.idx : ∀ {G K G1 : List CPie} {k : Nat}, clo G K → G1.length = k → (opIdx k G).filter (opn (G1 ++ K)) = opIdx k K
  | [], [], _, _, _, _ => rfl
  | c :: G, c' :: K, G1, k, h, e => by
    have ih := clo.idx (G1 := G1 ++ [c']) (k := k + 1) h.2.2 (by rw [List.length_append, List.length_singleton, e])
    rw [List.append_assoc, List.singleton_append] at ih
    have ep : opn (G1 ++ c' :: K) k = isOpn c'.2 := by
      have := pt_mid (P := G1) (Q := K) (x := c')
      rw [e] at this
      unfold opn isOpn
      rw [this]
    simp only [opIdx]
    cases h1 : isOpn c.2
    · have : isOpn c'.2 = false := by
        cases h2 : isOpn c'.2
        · rfl
        · have := h.2.1 h2; rw [h1] at this; cases this
      rw [this]
      exact ih
    · rw [if_pos rfl]
      cases h2 : isOpn c'.2
      · rw [List.filter_cons_of_neg (by rw [ep, h2]; decide), ih]; simp
      · rw [List.filter_cons_of_pos (by rw [ep, h2]), ih]; simp
  | [], _ :: _, _, _, h, _ => h.elim
  | _ :: _, [], _, _, h, _ => h.elim
theorem buyP_w {w day : Int32} {P : List Pie} {L : List Lot} (h : (lt L (L.length - 1)).2.2.2.2.1 = true) : buyP w day P L = (P, L) := by
  cases P with
  | nil => rfl
  | cons p P => rw [buyP, if_pos h]
theorem buyP_s {w day : Int32} {p : Pie} {P : List Pie} {L : List Lot} (h : isOpn p = false ∨ w < day - p.1) : buyP w day (p :: P) L = (p :: (buyP w day P L).1, (buyP w day P L).2) := by
  by_cases c : (lt L (L.length - 1)).2.2.2.2.1 = true
  · rw [buyP_w c, buyP_w c]
  · rw [buyP, if_neg c, if_pos h]
theorem buyGo_eq {w day : Int32} {p : Nat} : ∀ (G2 G1 : List CPie) (L : List Lot), ∃ K, (buyGo w day p (opIdx G1.length G2) (G1 ++ G2) L).1 = G1 ++ K ∧ clo G2 K ∧ flt p K = (buyP w day (flt p G2) L).1 ∧ (buyGo w day p (opIdx G1.length G2) (G1 ++ G2) L).2 = (buyP w day (flt p G2) L).2 ∧ ∀ q, ¬ nI q = nI p → flt q K = flt q G2 := by
  intro G2
  induction G2 with
  | nil => intro G1 L; exact ⟨[], rfl, trivial, rfl, rfl, fun _ _ => rfl⟩
  | cons c G2 ih =>
    intro G1 L
    have cons : ∀ (c' : CPie) (L' : List Lot) (X : List Pie × List Lot), c'.1 = c.1 → (isOpn c'.2 = true → isOpn c.2 = true) → (c.1 = nI p → X = (c'.2 :: (buyP w day (flt p G2) L').1, (buyP w day (flt p G2) L').2)) → (¬ c.1 = nI p → c' = c ∧ X = buyP w day (flt p G2) L') → ∃ K, (buyGo w day p (opIdx (G1.length + 1) G2) (G1 ++ c' :: G2) L').1 = G1 ++ K ∧ clo (c :: G2) K ∧ flt p K = X.1 ∧ (buyGo w day p (opIdx (G1.length + 1) G2) (G1 ++ c' :: G2) L').2 = X.2 ∧ ∀ q, ¬ nI q = nI p → flt q K = flt q (c :: G2) := by
      intro c' L' X e1 e2 e3 e4
      obtain ⟨K, k1, k2, k3, k4, k5⟩ := ih (G1 ++ [c']) L'
      rw [List.length_append, List.length_singleton, List.append_assoc, List.singleton_append] at k1 k4
      refine ⟨c' :: K, by rw [k1, List.append_assoc]; rfl, ⟨e1, e2, k2⟩, ?_, ?_, fun q hq => ?_⟩
      · by_cases z : c.1 = nI p
        · rw [flt_t (e1.trans z), k3, e3 z]
        · rw [flt_f (by rw [e1]; exact z), k3, (e4 z).2]
      · by_cases z : c.1 = nI p
        · rw [k4, e3 z]
        · rw [k4, (e4 z).2]
      · by_cases z : c.1 = nI q
        · have zp : ¬ c.1 = nI p := fun y => hq (by rw [← z, y])
          obtain ⟨ec, -⟩ := e4 zp
          rw [ec, flt_t z, flt_t z, k5 q hq]
        · rw [flt_f z, flt_f (by rw [e1]; exact z), k5 q hq]
    have skip : isOpn c.2 = false ∨ ¬ c.1 = nI p ∨ w < day - c.2.1 → ∃ K, (buyGo w day p (opIdx (G1.length + 1) G2) (G1 ++ c :: G2) L).1 = G1 ++ K ∧ clo (c :: G2) K ∧ flt p K = (buyP w day (flt p (c :: G2)) L).1 ∧ (buyGo w day p (opIdx (G1.length + 1) G2) (G1 ++ c :: G2) L).2 = (buyP w day (flt p (c :: G2)) L).2 ∧ ∀ q, ¬ nI q = nI p → flt q K = flt q (c :: G2) := by
      intro z
      refine cons c L _ rfl id (fun y => ?_) (fun y => ⟨rfl, by rw [flt_f y]⟩)
      rw [flt_t y]
      exact buyP_s (by rcases z with z | z | z
                       · exact Or.inl z
                       · exact absurd y z
                       · exact Or.inr z)
    simp only [opIdx]
    cases h1 : isOpn c.2
    · exact skip (Or.inl h1)
    · rw [if_pos rfl]
      simp only [buyGo]
      rw [pt_mid]
      by_cases h2 : (lt L (L.length - 1)).2.2.2.2.1 = true
      · rw [if_pos h2, buyP_w h2]
        exact ⟨c :: G2, rfl, clo.rf _, rfl, rfl, fun _ _ => rfl⟩
      · rw [if_neg h2]
        by_cases h3 : ¬ c.1 = nI p
        · rw [if_pos h3]; exact skip (Or.inr (Or.inl h3))
        · rw [if_neg h3]
          by_cases h4 : w < day - c.2.1
          · rw [if_pos h4]; exact skip (Or.inr (Or.inr h4))
          · rw [if_neg h4, pset_mid]
            refine cons (c.1, (repL c.2 L (L.length - 1)).1) _ _ rfl (fun _ => h1) (fun y => ?_) (fun y => absurd y h3)
            rw [flt_t y, buyP, if_neg h2, if_neg (fun z => by rcases z with z | z; (rw [h1] at z; cases z); exact h4 z)]
def tagP (p : Nat) (x : Pie) : CPie := (nI p, x)
theorem flt_tag {p : Nat} : ∀ P : List Pie, flt p (P.map (tagP p)) = P
  | [] => rfl
  | x :: P => by rw [List.map_cons, flt_t rfl, flt_tag P]; rfl
theorem flt_tag' {p q : Nat} (h : ¬ nI q = nI p) : ∀ P : List Pie, flt q (P.map (tagP p)) = []
  | [] => rfl
  | x :: P => by rw [List.map_cons, flt_f (fun z => h z.symm), flt_tag' h P]
theorem nwGo_eq {w day : Int32} {p : Nat} : ∀ (P : List Pie) (G : List CPie) (L : List Lot) (O : List Nat), nwGo w day P.length G.length (G ++ P.map (tagP p)) L O = (G ++ (repAll w day P L).1.map (tagP p), (repAll w day P L).2, O ++ opIdx G.length ((repAll w day P L).1.map (tagP p))) := by
  intro P
  induction P with
  | nil => intro G L O; simp [nwGo, repAll, opIdx]
  | cons x P ih =>
    intro G L O
    have e : pt (G ++ (x :: P).map (tagP p)) G.length = tagP p x := by rw [List.map_cons]; exact pt_mid
    rw [List.length_cons, nwGo, e, List.map_cons, pset_mid, repAll]
    have := ih (G ++ [tagP p (rbl w day 40 0 x L).1]) (rbl w day 40 0 x L).2 (if pLeft (rbl w day 40 0 x L).1 ≤ 0 then O else O ++ [G.length])
    rw [List.length_append, List.length_singleton, List.append_assoc, List.singleton_append] at this
    rw [show ((tagP p x).1, (rbl w day 40 0 (tagP p x).2 L).1) = tagP p (rbl w day 40 0 x L).1 from rfl, show (tagP p x).2 = x from rfl, this]
    simp only [List.map_cons, opIdx, List.append_assoc, List.singleton_append]
    refine Prod.ext rfl (Prod.ext rfl ?_)
    by_cases z : pLeft (rbl w day 40 0 x L).1 ≤ 0
    · rw [if_pos z]
      have : isOpn (tagP p (rbl w day 40 0 x L).1).2 = false := isOpn_f.mpr z
      rw [this]; rfl
    · rw [if_neg z]
      have : isOpn (tagP p (rbl w day 40 0 x L).1).2 = true := isOpn_t.mpr z
      rw [this]; simp
def spC (a b : Int32) (p : Nat) (c : CPie) : CPie := if c.1 = nI p then (c.1, spP a b c.2) else c
theorem spG_eq {a b : Int32} {p : Nat} : ∀ (G2 G1 : List CPie), (∀ c, c ∈ G2 → isOpn c.2 = false → spP a b c.2 = c.2) → spG a b p (opIdx G1.length G2) (G1 ++ G2) = G1 ++ G2.map (spC a b p) := by
  intro G2
  induction G2 with
  | nil => intro G1 _; rfl
  | cons c G2 ih =>
    intro G1 h
    have go : ∀ c', spG a b p (opIdx (G1.length + 1) G2) (G1 ++ c' :: G2) = G1 ++ c' :: G2.map (spC a b p) := by
      intro c'
      have := ih (G1 ++ [c']) (fun x hx => h x (List.mem_cons_of_mem _ hx))
      rwa [List.length_append, List.length_singleton, List.append_assoc, List.singleton_append, List.append_assoc, List.singleton_append] at this
    simp only [opIdx, List.map_cons]
    cases h1 : isOpn c.2
    · have e : spC a b p c = c := by
        unfold spC
        rw [h c (List.mem_cons_self ..) h1]
        split <;> rfl
      rw [e]
      exact go c
    · rw [if_pos rfl, spG, pt_mid, pset_mid]
      unfold spC
      split
      · exact go _
      · exact go c
theorem flt_spC {a b : Int32} {p : Nat} : ∀ G : List CPie, flt p (G.map (spC a b p)) = (flt p G).map (spP a b)
  | [] => rfl
  | c :: G => by
    rw [List.map_cons]
    by_cases z : c.1 = nI p
    · rw [flt_t (by unfold spC; rw [if_pos z]; exact z), flt_t z, List.map_cons, flt_spC G]
      unfold spC
      rw [if_pos z]
    · rw [flt_f (by unfold spC; rw [if_neg z]; exact z), flt_f z, flt_spC G]
theorem flt_spC' {a b : Int32} {p q : Nat} (h : ¬ nI q = nI p) : ∀ G : List CPie, flt q (G.map (spC a b p)) = flt q G
  | [] => rfl
  | c :: G => by
    rw [List.map_cons]
    have e1 : (spC a b p c).1 = c.1 := by unfold spC; split <;> rfl
    by_cases z : c.1 = nI q
    · have zp : ¬ c.1 = nI p := fun y => h (by rw [← z, y])
      rw [flt_t (e1.trans z), flt_t z, flt_spC' h G]
      unfold spC
      rw [if_neg zp]
    · rw [flt_f (by rw [e1]; exact z), flt_f z, flt_spC' h G]
theorem clo_spC {a b : Int32} {p : Nat} : ∀ G : List CPie, (∀ c, c ∈ G → isOpn c.2 = false → spP a b c.2 = c.2) → clo G (G.map (spC a b p))
  | [], _ => trivial
  | c :: G, h => by
    refine ⟨?_, ?_, clo_spC G fun x hx => h x (List.mem_cons_of_mem _ hx)⟩
    · unfold spC; split <;> rfl
    · intro z
      cases h1 : isOpn c.2
      · have := h c (List.mem_cons_self ..) h1
        unfold spC at z
        rw [this] at z
        split at z
        · exact h1.symm.trans z
        · exact h1.symm.trans z
      · rfl
