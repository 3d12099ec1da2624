/-! all trades: the class's run over them is the papers' -/
theorem nI_mul (a b : Nat) : nI a * nI b = nI (a * b) := (Int32.ofNat_mul a b).symm
theorem spP_closed {b c : Nat} {u v : Int32} {x : Pie} (hb : b ≤ mxN) (h : okP b c x) (ho : isOpn x = false) : spP u v x = x := by
  unfold mxN at hb
  obtain ⟨⟨s, s1, s2⟩, -⟩ := h
  have := isOpn_f.mp ho
  rw [s2, not_le_0 (by omega)] at this
  subst this
  have e : u * pLeft x / v = pLeft x := by
    rw [s2, nI_0, Int32.mul_zero, Int32.zero_div]
  unfold spP
  rw [e]
  rfl
theorem sp_bound {a b' s b : Nat} (hb : b ≤ mxN) (h1 : a ≤ 9) (h2 : 1 ≤ b') (h2' : b' ≤ 9) (hs : s ≤ b) : nI a * nI s / nI b' = nI (a * s / b') ∧ a * s / b' ≤ 9 * b := by
  unfold mxN at hb
  have h3 : a * s ≤ 9 * b := Nat.mul_le_mul h1 hs
  rw [nI_mul, pk_div (by omega) (by omega) (by omega)]
  exact ⟨rfl, Nat.le_trans (Nat.div_le_self _ _) h3⟩
theorem aSplit_inv {b n a b' : Nat} {s : PSt} (hb : b ≤ mxN) (h : PInv b n s) (h1 : a ≤ 9) (h2 : 1 ≤ b') (h2' : b' ≤ 9) : PInv (9 * b) (n + 1) (aSplit (nI a) (nI b') s) := by
  obtain ⟨k1, k2, k3, k4⟩ := h
  refine ⟨fun l hl => ?_, fun p hp => ?_, ?_, ?_⟩
  · have hl' : l ∈ spL (nI a) (nI b') s.1 := hl
    unfold spL at hl'
    obtain ⟨m1, m2⟩ := List.mem_filter.mp hl'
    obtain ⟨l0, m3, e⟩ := List.mem_map.mp m1
    subst e
    obtain ⟨⟨x, x1, x2, x3⟩, c, c1, c2⟩ := k1 l0 m3
    have hsp := sp_bound hb h1 h2 h2' x2
    have e1 : (spS (nI a) (nI b') l0).1 = nI (a * x / b') := by show nI a * l0.1 / nI b' = _; rw [x3]; exact hsp.1
    have m2' := of_decide_eq_true m2
    rw [e1] at m2'
    refine ⟨⟨a * x / b', ?_, hsp.2, e1⟩, c, by omega, c2⟩
    rcases Nat.eq_zero_or_pos (a * x / b') with z | z
    · rw [z] at m2'; exact absurd rfl m2'
    · exact z
  · have hp' : p ∈ s.2.1.map (spP (nI a) (nI b')) := hp
    obtain ⟨q, m3, e⟩ := List.mem_map.mp hp'
    subst e
    obtain ⟨⟨x, x2, x3⟩, c, c1, c2⟩ := k2 q m3
    have hsp := sp_bound hb h1 h2 h2' x2
    refine ⟨⟨a * x / b', hsp.2, ?_⟩, c, by omega, c2⟩
    show nI a * pLeft q / nI b' = _
    rw [x3]
    exact hsp.1
  · show (spL (nI a) (nI b') s.1).length + nOpn (s.2.1.map (spP (nI a) (nI b'))) ≤ _
    have e1 := spL_len (nI a) (nI b') s.1
    have e2 : ∀ P : List Pie, (∀ p, p ∈ P → okP b n p) → nOpn (P.map (spP (nI a) (nI b'))) ≤ nOpn P := by
      intro P
      induction P with
      | nil => intro _; exact Nat.le_refl _
      | cons x P ih =>
        intro hP
        have := ih (fun y hy => hP y (List.mem_cons_of_mem _ hy))
        rw [List.map_cons, nOpn_cons, nOpn_cons]
        have : opi (spP (nI a) (nI b') x) ≤ opi x := by
          by_cases z : pLeft x ≤ 0
          · rw [spP_closed hb (hP x (List.mem_cons_self ..)) (isOpn_f.mpr z)]; exact Nat.le_refl _
          · rw [opi_open z]; exact opi_le _
        omega
    have := e2 s.2.1 k2
    omega
  · show 2 * (s.2.1.map _).length + _ ≤ _
    rw [List.length_map, sq1]
    omega
theorem pow9 {k : Nat} (h : k ≤ 4) : 999 ≤ 999 * 9 ^ k ∧ 999 * 9 ^ k ≤ mxN := by
  rcases (show k = 0 ∨ k = 1 ∨ k = 2 ∨ k = 3 ∨ k = 4 by omega) with e | e | e | e | e <;> subst e <;> decide
def isSpl (T : List Row) (t : Nat) : Nat := if (tr T t).1 = 2 then 1 else 0
theorem aStep_inv {k n t : Nat} {w : Int32} {T : List Row} {s : PSt} (hv : vRow (tr T t)) (hk : k + isSpl T t ≤ 4) (hn : n ≤ 39) (h : PInv (999 * 9 ^ k) n s) : PInv (999 * 9 ^ (k + isSpl T t)) (n + 1) (aStep w T t s) := by
  have hb := pow9 (show k ≤ 4 by omega)
  unfold aStep
  by_cases c0 : (tr T t).1 = 0
  · rw [if_pos c0]
    have c2 : ¬ (tr T t).1 = 2 := fun z => by rw [c0] at z; exact absurd z (by decide)
    obtain ⟨⟨x, x1, x2, x3⟩, -⟩ := hv.2.2.2.2.1 c2
    unfold isSpl
    rw [if_neg c2, Nat.add_zero, x3]
    exact aBuy_inv hb.2 (by omega) h x1 (by omega)
  · rw [if_neg c0]
    by_cases c2 : (tr T t).1 = 2
    · rw [if_pos c2]
      obtain ⟨⟨x, x1, x2, x3⟩, y, y1, y2, y3⟩ := hv.2.2.2.1 c2
      unfold isSpl
      rw [if_pos c2, x3, y3, Nat.pow_succ, show 999 * (9 ^ k * 9) = 9 * (999 * 9 ^ k) by rw [Nat.mul_comm (9 ^ k) 9, ← Nat.mul_assoc, ← Nat.mul_assoc]]
      exact aSplit_inv hb.2 h x2 y1 y2
    · rw [if_neg c2]
      obtain ⟨⟨x, x1, x2, x3⟩, -⟩ := hv.2.2.2.2.1 c2
      unfold isSpl
      rw [if_neg c2, Nat.add_zero, x3]
      exact aSell_inv hb.2 (by omega) h (by omega)
theorem PInv.up {b b' n : Nat} {s : PSt} (h : PInv b n s) (hb : b ≤ b') : PInv b' n s := ⟨fun l hl => (h.1 l hl).up hb (Nat.le_refl _), fun l hl => (h.2.1 l hl).up hb (Nat.le_refl _), h.2.2.1, h.2.2.2⟩
def spQ (T : List Row) : List Nat → Nat
  | [] => 0
  | t :: Q => isSpl T t + spQ T Q
theorem aStep_sh {w : Int32} {T : List Row} {t : Nat} {s : PSt} (h : s.2.2.2.1 = true) : (aStep w T t s).2.2.2.1 = true := by
  unfold aStep
  split
  · exact h
  · split
    · exact h
    · unfold aSell
      split
      · exact h
      · rfl
theorem aGo_sh {w last : Int32} {T : List Row} {p : Nat} : ∀ (Q : List Nat) (s : PSt), s.2.2.2.1 = true → (aGo w last T p Q s).2.2.2.1 = true
  | [], _, h => h
  | t :: Q, s, h => by
    rw [aGo]
    split
    · exact aGo_sh Q _ (aStep_sh h)
    · exact aGo_sh Q _ h
theorem aGo_skip {w last : Int32} {T : List Row} {p : Nat} : ∀ (Q : List Nat) (s : PSt), (∀ t, t ∈ Q → ¬ dayF T t ≤ last) → aGo w last T p Q s = s
  | [], _, _ => rfl
  | t :: Q, s, h => by
    rw [aGo, if_neg (fun z => h t (List.mem_cons_self ..) z.2)]
    exact aGo_skip Q s fun x hx => h x (List.mem_cons_of_mem _ hx)
theorem opIdx_len : ∀ (G : List CPie) (k : Nat), (∀ c, c ∈ G → ∃ p, p < 3 ∧ c.1 = nI p) → (opIdx k G).length = nOpn (flt 0 G) + nOpn (flt 1 G) + nOpn (flt 2 G) ∧ G.length = (flt 0 G).length + (flt 1 G).length + (flt 2 G).length := by
  intro G
  induction G with
  | nil => intro k _; exact ⟨rfl, rfl⟩
  | cons c G ih =>
    intro k h
    obtain ⟨i1, i2⟩ := ih (k + 1) (fun x hx => h x (List.mem_cons_of_mem _ hx))
    have el : (opIdx k (c :: G)).length = opi c.2 + (opIdx (k + 1) G).length := by
      rw [opIdx]
      unfold opi
      split
      · rw [List.length_cons]; omega
      · omega
    obtain ⟨p, hp, e⟩ := h c (List.mem_cons_self ..)
    rw [el, List.length_cons]
    rcases (show p = 0 ∨ p = 1 ∨ p = 2 by omega) with z | z | z
    · subst z
      rw [flt_t e, flt_f (p := 1) (by rw [e]; decide), flt_f (p := 2) (by rw [e]; decide), nOpn_cons, List.length_cons]; omega
    · subst z
      rw [flt_t (p := 1) e, flt_f (p := 0) (by rw [e]; decide), flt_f (p := 2) (by rw [e]; decide), nOpn_cons, List.length_cons]; omega
    · subst z
      rw [flt_t (p := 2) e, flt_f (p := 0) (by rw [e]; decide), flt_f (p := 1) (by rw [e]; decide), nOpn_cons, List.length_cons]; omega
theorem sq36 {n : Nat} (h : n ≤ 36) : n * n ≤ 36 * n := Nat.mul_le_mul_right n h
/-- rooms -/
theorem CR.room {pf : Nat → Nat} {s : CSt} {a : Nat → PSt} {b : Nat} {nn : Nat → Nat} {p : Nat} (h : CR pf s a) (hi : ∀ p, p < 3 → PInv b (nn p) (a p)) (hn : nn 0 + nn 1 + nn 2 ≤ 36) (hp : p < 3) : cRoom s p := by
  obtain ⟨h1, h2, h3, h4, -⟩ := h
  obtain ⟨l1, l2⟩ := opIdx_len s.2.1 0 h3
  rw [h2 0 (by omega), h2 1 (by omega), h2 2 (by omega)] at l1 l2
  obtain ⟨-, -, x3, x4⟩ := hi 0 (by omega)
  obtain ⟨-, -, y3, y4⟩ := hi 1 (by omega)
  obtain ⟨-, -, z3, z4⟩ := hi 2 (by omega)
  have q0 := sq36 (show nn 0 ≤ 36 by omega)
  have q1 := sq36 (show nn 1 ≤ 36 by omega)
  have q2 := sq36 (show nn 2 ≤ 36 by omega)
  unfold cRoom
  rw [h4, l1, h1 p hp]
  have hl : (a p).1.length ≤ (a 0).1.length + (a 1).1.length + (a 2).1.length := by
    rcases (show p = 0 ∨ p = 1 ∨ p = 2 by omega) with z | z | z <;> subst z <;> omega
  omega
def srt (T : List Row) (Q : List Nat) : Prop := Q.Pairwise (fun x y => dayF T x ≤ dayF T y)
theorem cGo_rel {pf : Nat → Nat} {w last : Int32} {T : List Row} : ∀ (Q : List Nat) (s : CSt) (a : Nat → PSt) (nn : Nat → Nat) (k : Nat), CR pf s a → (∀ p, p < 3 → PInv (999 * 9 ^ k) (nn p) (a p)) → (∀ p, p < 3 → (a p).2.2.2.1 = false) → (∀ t, t ∈ Q → vRow (tr T t) ∧ pf t = paF (tr T t)) → srt T Q → k + spQ T Q ≤ 4 → nn 0 + nn 1 + nn 2 + Q.length ≤ 36 → cFit w last T Q s ∧ ((cGo w last T Q s).1 = true → CR pf (cGo w last T Q s).2 (fun p => aGo w last T p Q (a p)) ∧ (∀ p, p < 3 → (aGo w last T p Q (a p)).2.2.2.1 = false) ∧ ∃ nn' : Nat → Nat, (∀ p, p < 3 → PInv (999 * 9 ^ 4) (nn' p) (aGo w last T p Q (a p))) ∧ nn' 0 + nn' 1 + nn' 2 ≤ nn 0 + nn 1 + nn 2 + Q.length) ∧ ((cGo w last T Q s).1 = false → ∃ p, p < 3 ∧ (aGo w last T p Q (a p)).2.2.2.1 = true) := by
  intro Q
  induction Q with
  | nil =>
    intro s a nn k hC hP hs hv hq hk hn
    refine ⟨trivial, fun _ => ⟨hC, hs, nn, fun p hp => (hP p hp).up (Nat.mul_le_mul_left _ (Nat.pow_le_pow_right (by omega) (by omega))), by omega⟩, fun z => by cases z⟩
  | cons t Q ih =>
    intro s a nn k hC hP hs hv hq hk hn
    obtain ⟨hq1, hq2⟩ := List.pairwise_cons.mp hq
    obtain ⟨hvt, hpt⟩ := hv t (List.mem_cons_self ..)
    obtain ⟨hp3, -⟩ := hvt.pa
    rw [List.length_cons] at hn
    have hroom := hC.room hP (show nn 0 + nn 1 + nn 2 ≤ 36 by omega) hp3
    rw [spQ] at hk
    by_cases cd : dayF T t ≤ last
    · have ea : ∀ p, aGo w last T p (t :: Q) (a p) = aGo w last T p Q (upA a (paF (tr T t)) (aStep w T t (a (paF (tr T t)))) p) := by
        intro p
        rw [aGo]
        by_cases z : paF (tr T t) = p
        · rw [if_pos ⟨z, cd⟩, ← z, upA_at]
        · rw [if_neg (fun y => z y.1), upA_ne (fun y => z y.symm)]
      have ea' : (fun p => aGo w last T p (t :: Q) (a p)) = fun p => aGo w last T p Q (upA a (paF (tr T t)) (aStep w T t (a (paF (tr T t)))) p) := funext ea
      rw [ea']
      have hP' : ∀ p, p < 3 → PInv (999 * 9 ^ (k + isSpl T t)) (upN nn (paF (tr T t)) (nn (paF (tr T t)) + 1) p) (upA a (paF (tr T t)) (aStep w T t (a (paF (tr T t)))) p) := by
        intro p hp
        by_cases z : p = paF (tr T t)
        · subst z
          rw [upA_at, upN, if_pos rfl]
          refine aStep_inv hvt (by omega) ?_ (hP _ hp)
          rcases (show paF (tr T t) = 0 ∨ paF (tr T t) = 1 ∨ paF (tr T t) = 2 by omega) with e | e | e <;> rw [e] <;> omega
        · rw [upA_ne z, upN, if_neg z]
          exact (hP p hp).up (Nat.mul_le_mul_left _ (Nat.pow_le_pow_right (by omega) (by omega)))
      have hnn : upN nn (paF (tr T t)) (nn (paF (tr T t)) + 1) 0 + upN nn (paF (tr T t)) (nn (paF (tr T t)) + 1) 1 + upN nn (paF (tr T t)) (nn (paF (tr T t)) + 1) 2 = nn 0 + nn 1 + nn 2 + 1 := by
        rcases (show paF (tr T t) = 0 ∨ paF (tr T t) = 1 ∨ paF (tr T t) = 2 by omega) with e | e | e <;> rw [e] <;> simp [upN] <;> omega
      have next : ∀ s', cStep w T t s = some s' → CR pf s' (upA a (paF (tr T t)) (aStep w T t (a (paF (tr T t))))) → (∀ p, p < 3 → (upA a (paF (tr T t)) (aStep w T t (a (paF (tr T t)))) p).2.2.2.1 = false) → cFit w last T (t :: Q) s ∧ ((cGo w last T (t :: Q) s).1 = true → CR pf (cGo w last T (t :: Q) s).2 (fun p => aGo w last T p Q (upA a (paF (tr T t)) (aStep w T t (a (paF (tr T t)))) p)) ∧ (∀ p, p < 3 → (aGo w last T p (t :: Q) (a p)).2.2.2.1 = false) ∧ ∃ nn' : Nat → Nat, (∀ p, p < 3 → PInv (999 * 9 ^ 4) (nn' p) (aGo w last T p (t :: Q) (a p))) ∧ nn' 0 + nn' 1 + nn' 2 ≤ nn 0 + nn 1 + nn 2 + (t :: Q).length) ∧ ((cGo w last T (t :: Q) s).1 = false → ∃ p, p < 3 ∧ (aGo w last T p (t :: Q) (a p)).2.2.2.1 = true) := by
        intro s' es hC' hs'
        obtain ⟨i1, i2, i3⟩ := ih s' _ _ _ hC' hP' hs' (fun x hx => hv x (List.mem_cons_of_mem _ hx)) hq2 (by omega) (by omega)
        have eg : cGo w last T (t :: Q) s = cGo w last T Q s' := by rw [cGo, if_pos cd, es]
        rw [eg]
        refine ⟨fun _ => ⟨hroom, fun s'' e'' => ?_⟩, fun z => ?_, fun z => ?_⟩
        · rw [es] at e''; cases e''; exact i1
        · obtain ⟨j1, j2, nn', j3, j4⟩ := i2 z
          refine ⟨j1, fun p hp => by rw [ea]; exact j2 p hp, nn', fun p hp => by rw [ea]; exact j3 p hp, by rw [List.length_cons]; omega⟩
        · obtain ⟨p, hp, j⟩ := i3 z
          exact ⟨p, hp, by rw [ea]; exact j⟩
      have sh' : (aStep w T t (a (paF (tr T t)))).2.2.2.1 = false → ∀ p, p < 3 → (upA a (paF (tr T t)) (aStep w T t (a (paF (tr T t)))) p).2.2.2.1 = false := by
        intro z p hp
        by_cases y : p = paF (tr T t)
        · rw [y, upA_at]; exact z
        · rw [upA_ne y]; exact hs p hp
      have sp := hs _ hp3
      by_cases c0 : (tr T t).1 = 0
      · refine next (cBuy w (paF (tr T t)) (nI t) (tr T t).2.2.1 (tr T t).2.2.2.1 (tr T t).2.2.2.2.1 s) (by rw [cStep, if_pos c0]) ?_ (sh' ?_)
        · rw [aStep, if_pos c0]; exact hC.buy hp3
        · rw [aStep, if_pos c0]; exact sp
      · by_cases c2 : (tr T t).1 = 2
        · refine next (cSplit (paF (tr T t)) (tr T t).2.2.2.1 (tr T t).2.2.2.2.1 s) (by rw [cStep, if_neg c0, if_pos c2]) ?_ (sh' ?_)
          · rw [aStep, if_neg c0, if_pos c2]
            exact hC.split hp3 fun q hq x hx ho => spP_closed (pow9 (show k ≤ 4 by omega)).2 ((hP q hq).2.1 x hx) ho
          · rw [aStep, if_neg c0, if_pos c2]; exact sp
        · by_cases c3 : (tr T t).2.2.2.1 ≤ shSum (s.1 (paF (tr T t))) (s.1 (paF (tr T t))).length
          · refine next (cSell w (paF (tr T t)) t (tr T t).2.2.1 (tr T t).2.2.2.1 (tr T t).2.2.2.2.1 (tr T t).2.2.2.2.2 s) (by rw [cStep, if_neg c0, if_neg c2, if_pos c3]) ?_ (sh' ?_)
            · rw [aStep, if_neg c0, if_neg c2]
              exact hC.sell hp3 hpt c3
            · rw [aStep, if_neg c0, if_neg c2, aSell, if_pos (by rw [← hC.1 _ hp3]; exact c3)]; exact sp
          · have es : cStep w T t s = none := by rw [cStep, if_neg c0, if_neg c2, if_neg c3]
            have eg : cGo w last T (t :: Q) s = (false, s) := by rw [cGo, if_pos cd, es]
            rw [eg]
            refine ⟨fun _ => ⟨hroom, fun s'' e'' => by rw [es] at e''; cases e''⟩, fun z => (by cases z), fun _ => ⟨paF (tr T t), hp3, ?_⟩⟩
            rw [ea, upA_at]
            refine aGo_sh Q _ ?_
            rw [aStep, if_neg c0, if_neg c2, aSell, if_neg (by rw [← hC.1 _ hp3]; exact c3)]
    · have eg : cGo w last T (t :: Q) s = (true, s) := by rw [cGo, if_neg cd]
      have sk : ∀ p, aGo w last T p (t :: Q) (a p) = a p := fun p => aGo_skip _ _ (fun x hx => by
        rcases List.mem_cons.mp hx with e | e
        · rw [e]; exact cd
        · exact fun z => cd (Int32.le_trans (hq1 x e) z))
      have sk' : (fun p => aGo w last T p (t :: Q) (a p)) = a := funext sk
      rw [eg, sk']
      refine ⟨fun z => absurd z cd, fun _ => ⟨hC, fun p hp => by rw [sk]; exact hs p hp, nn, fun p hp => by rw [sk]; exact (hP p hp).up (Nat.mul_le_mul_left _ (Nat.pow_le_pow_right (by omega) (by omega))), by rw [List.length_cons]; omega⟩, fun z => by cases z⟩
