/-! the class's until, heldAt, leastRule, later -/
theorem aGo_pre {w last : Int32} {T : List Row} {p : Nat} (hl : last ≤ 999) : ∀ (Q : List Nat) (s : PSt), srt T Q → (aGo w last T p Q s).2.2.2.1 = true → (aGo w 999 T p Q s).2.2.2.1 = true
  | [], s, _, h => h
  | t :: Q, s, hs, h => by
    have hs' := List.pairwise_cons.mp hs
    by_cases c : dayF T t ≤ last
    · have c9 : dayF T t ≤ 999 := Int32.le_trans c hl
      unfold aGo at h ⊢
      by_cases e : paF (tr T t) = p
      · rw [if_pos ⟨e, c⟩] at h
        rw [if_pos ⟨e, c9⟩]
        exact aGo_pre hl Q _ hs'.2 h
      · rw [if_neg (fun z => e z.1)] at h ⊢
        exact aGo_pre hl Q _ hs'.2 h
    · rw [aGo_skip _ _ (fun u hu z => ?_)] at h
      · exact aGo_sh _ _ h
      · rcases List.mem_cons.mp hu with e | e
        · exact c (e ▸ z)
        · exact c (Int32.le_trans (hs'.1 u e) z)
theorem short_pre {w last : Int32} {T : List Row} (hl : last ≤ 999) (h : shortT w 999 T = false) : shortT w last T = false := by
  rw [shortT_f] at h ⊢
  intro p hp
  cases c : (aRes w last T p).2.2.2.1
  · rfl
  · have := aGo_pre hl _ _ (qT_srt T) c
    have h' := h p hp
    unfold aRes at h'
    rw [this] at h'
    exact absurd h' (by decide)
theorem inB_le {y : Int32} (h : inB y 0 999 = true) : y ≤ 999 := Int32.not_lt.mp (of_decide_eq_true h).2
theorem ru_ru {T : List Row} {t : Nat} {u v : Int32} (ht : t < T.length) : ruT (ruT T t v) t u = ruT T t u := by
  unfold ruT
  rw [List.set_set, tr_set ht, if_pos rfl]
  rfl
theorem dy_dy {T : List Row} {t : Nat} {u v : Int32} (ht : t < T.length) : dyT (dyT T t v) t u = dyT T t u := by
  unfold dyT
  rw [List.set_set, tr_set ht, if_pos rfl]
  rfl
theorem ru_id {T : List Row} {t : Nat} (ht : t < T.length) : ruT T t (tr T t).2.2.2.2.2 = T := by
  unfold ruT
  refine tr_ext (by rw [List.length_set]) fun i hi => ?_
  rw [tr_set ht]
  split
  · rename_i e; subst e; rfl
  · rfl
theorem nI_n2 {k : Nat} (h : k ≤ 100000) : ¬ nI k = -2 := fun e => nI_pos (show k < 2147483648 by omega) (by rw [e]; decide)
theorem lr_some {w : Int32} {T : List Row} {t : Nat} : ∀ n r, r < n → n ≤ 4 → shortT w 999 (ruT T t (nI r)) = false → ¬ (lrGo w T t n).1 = -2
  | 0, r, h, _, _ => absurd h (Nat.not_lt_zero _)
  | n + 1, r, h, hn, hs => by
    unfold lrGo
    by_cases c : shortT w 999 (ruT T t (nI n)) = true
    · rw [if_pos c]
      have e : ¬ r = n := fun e => by rw [e] at hs; rw [hs] at c; cases c
      exact lr_some n r (by omega) (by omega) hs
    · rw [if_neg c]
      split
      · exact nI_n2 (by omega)
      · rename_i z
        exact fun e => z (Or.inl e)
section
variable {d : Nat} {A : qA} {S S' : qS} {x : Nat} {V : VSt} {tA tB nA nB bA bB : Nat} {π : Nat → Nat}
set_option maxRecDepth 20000 in
theorem ct_until {y : Int32} {f : Int64 → qS → Prop} (h : XAt A S x V) (hv : vOk V) (hf : ∀ S', XAt A S' x (setT V (aUntil V y).1) → Fr S S' x (x + 467) → f (aUntil V y).2 S') : Run (d + 10) 99 [.ref x, .int y] A S (kL A f) := by
  refine Run.i (C := mX9_until) rfl rfl rfl fun J hJ => ?_
  obtain ⟨tA, tB, nA, nB, bA, bB, π, h⟩ := h
  have hk := h.1.1
  have hl := hv.2.1.1.2.2
  unfold aUntil at hf
  refine sX9_until_0 hJ ⟨hk, ?_⟩
  rw [h.2.2.2.1.2.2.1]
  refine And.symm (q_eqb (fun c => ⟨hk, wc rfl, ct_refuse h (by decide) fun S1 h1 f1 => kL_i ?_⟩) (fun c => ⟨wc rfl, ct_isWithin (And.symm (q_eqb (fun c1 => ⟨hk, wc rfl, ct_refuse h (by decide) fun S1 h1 f1 => kL_i ?_⟩) (fun c1 => ⟨hk, fun T e => ?_⟩)))⟩))
  · rw [c] at hf; exact hf S1 h1.at f1
  · rw [c, c1] at hf; exact hf S1 h1.at f1
  · subst e
    rw [c, c1] at hf
    have h1 := h.set (t := 0) (by decide)
    obtain ⟨d1, d2, d3, d4, d5⟩ := h.2.2.1
    refine ⟨hk, bB, h1.r9, hk, nA, h1.r6, hk, tA, h1.r4, h1.td.1.1, h1.tb.k, wc rfl, ?_⟩
    rw [h1.tw]
    refine ct_bookTrial h1 h1.now (by omega) hv.2.1.1 fun S2 h2 b2 t2 f2 => ⟨hk, bB, h2.r9, h2.tb.k, wc rfl, ct_allGainsT (b2 (short_pre (inB_le c1) hv.2.1.2)) (kL_i ?_)⟩
    exact hf S2 h2.at (fr14.trans (h1.frB f2))
set_option maxRecDepth 20000 in
theorem ct_heldAt {p y : Int32} {f : Int32 → qS → Prop} (h : XAt A S x V) (hv : vOk V) (hf : ∀ S', XAt A S' x (qst2 (papB V p) (inB y 0 999) V) → Fr S S' x (x + 467) → f (aHeldAt V p y) S') : Run (d + 10) 100 [.ref x, .int p, .int y] A S (kI A f) := by
  refine Run.i (C := mX9_heldAt) rfl rfl rfl fun J hJ => ?_
  obtain ⟨tA, tB, nA, nB, bA, bB, π, h⟩ := h
  have hk := h.1.1
  have hl := hv.2.1.1.2.2
  unfold aHeldAt qst2 at hf
  refine sX9_heldAt_0 hJ ⟨hk, wc rfl, ct_hasPaper h (And.symm (q_eqb (fun c => ⟨hk, wc rfl, ct_refuse h (by decide) fun S1 h1 f1 => kI_i ?_⟩) (fun c => ⟨wc rfl, ct_isWithin (And.symm (q_eqb (fun c1 => ⟨hk, wc rfl, ct_refuse h (by decide) fun S1 h1 f1 => kI_i ?_⟩) (fun c1 => ⟨hk, fun T e => ?_⟩)))⟩)))⟩
  · rw [c] at hf; exact hf S1 h1.at f1
  · rw [c, c1] at hf; exact hf S1 h1.at f1
  · subst e
    obtain ⟨q, hq, rfl, -⟩ := papB_i c
    rw [c, c1, pN, cl_n (by omega)] at hf
    have h1 := h.set (t := 0) (by decide)
    obtain ⟨d1, d2, d3, d4, d5⟩ := h.2.2.1
    refine ⟨hk, bB, h1.r9, hk, nA, h1.r6, hk, tA, h1.r4, h1.td.1.1, h1.tb.k, wc rfl, ?_⟩
    rw [h1.tw]
    refine ct_bookTrial h1 h1.now (by omega) hv.2.1.1 fun S2 h2 b2 t2 f2 => ?_
    obtain ⟨b1, b2, b3, b4, b5⟩ := (b2 (short_pre (inB_le c1) hv.2.1.2)).lo hq
    exact ⟨hk, bB, h2.r9, h2.tb.k, bB + 1, b2, 3, b3, vp_n (by omega) (by omega), bB + 18 + 42 * q, by rw [cl_n (by omega)]; exact b4, b5.1.1, wc rfl, ct_allShares b5 (kI_i (hf S2 h2.at (fr14.trans (h1.frB f2))))⟩
set_option maxRecDepth 20000 in
theorem ct_leastRule {t : Int32} {f : Int32 → qS → Prop} (h : XAt A S x V) (hv : vOk V) (hf : ∀ S', XAt A S' x (qst (isSellT (vNow V) t) V) → Fr S S' x (x + 467) → f (aLeast V t) S') : Run (d + 10) 96 [.ref x, .int t] A S (kI A f) := by
  refine Run.i (C := mX9_leastRule) rfl rfl rfl fun J hJ => ?_
  obtain ⟨tA, tB, nA, nB, bA, bB, π, h⟩ := h
  have hk := h.1.1
  have hl := hv.2.1.1.2.2
  unfold aLeast qst at hf
  refine sX9_leastRule_0 hJ ⟨hk, nA, h.r6, h.now.1.1, wc rfl, ct_isSell h.now (And.symm (q_eqb (fun c => ⟨hk, wc rfl, ct_refuse h (by decide) fun S1 h1 f1 => kI_i ?_⟩) (fun c => ⟨hk, fun T e => ?_⟩)))⟩
  · rw [c] at hf; exact hf S1 h1.at f1
  · subst e
    obtain ⟨q, hq, rfl, hs⟩ := isSellT_i (by omega) c
    rw [c, pN, cl_n (by omega)] at hf
    have h1 := h.set (t := 0) (by decide)
    obtain ⟨d1, d2, d3, d4, d5⟩ := h.2.2.1
    have hv1 : vOk (setT V 0) := hv
    have loop : ∀ n r (Sj : qS) (any : Bool) (least : Int32) (lg : Int64) (w4 w7 w8 : Option Value) (T' : List Row), r + n = 4 → XP A Sj x (setT V 0) tA tB nA nB bA bB π → TrAt A Sj nB 24 T' → T'.length = (vNow V).length → (∀ u, ruT T' q u = ruT (vNow V) q u) → Fr S Sj x (x + 467) → (any = true ↔ ¬ (lrGo (lw (vLed V)) (vNow V) q r).1 = -2) → (any = true → least = (lrGo (lw (vLed V)) (vNow V) q r).1 ∧ lg = (lrGo (lw (vLed V)) (vNow V) q r).2) → J 51 [some (.ref x), some (.int (nI q)), some (.int least), some (.long lg), w4, some (.int (bI any)), some (.int (nI r)), w7, w8] [] A Sj := by
      intro n
      induction n with
      | zero =>
        intro r Sj any least lg w4 w7 w8 T' hr hj ht hT' hu hfr ha hb
        refine sX9_leastRule_51 hJ ⟨fun _ => kI_i ?_, fun z => absurd ((nIlt (a := 3) (by omega) (by omega)).2 (by omega)) z⟩
        have e4 : r = 4 := by omega
        subst e4
        obtain ⟨u, hu3, eu⟩ := (hv.2.1.1.1 q hq).2.2.2.2.2 hs
        have hns : shortT (lw (vLed V)) 999 (ruT (vNow V) q (nI u)) = false := by rw [← eu, ru_id hq]; exact hv.2.1.2
        have := hb (ha.2 (lr_some 4 u (by omega) (by omega) hns))
        rw [this.1]
        exact hf Sj hj.at hfr
      | succ n ih =>
        intro r Sj any least lg w4 w7 w8 T' hr hj ht hT' hu hfr ha hb
        refine sX9_leastRule_51 hJ ⟨fun z => absurd ((nIlt (a := 3) (by omega) (by omega)).1 z) (by omega), fun _ => ⟨hk, nB, hj.r7, hj.nk, nB + 6, ht.2.1.2.2.2.2.2.2, 24, ht.1.2.2.2.2.2.2, vp_n (by omega) (by omega), fun T e => ?_⟩⟩
        rw [cl_n (by omega)] at e
        have t2 := ht.rule (v := nI r) (t := q) (by omega)
        rw [← e, hu] at t2
        have f2 : Fr Sj T nB (nB + 7) := by rw [e]; exact Fr.rf.uI (by omega) (by omega)
        have h2 := hj.trN f2 t2
        refine ⟨hk, bB, h2.r9, hk, nB, h2.r7, hk, tA, h2.r4, h2.td.1.1, h2.tb.k, wc rfl, ?_⟩
        rw [h2.tw]
        have vt := vT_ru hv.2.1.1 hq hs (show r ≤ 3 by omega)
        refine ct_bookTrial h2 t2 (by omega) vt fun S3 h3 b3 t3 f3 => ?_
        have fr3 := (hfr.trans (hj.frN f2)).trans (h2.frB f3)
        have next := fun any least lg w4 w7 w8 => ih (r + 1) S3 any least lg w4 w7 w8 (ruT (vNow V) q (nI r)) (by omega) h3 t3 (by unfold ruT; rw [List.length_set]) (fun u => ru_ru hq) fr3
        have elw : lw (vLed (setT V 0)) = lw (vLed V) := rfl
        rw [elw] at b3 ⊢
        rw [nI_1]
        cases cs : shortT (lw (vLed V)) 999 (ruT (vNow V) q (nI r))
        · refine ⟨fun z => absurd z (by decide), fun _ => ⟨hk, bB, h3.r9, h3.tb.k, wc rfl, ct_allGainsT (b3 cs) ?_⟩⟩
          have er : lrGo (lw (vLed V)) (vNow V) q (r + 1) = if (lrGo (lw (vLed V)) (vNow V) q r).1 = -2 ∨ smA pGain (lw (vLed V)) 999 (ruT (vNow V) q (nI r)) < (lrGo (lw (vLed V)) (vNow V) q r).2 then (nI r, smA pGain (lw (vLed V)) 999 (ruT (vNow V) q (nI r))) else lrGo (lw (vLed V)) (vNow V) q r := by
            show (if shortT (lw (vLed V)) 999 (ruT (vNow V) q (nI r)) = true then _ else _) = _
            rw [cs, if_neg (by decide)]
          have good : (lrGo (lw (vLed V)) (vNow V) q r).1 = -2 ∨ smA pGain (lw (vLed V)) 999 (ruT (vNow V) q (nI r)) < (lrGo (lw (vLed V)) (vNow V) q r).2 → ∀ w4 w7 w8, J 51 [some (.ref x), some (.int (nI q)), some (.int (nI r)), some (.long (smA pGain (lw (vLed V)) 999 (ruT (vNow V) q (nI r)))), w4, some (.int (bI true)), some (.int (nI (r + 1))), w7, w8] [] A S3 := by
            intro g w4 w7 w8
            refine next true _ _ w4 w7 w8 ?_ ?_
            · rw [er, if_pos g]
              exact ⟨fun _ => nI_n2 (by omega), fun _ => rfl⟩
            · rw [er, if_pos g]
              exact fun _ => ⟨rfl, rfl⟩
          cases any
          · refine ⟨fun _ => good (Or.inl ?_) _ _ _, fun z => absurd rfl z⟩
            by_cases e2 : (lrGo (lw (vLed V)) (vNow V) q r).1 = -2
            · exact e2
            · exact absurd (ha.2 e2) (by decide)
          · refine ⟨fun z => absurd z (by decide), fun _ => ?_⟩
            obtain ⟨e1, e2⟩ := hb rfl
            rw [e2]
            refine ⟨fun z => ?_, fun z => good (Or.inr ((lgc_lt _ _).1 (Int32.not_le.mp z))) _ _ _⟩
            have ng : ¬ ((lrGo (lw (vLed V)) (vNow V) q r).1 = -2 ∨ smA pGain (lw (vLed V)) 999 (ruT (vNow V) q (nI r)) < (lrGo (lw (vLed V)) (vNow V) q r).2) := by
              intro g
              rcases g with g | g
              · exact ha.1 rfl g
              · exact Int32.not_le.mpr ((lgc_lt _ _).2 g) z
            refine next true least _ _ _ _ ?_ ?_
            · rw [er, if_neg ng]; exact ha
            · rw [er, if_neg ng]; exact fun _ => ⟨e1, rfl⟩
        · refine ⟨fun _ => ?_, fun z => absurd rfl z⟩
          have er : lrGo (lw (vLed V)) (vNow V) q (r + 1) = lrGo (lw (vLed V)) (vNow V) q r := by
            show (if shortT (lw (vLed V)) 999 (ruT (vNow V) q (nI r)) = true then _ else _) = _
            rw [cs, if_pos rfl]
          refine next any least lg _ _ _ ?_ ?_
          · rw [er]; exact ha
          · rw [er]; exact hb
    refine ⟨hk, nB, h1.r7, hk, nA, h1.r6, h1.nk, wc rfl, ct_copyNow h1 hv1 fun S2 h2 t2 f2 => ⟨hk, nA, h2.r6, h2.now.1.1, nA + 6, h2.now.2.1.2.2.2.2.2.2, 24, h2.now.1.2.2.2.2.2.2, vp_n (by omega) (by omega), ?_⟩⟩
    exact loop 4 0 S2 false _ 0 _ _ _ (vNow V) (by omega) h2 t2 rfl (fun u => rfl) (fr14.trans (h1.frN f2)) ⟨fun z => (by cases z), fun z => absurd rfl z⟩ (fun z => (by cases z))
set_option maxRecDepth 20000 in
theorem ct_later {t : Int32} {f : Int32 → qS → Prop} (h : XAt A S x V) (hv : vOk V) (hf : ∀ S', XAt A S' x (qst (isSellT (vNow V) t) V) → Fr S S' x (x + 467) → f (aLater V t) S') : Run (d + 10) 101 [.ref x, .int t] A S (kI A f) := by
  refine Run.i (C := mX9_later) rfl rfl rfl fun J hJ => ?_
  obtain ⟨tA, tB, nA, nB, bA, bB, π, h⟩ := h
  have hk := h.1.1
  have hl := hv.2.1.1.2.2
  unfold aLater qst at hf
  refine sX9_later_0 hJ ⟨hk, nA, h.r6, h.now.1.1, wc rfl, ct_isSell h.now (And.symm (q_eqb (fun c => ⟨hk, wc rfl, ct_refuse h (by decide) fun S1 h1 f1 => kI_i ?_⟩) (fun c => ⟨hk, fun T e => ?_⟩)))⟩
  · rw [c] at hf; exact hf S1 h1.at f1
  · subst e
    obtain ⟨q, hq, rfl, hs⟩ := isSellT_i (by omega) c
    rw [c, pN, cl_n (by omega)] at hf
    have h1 := h.set (t := 0) (by decide)
    obtain ⟨d1, d2, d3, d4, d5⟩ := h.2.2.1
    have hv1 : vOk (setT V 0) := hv
    obtain ⟨dy, hdy, edy⟩ := (hv.2.1.1.1 q hq).2.2.1
    rw [if_pos rfl] at hf
    generalize eR : laGo (lw (vLed V)) (vNow V) q 100 0 = R at hf
    have loop : ∀ n k (Sj : qS) (T' : List Row), k + n = 100 → XP A Sj x (setT V 0) tA tB nA nB bA bB π → TrAt A Sj nB 24 T' → T'.length = (vNow V).length → (∀ u, dyT T' q u = dyT (vNow V) q u) → Fr S Sj x (x + 467) → laGo (lw (vLed V)) (vNow V) q n k = R → J 35 [some (.ref x), some (.int (nI q)), some (.int (nI k))] [] A Sj := by
      intro n
      induction n with
      | zero =>
        intro k Sj T' hr hj ht hT' hu hfr he
        refine sX9_later_35 hJ ⟨fun _ => kI_i ?_, fun z => absurd ((nIlt (a := 99) (by omega) (by omega)).2 (by omega)) z⟩
        have := hf Sj hj.at hfr
        rw [← he] at this
        exact this
      | succ n ih =>
        intro k Sj T' hr hj ht hT' hu hfr he
        have gd : gI Sj (nA + 3) q = nI dy := ((hj.now.2.2.1.2 q hq).2.2.1).trans edy
        unfold laGo at he
        rw [edy] at he
        refine sX9_later_35 hJ ⟨fun z => absurd ((nIlt (a := 99) (by omega) (by omega)).1 z) (by omega), fun _ => ⟨hk, nA, hj.r6, hj.now.1.1, nA + 3, hj.now.2.1.2.2.2.1, 24, hj.now.1.2.2.2.1, vp_n (by omega) (by omega), ?_⟩⟩
        rw [cl_n (by omega), gd]
        refine ⟨fun z => kI_i ?_, fun z => ⟨hk, nB, hj.r7, hj.nk, nB + 3, ht.2.1.2.2.2.1, hk, nA, hj.r6, hj.now.1.1, nA + 3, hj.now.2.1.2.2.2.1, 24, hj.now.1.2.2.2.1, vp_n (by omega) (by omega), 24, ht.1.2.2.2.1, vp_n (by omega) (by omega), fun T e => ?_⟩⟩
        · have := hf Sj hj.at hfr
          rw [if_pos z] at he
          rw [← he] at this
          exact this
        · rw [if_neg z] at he
          rw [gd] at e
          have t2 := ht.day (v := nI dy + nI k) (t := q) (by omega)
          rw [← e, hu] at t2
          have f2 : Fr Sj T nB (nB + 7) := by rw [e]; exact Fr.rf.uI (by omega) (by omega)
          have h2 := hj.trN f2 t2
          refine ⟨hk, bB, h2.r9, hk, nB, h2.r7, hk, tA, h2.r4, h2.td.1.1, h2.tb.k, wc rfl, ?_⟩
          rw [h2.tw]
          rw [nI_add] at t2 he z
          have z9 : dy + k ≤ 999 := by
            rw [show (999 : Int32) = nI 999 from rfl, nIlt (by omega) (by omega)] at z
            omega
          have vt := vT_dy hv.2.1.1 hq z9
          refine ct_bookTrial h2 t2 (by omega) vt fun S3 h3 b3 t3 f3 => ?_
          have fr3 := (hfr.trans (hj.frN f2)).trans (h2.frB f3)
          have elw : lw (vLed (setT V 0)) = lw (vLed V) := rfl
          have next := ih (k + 1) S3 (dyT (vNow V) q (nI (dy + k))) (by omega) h3 t3 (by unfold dyT; rw [List.length_set]) (fun u => dy_dy hq) fr3
          rw [elw] at b3 ⊢
          rw [nI_1]
          cases cs : shortT (lw (vLed V)) 999 (dyT (vNow V) q (nI (dy + k)))
          · rw [cs, if_neg (by decide)] at he
            refine ⟨fun z => absurd z (by decide), fun _ => ⟨hk, bB, h3.r9, h3.tb.k, wc rfl, ct_deferredT (b3 cs) vt (by unfold dyT; rw [List.length_set]; exact hq) ⟨fun zz => ?_, fun zz => kI_i ?_⟩⟩⟩
            · rw [if_neg (fun e => zz ((lgc_eq _ _).2 e))] at he
              exact next he
            · rw [if_pos ((lgc_eq _ _).1 zz)] at he
              have := hf S3 h3.at fr3
              rw [← he] at this
              exact this
          · rw [cs, if_pos rfl] at he
            exact ⟨fun _ => next he, fun z => absurd rfl z⟩
    exact ⟨hk, nB, h1.r7, hk, nA, h1.r6, h1.nk, wc rfl, ct_copyNow h1 hv1 fun S2 h2 t2 f2 => loop 100 0 S2 (vNow V) (by omega) h2 t2 rfl (fun u => rfl) (fr14.trans (h1.frN f2)) eR⟩
end
