/-! the class's acts: trades, strikes, rules -/
def bom (V : VSt) (r : Row) : VSt × Int32 := if (vNow V).length = 24 then (setT V 3, -1) else uTell V r
section
variable {d : Nat} {A : qA} {S S' : qS} {x : Nat} {V V' : VSt} {tA tB nA nB bA bB : Nat} {π π' : Nat → Nat}
set_option maxRecDepth 20000 in
theorem ct_bookOneMore {s p y sh pr ru : Int32} {f : Int32 → qS → Prop} (h : XP A S x V tA tB nA nB bA bB π) (hv : vOk V) (hr : vRow (s, p, y, sh, pr, ru)) (hs : s = 2 → spl (vNow V) (vNow V).length < 4) (hf : ∀ S', XAt A S' x (bom V (s, p, y, sh, pr, ru)).1 → Fr S S' x (x + 467) → f (bom V (s, p, y, sh, pr, ru)).2 S') : Run (d + 7) 119 [.ref x, .int s, .int p, .int y, .int sh, .int pr, .int ru] A S (kI A f) := by
  refine Run.i (C := mX9_bookOneMore) rfl rfl rfl fun J hJ => ?_
  have hk := h.1.1
  have hl := hv.2.1.1.2.2
  obtain ⟨d1, d2, d3, d4, d5⟩ := h.2.2.1
  unfold bom at hf
  refine sX9_bookOneMore_0 hJ ⟨hk, nA, h.r6, h.now.1.1, ?_⟩
  rw [h.now.2.2.1.1, show (24 : Int32) = nI 24 from rfl, nIlt (by omega) (by omega)]
  refine ⟨fun z => ?_, fun z => ⟨hk, wc rfl, ct_refuse h (by decide) fun S1 h1 f1 => kI_i ?_⟩⟩
  · rw [if_neg (by omega)] at hf
    unfold uTell at hf
    refine ⟨hk, nB, h.r7, hk, nA, h.r6, h.nk, wc rfl, ct_copyNow h hv fun S1 h1 t1 f1 => ⟨hk, nB, h1.r7, h1.nk, wc rfl, ct_add t1 z fun S2 t2 f2 => ?_⟩⟩
    have h2 := h1.trN f2 t2
    have F2 := (h.frN f1).trans (h1.frN f2)
    refine ⟨hk, wc rfl, ct_actByTrial h2 hv t2 (vT_add hv.2.1.1 hr z hs) (fun c S3 h3 f3 => ⟨fun _ => ⟨hk, wc rfl, ct_refuse h3 (by decide) fun S4 h4 f4 => kI_i ?_⟩, fun z => absurd rfl z⟩) (fun c S3 π' h3 f3 => ⟨fun z => absurd z (by decide), fun _ => ⟨hk, nB, h3.r6, h3.now.1.1, ?_⟩⟩)⟩
    · rw [if_pos c] at hf
      exact hf S4 h4.at ((F2.trans f3).trans f4)
    · rw [if_neg (by rw [c]; decide)] at hf
      rw [h3.now.2.2.1.1]
      show kI A f (some (.int (nI (vNow V ++ [(s, p, y, sh, pr, ru)]).length - 1))) A S3
      rw [List.length_append, List.length_singleton, nI_pred]
      exact kI_i (hf S3 h3.at (F2.trans f3))
  · rw [if_pos (by omega)] at hf
    exact hf S1 h1.at f1
set_option maxRecDepth 20000 in
theorem ct_buy {p y sh pr : Int32} {f : Int32 → qS → Prop} (h : XAt A S x V) (hv : vOk V) (hf : ∀ S', XAt A S' x (uBuy V p y sh pr).1 → Fr S S' x (x + 467) → f (uBuy V p y sh pr).2 S') : Run (d + 10) 116 [.ref x, .int p, .int y, .int sh, .int pr] A S (kI A f) := by
  refine Run.i (C := mX9_buy) rfl rfl rfl fun J hJ => ?_
  obtain ⟨tA, tB, nA, nB, bA, bB, π, h⟩ := h
  have hk := h.1.1
  unfold uBuy rtC dealB at hf
  have two : ∀ S1, papB V p = true → (inB y 0 999 && inB sh 1 999 && inB pr 0 999) = false → XP A S1 x (setT V 2) tA tB nA nB bA bB π → Fr S S1 x (x + 467) → kI A f (some (.int (-1))) A S1 := by
    intro S1 c e h1 f1
    rw [c, e] at hf
    exact kI_i (hf S1 h1.at f1)
  refine sX9_buy_0 hJ ⟨hk, wc rfl, ct_hasPaper h (And.symm (q_eqb (fun c => ⟨hk, wc rfl, ct_refuse h (by decide) fun S1 h1 f1 => kI_i ?_⟩) (fun c => ⟨wc rfl, ct_isWithin (q_eqb (fun c1 => ⟨hk, wc rfl, ct_refuse h (by decide) fun S1 h1 f1 => two S1 c (by rw [c1]; rfl) h1 f1⟩) (fun c1 => ⟨wc rfl, ct_isWithin (q_eqb (fun c2 => ⟨hk, wc rfl, ct_refuse h (by decide) fun S1 h1 f1 => two S1 c (by rw [c1, c2]; rfl) h1 f1⟩) (fun c2 => ⟨wc rfl, ct_isWithin (And.symm (q_eqb (fun c3 => ⟨hk, wc rfl, ct_refuse h (by decide) fun S1 h1 f1 => two S1 c (by rw [c1, c2, c3]; rfl) h1 f1⟩) (fun c3 => ⟨hk, wc rfl, ?_⟩)))⟩))⟩))⟩)))⟩
  · rw [c] at hf; exact hf S1 h1.at f1
  · obtain ⟨q, hq, rfl, -⟩ := papB_i c
    obtain ⟨i2, j2, e2⟩ := inB_i (n := 999) (by omega) rfl c1
    obtain ⟨i3, j3, j3', e3⟩ := inB_i1 (n := 999) (by omega) rfl c2
    obtain ⟨i4, j4, e4⟩ := inB_i (n := 999) (by omega) rfl c3
    rw [c, c1, c2, c3] at hf
    refine ct_bookOneMore h hv ⟨Or.inl rfl, ⟨q, hq, rfl⟩, ⟨i2, j2, e2⟩, fun z => absurd (show (0 : Int32) = 2 from z) (by decide), fun _ => ⟨⟨i3, j3, j3', e3⟩, i4, j4, e4⟩, fun z => absurd (show (0 : Int32) = 1 from z) (by decide)⟩ (fun z => absurd z (by decide)) fun S1 h1 f1 => kI_i ?_
    unfold bom at h1 ⊢
    by_cases e : (vNow V).length = 24
    · rw [if_pos e] at h1 ⊢
      simp only [Bool.and_self, if_true, if_pos e] at hf
      exact hf S1 h1 f1
    · rw [if_neg e] at h1 ⊢
      simp only [Bool.and_self, if_true, if_neg e] at hf
      exact hf S1 h1 f1
set_option maxRecDepth 20000 in
theorem ct_sell {p y sh pr ru : Int32} {f : Int32 → qS → Prop} (h : XAt A S x V) (hv : vOk V) (hf : ∀ S', XAt A S' x (uSell V p y sh pr ru).1 → Fr S S' x (x + 467) → f (uSell V p y sh pr ru).2 S') : Run (d + 10) 117 [.ref x, .int p, .int y, .int sh, .int pr, .int ru] A S (kI A f) := by
  refine Run.i (C := mX9_sell) rfl rfl rfl fun J hJ => ?_
  obtain ⟨tA, tB, nA, nB, bA, bB, π, h⟩ := h
  have hk := h.1.1
  unfold uSell rtC dealB at hf
  have one : ∀ S1, (papB V p = false ∨ inB ru 0 3 = false) → XP A S1 x (setT V 1) tA tB nA nB bA bB π → Fr S S1 x (x + 467) → kI A f (some (.int (-1))) A S1 := by
    intro S1 c h1 f1
    rcases c with c | c
    · rw [c] at hf
      cases c2 : inB ru 0 3
      · rw [c2] at hf; exact kI_i (hf S1 h1.at f1)
      · rw [c2] at hf; exact kI_i (hf S1 h1.at f1)
    · rw [c] at hf; exact kI_i (hf S1 h1.at f1)
  have two : ∀ S1, papB V p = true → inB ru 0 3 = true → (inB y 0 999 && inB sh 1 999 && inB pr 0 999) = false → XP A S1 x (setT V 2) tA tB nA nB bA bB π → Fr S S1 x (x + 467) → kI A f (some (.int (-1))) A S1 := by
    intro S1 c c0 e h1 f1
    rw [c, c0, e] at hf
    exact kI_i (hf S1 h1.at f1)
  refine sX9_sell_0 hJ ⟨hk, wc rfl, ct_hasPaper h (q_eqb (fun c => ⟨hk, wc rfl, ct_refuse h (by decide) fun S1 h1 f1 => one S1 (Or.inl c) h1 f1⟩) (fun c => ⟨wc rfl, ct_isWithin (And.symm (q_eqb (fun c0 => ⟨hk, wc rfl, ct_refuse h (by decide) fun S1 h1 f1 => one S1 (Or.inr c0) h1 f1⟩) (fun c0 => ⟨wc rfl, ct_isWithin (q_eqb (fun c1 => ⟨hk, wc rfl, ct_refuse h (by decide) fun S1 h1 f1 => two S1 c c0 (by rw [c1]; rfl) h1 f1⟩) (fun c1 => ⟨wc rfl, ct_isWithin (q_eqb (fun c2 => ⟨hk, wc rfl, ct_refuse h (by decide) fun S1 h1 f1 => two S1 c c0 (by rw [c1, c2]; rfl) h1 f1⟩) (fun c2 => ⟨wc rfl, ct_isWithin (And.symm (q_eqb (fun c3 => ⟨hk, wc rfl, ct_refuse h (by decide) fun S1 h1 f1 => two S1 c c0 (by rw [c1, c2, c3]; rfl) h1 f1⟩) (fun c3 => ⟨hk, wc rfl, ?_⟩)))⟩))⟩))⟩)))⟩))⟩
  obtain ⟨q, hq, rfl, -⟩ := papB_i c
  obtain ⟨i2, j2, e2⟩ := inB_i (n := 999) (by omega) rfl c1
  obtain ⟨i3, j3, j3', e3⟩ := inB_i1 (n := 999) (by omega) rfl c2
  obtain ⟨i4, j4, e4⟩ := inB_i (n := 999) (by omega) rfl c3
  obtain ⟨i5, j5, e5⟩ := inB_i (n := 3) (by omega) rfl c0
  rw [c, c0, c1, c2, c3] at hf
  refine ct_bookOneMore h hv ⟨Or.inr (Or.inl rfl), ⟨q, hq, rfl⟩, ⟨i2, j2, e2⟩, fun z => absurd (show (1 : Int32) = 2 from z) (by decide), fun _ => ⟨⟨i3, j3, j3', e3⟩, i4, j4, e4⟩, fun _ => ⟨i5, j5, e5⟩⟩ (fun z => absurd z (by decide)) fun S1 h1 f1 => kI_i ?_
  unfold bom at h1 ⊢
  by_cases e : (vNow V).length = 24
  · rw [if_pos e] at h1 ⊢
    simp only [Bool.and_self, if_true, if_pos e] at hf
    exact hf S1 h1 f1
  · rw [if_neg e] at h1 ⊢
    simp only [Bool.and_self, if_true, if_neg e] at hf
    exact hf S1 h1 f1
set_option maxRecDepth 20000 in
theorem ct_split {p y a b : Int32} {f : Int32 → qS → Prop} (h : XAt A S x V) (hv : vOk V) (hf : ∀ S', XAt A S' x (uSplit V p y a b).1 → Fr S S' x (x + 467) → f (uSplit V p y a b).2 S') : Run (d + 10) 118 [.ref x, .int p, .int y, .int a, .int b] A S (kI A f) := by
  refine Run.i (C := mX9_split) rfl rfl rfl fun J hJ => ?_
  obtain ⟨tA, tB, nA, nB, bA, bB, π, h⟩ := h
  have hk := h.1.1
  have hl := hv.2.1.1.2.2
  have hs4 := hv.2.1.1.2.1
  unfold uSplit rtC numB at hf
  have two : ∀ S1, papB V p = true → (inB y 0 999 && inB a 1 9 && inB b 1 9) = false → XP A S1 x (setT V 2) tA tB nA nB bA bB π → Fr S S1 x (x + 467) → kI A f (some (.int (-1))) A S1 := by
    intro S1 c e h1 f1
    rw [c, e] at hf
    exact kI_i (hf S1 h1.at f1)
  refine sX9_split_0 hJ ⟨hk, wc rfl, ct_hasPaper h (And.symm (q_eqb (fun c => ⟨hk, wc rfl, ct_refuse h (by decide) fun S1 h1 f1 => kI_i ?_⟩) (fun c => ⟨wc rfl, ct_isWithin (q_eqb (fun c1 => ⟨hk, wc rfl, ct_refuse h (by decide) fun S1 h1 f1 => two S1 c (by rw [c1]; rfl) h1 f1⟩) (fun c1 => ⟨wc rfl, ct_isWithin (q_eqb (fun c2 => ⟨hk, wc rfl, ct_refuse h (by decide) fun S1 h1 f1 => two S1 c (by rw [c1, c2]; rfl) h1 f1⟩) (fun c2 => ⟨wc rfl, ct_isWithin (And.symm (q_eqb (fun c3 => ⟨hk, wc rfl, ct_refuse h (by decide) fun S1 h1 f1 => two S1 c (by rw [c1, c2, c3]; rfl) h1 f1⟩) (fun c3 => ⟨hk, nA, h.r6, h.now.1.1, wc rfl, ct_splits h.now ⟨fun z => ⟨hk, wc rfl, ?_⟩, fun z => ⟨hk, wc rfl, ct_refuse h (by decide) fun S1 h1 f1 => kI_i ?_⟩⟩⟩)))⟩))⟩))⟩)))⟩
  · rw [c] at hf; exact hf S1 h1.at f1
  · rw [show (4 : Int32) = nI 4 from rfl, nIlt (by omega) (by omega)] at z
    obtain ⟨q, hq, rfl, -⟩ := papB_i c
    obtain ⟨i2, j2, e2⟩ := inB_i (n := 999) (by omega) rfl c1
    obtain ⟨i3, j3, j3', e3⟩ := inB_i1 (n := 9) (by omega) rfl c2
    obtain ⟨i4, j4, j4', e4⟩ := inB_i1 (n := 9) (by omega) rfl c3
    rw [c, c1, c2, c3] at hf
    refine ct_bookOneMore h hv ⟨Or.inr (Or.inr rfl), ⟨q, hq, rfl⟩, ⟨i2, j2, e2⟩, fun _ => ⟨⟨i3, j3, j3', e3⟩, i4, j4, j4', e4⟩, fun z => absurd rfl z, fun z => absurd (show (2 : Int32) = 1 from z) (by decide)⟩ (fun _ => z) fun S1 h1 f1 => kI_i ?_
    unfold bom at h1 ⊢
    by_cases e : (vNow V).length = 24
    · rw [if_pos e] at h1 ⊢
      simp only [Bool.and_self, if_true, if_pos e] at hf
      exact hf S1 h1 f1
    · rw [if_neg e] at h1 ⊢
      simp only [Bool.and_self, if_true, if_neg e, if_neg (show ¬ spl (vNow V) (vNow V).length = 4 by omega)] at hf
      exact hf S1 h1 f1
  · rw [show (4 : Int32) = nI 4 from rfl, nIlt (by omega) (by omega)] at z
    rw [c, c1, c2, c3] at hf
    by_cases e : (vNow V).length = 24
    · simp only [Bool.and_self, if_true, if_pos e] at hf
      exact hf S1 h1.at f1
    · simp only [Bool.and_self, if_true, if_neg e, if_pos (show spl (vNow V) (vNow V).length = 4 by omega)] at hf
      exact hf S1 h1.at f1
set_option maxRecDepth 20000 in
theorem ct_strike {t : Int32} {f : Int32 → qS → Prop} (h : XAt A S x V) (hv : vOk V) (hf : ∀ S', XAt A S' x (uStrike V t).1 → Fr S S' x (x + 467) → f (uStrike V t).2 S') : Run (d + 10) 120 [.ref x, .int t] A S (kI A f) := by
  refine Run.i (C := mX9_strike) rfl rfl rfl fun J hJ => ?_
  obtain ⟨tA, tB, nA, nB, bA, bB, π, h⟩ := h
  have hk := h.1.1
  have hl := hv.2.1.1.2.2
  unfold uStrike at hf
  refine sX9_strike_0 hJ ⟨hk, nA, h.r6, h.now.1.1, wc rfl, ct_has h.now (And.symm (q_eqb (fun c => ⟨hk, wc rfl, ct_refuse h (by decide) fun S1 h1 f1 => kI_i ?_⟩) (fun c => ?_)))⟩
  · rw [c] at hf; exact hf S1 h1.at f1
  · obtain ⟨q, hq, rfl⟩ := hasT_i (by omega) c
    rw [c, pN, cl_n (by omega), if_pos rfl] at hf
    refine ⟨hk, nB, h.r7, hk, nA, h.r6, h.nk, wc rfl, ct_copyNow h hv fun S1 h1 t1 f1 => ⟨hk, nB, h1.r7, h1.nk, wc rfl, ct_remove t1 hq fun S2 t2 f2 => ?_⟩⟩
    have h2 := h1.trN f2 t2
    have F2 := (h.frN f1).trans (h1.frN f2)
    refine ⟨hk, wc rfl, ct_actByTrial h2 hv t2 (vT_del hv.2.1.1 hq) (fun c S3 h3 f3 => ⟨fun _ => ⟨hk, wc rfl, ct_refuse h3 (by decide) fun S4 h4 f4 => kI_i ?_⟩, fun z => absurd rfl z⟩) (fun c S3 π' h3 f3 => ⟨fun z => absurd z (by decide), fun _ => ⟨hk, nB, h3.r6, h3.now.1.1, ?_⟩⟩)⟩
    · rw [if_pos c] at hf
      exact hf S4 h4.at ((F2.trans f3).trans f4)
    · rw [if_neg (by rw [c]; decide)] at hf
      rw [h3.now.2.2.1.1]
      show kI A f (some (.int (nI ((vNow V).eraseIdx q).length))) A S3
      rw [List.length_eraseIdx_of_lt hq]
      exact kI_i (hf S3 h3.at (F2.trans f3))
set_option maxRecDepth 20000 in
theorem ct_rule {t r : Int32} {f : Int32 → qS → Prop} (h : XAt A S x V) (hv : vOk V) (hf : ∀ S', XAt A S' x (uRule V t r).1 → Fr S S' x (x + 467) → f (uRule V t r).2 S') : Run (d + 10) 121 [.ref x, .int t, .int r] A S (kI A f) := by
  refine Run.i (C := mX9_rule) rfl rfl rfl fun J hJ => ?_
  obtain ⟨tA, tB, nA, nB, bA, bB, π, h⟩ := h
  have hk := h.1.1
  have hl := hv.2.1.1.2.2
  obtain ⟨d1, d2, d3, d4, d5⟩ := h.2.2.1
  unfold uRule at hf
  refine sX9_rule_0 hJ ⟨hk, nA, h.r6, h.now.1.1, wc rfl, ct_isSell h.now (q_eqb (fun c => ⟨hk, wc rfl, ct_refuse h (by decide) fun S1 h1 f1 => kI_i ?_⟩) (fun c => ⟨wc rfl, ct_isWithin (And.symm (q_eqb (fun c1 => ⟨hk, wc rfl, ct_refuse h (by decide) fun S1 h1 f1 => kI_i ?_⟩) (fun c1 => ?_)))⟩))⟩
  · rw [c] at hf; exact hf S1 h1.at f1
  · rw [c, c1] at hf; exact hf S1 h1.at f1
  · obtain ⟨q, hq, rfl, hs⟩ := isSellT_i (by omega) c
    obtain ⟨u, hu, rfl⟩ := inB_i (n := 3) (by omega) rfl c1
    rw [c, c1, pN, cl_n (by omega), Bool.and_self, if_pos rfl] at hf
    have g6 : gI S (nA + 6) q = (tr (vNow V) q).2.2.2.2.2 := (h.now.2.2.1.2 q hq).2.2.2.2.2
    rw [cl_n (by omega)]
    refine ⟨hk, nA, h.r6, h.now.1.1, nA + 6, h.now.2.1.2.2.2.2.2.2, 24, h.now.1.2.2.2.2.2.2, vp_n (by omega) (by omega), hk, nB, h.r7, hk, nA, h.r6, h.nk, wc rfl, ct_copyNow h hv fun S1 h1 t1 f1 => ⟨hk, nB, h1.r7, h1.nk, nB + 6, t1.2.1.2.2.2.2.2.2, 24, t1.1.2.2.2.2.2.2, vp_n (by omega) (by omega), fun T e => ?_⟩⟩
    have t2 := t1.rule (v := nI u) hq
    rw [← e] at t2
    have f2 : Fr S1 T nB (nB + 7) := by rw [e]; exact Fr.rf.uI (by omega) (by omega)
    have h2 := h1.trN f2 t2
    have F2 := (h.frN f1).trans (h1.frN f2)
    refine ⟨hk, wc rfl, ct_actByTrial h2 hv t2 (vT_ru hv.2.1.1 hq hs hu) (fun c S3 h3 f3 => ⟨fun _ => ⟨hk, wc rfl, ct_refuse h3 (by decide) fun S4 h4 f4 => kI_i ?_⟩, fun z => absurd rfl z⟩) (fun c S3 π' h3 f3 => ⟨fun z => absurd z (by decide), fun _ => ?_⟩)⟩
    · rw [if_pos c] at hf
      exact hf S4 h4.at ((F2.trans f3).trans f4)
    · rw [if_neg (by rw [c]; decide)] at hf
      rw [g6]
      exact kI_i (hf S3 h3.at (F2.trans f3))
end
