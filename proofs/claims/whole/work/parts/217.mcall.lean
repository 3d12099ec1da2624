/-! the reference's calls: byRule, leastRule, until, heldAt, later -/
/-- the best of the rules below n, and its gains -/
def lrGo (w : Int32) (T : List Row) (t : Nat) : Nat → Int32 × Int64
  | 0 => (-2, 0)
  | r + 1 => if shortT w 999 (ruT T t (nI r)) then lrGo w T t r else if (lrGo w T t r).1 = -2 ∨ smA pGain w 999 (ruT T t (nI r)) < (lrGo w T t r).2 then (nI r, smA pGain w 999 (ruT T t (nI r))) else lrGo w T t r
def aLeast (V : VSt) (t : Int32) : Int32 := if isSellT (vNow V) t then (lrGo (lw (vLed V)) (vNow V) (pN t) 4).1 else -1
/-- the first of n waits from k on by which nothing is deferred -/
def laGo (w : Int32) (T : List Row) (t : Nat) : Nat → Nat → Int32
  | 0, _ => -2
  | n + 1, k => if 999 < (tr T t).2.2.1 + nI k then -2 else if shortT w 999 (dyT T t ((tr T t).2.2.1 + nI k)) then laGo w T t n (k + 1) else if smT pMoved w 999 (dyT T t ((tr T t).2.2.1 + nI k)) t = 0 then nI k else laGo w T t n (k + 1)
def aLater (V : VSt) (t : Int32) : Int32 := if isSellT (vNow V) t then laGo (lw (vLed V)) (vNow V) (pN t) 100 0 else -1
theorem lgc_lt (x y : Int64) : lg_cmp x y < 0 ↔ x < y := by
  rw [← Int32.not_le, lgc_ge, Int64.not_le]
theorem vT_ru {T : List Row} {t u : Nat} (h : vT T) (ht : t < T.length) (hs : (tr T t).1 = 1) (hu : u ≤ 3) : vT (ruT T t (nI u)) := vT_set h ht rfl (vRow_rule (h.1 t ht) hs hu)
theorem vT_dy {T : List Row} {t u : Nat} (h : vT T) (ht : t < T.length) (hu : u ≤ 999) : vT (dyT T t (nI u)) := vT_set h ht rfl (vRow_day (h.1 t ht) hu)
theorem sell_1 {V : VSt} {i : Nat} (hi : i ≤ 100000) (h : isSellT (vNow V) (nI i) = true) : (tr (vNow V) i).1 = 1 := by
  have h2 := of_decide_eq_true (Bool.and_eq_true_iff.mp h).2
  rwa [cl_n hi] at h2
section
variable {d : Nat} {A : qA} {S : qS} {m : Nat} {V : VSt}
set_option maxRecDepth 20000 in
theorem cm_booksByRule {t u : Nat} {td : Tld} {f : qS → Prop} (h : MAt A S m V) (hv : vOk V) (hL : vLed V = some td) (ht : t < (vNow V).length) (hs : (tr (vNow V) t).1 = 1) (hu : u ≤ 3) (hf : ∀ S', MAt A S' m V → BkM A S' m (lw (vLed V)) 999 (ruT (vNow V) t (nI u)) → Fk S S' m → f S') : Run (d + 9) 228 [.ref m, .int (nI t), .int (nI u)] A S (kV A f) := by
  refine Run.i (C := mX11_booksByRule) rfl rfl rfl fun J hJ => ?_
  have hl := hv.2.1.1.2.2
  refine sX11_booksByRule_0 hJ ⟨h.1.1.1, wc rfl, cm_works h hv fun S1 h1 hx1 hr1 => ?_⟩
  have h1' := h1
  obtain ⟨⟨⟨k0, k1, k2, k3, k4, k5, k6, k7, k8, k9, k10, k11, k12, k13, k14, k15, k16, k17, k18, k19, k20, k21, k22, k23, k24, k25, k26⟩, ⟨r5, r15, r16, r17, r18, r21, r22, r23, r24, r25, r26, r27, r28, r29, r30, r31, r32, r33, r34, r35, r36, r37, r38, r39, r40, r48⟩⟩, ⟨H, hH⟩, -, hL1⟩ := h1'
  have hL2 := hL1
  rw [hL] at hL2
  obtain ⟨q, e3, hq, hk, hrf, hw, -⟩ := hL2
  have e : (6 : Int32) * nI t + 6 = nI (6 * t + 6) := by rw [show (6 : Int32) = nI 6 from rfl, nI_mul, nI_add]
  have eq1 : (q = m + 3) = False := by simp only [eq_iff_iff, iff_false]; omega
  simp only [k0, k3, r16, e, cl_n (show 6 * t + 6 ≤ 100000 by omega), vp_n (show 6 * t + 6 < 217 by omega) (show 217 ≤ 100000 by omega), e3, hk.1, hw, eq1, Option.some.injEq, Prod.mk.injEq, exists_eq_left', exists_eq_left, true_and, and_true, and_self, true_or, or_true, forall_const, exists_const, exists_and_left, wcat, Nat.zero_le, Nat.reduceLeDiff, Int32.lt_irrefl, not_false_eq_true, Nat.zero_add, forall_eq, gI_uI, gL_uL, gR_uR, gI_uL, gI_uR, gL_uI, gL_uR, gR_uI, gR_uL, true_and, and_true, Nat.add_right_cancel_iff, Nat.add_left_cancel_iff, Nat.reduceEqDiff, Nat.left_eq_add, Nat.right_eq_add, Nat.add_eq_left, Nat.add_eq_right, Nat.reduceAdd, Nat.succ_ne_self, reduceCtorEq, false_and, and_false, if_false, if_true, ite_true, ite_false, ite_self, Nat.succ_ne_zero, Nat.add_one_ne_zero, not_false_eq_true, not_true_eq_false, Nat.one_ne_zero, Nat.zero_ne_one]
  have hr2 : Fk S1 (uI S1 (m + 3) (6 * t + 6) (nI u)) m := Fk.rf.uI (by unfold scr; omega)
  have hH2 : MH (uI S1 (m + 3) (6 * t + 6) (nI u)) m H := hH.fm (lo := 3) (hi := 4) (u := 41) (v := 41) (Fm.rf.uI (by omega)) (by omega)
  rw [← lw_s hL]
  exact cm_booksX (h1.fk hr2 hH2) (hx1.rule ht) (vT_ru hv.2.1.1 ht hs hu).b fun S3 h3 hB hr3 => kV_i (hf S3 h3 hB ((hr1.trans hr2).trans hr3))
set_option maxRecDepth 20000 in
theorem cm_byRule {t r : Int32} {f : Int64 → qS → Prop} (h : MAt A S m V) (hv : vOk V) (hf : ∀ S', MAt A S' m (setT V (aByRule V t r).1) → Fr S S' m (m + 27) → f (aByRule V t r).2 S') : Run (d + 10) 229 [.ref m, .int t, .int r] A S (kL A f) := by
  refine Run.i (C := mX11_byRule) rfl rfl rfl fun J hJ => ?_
  refine sX11_byRule_0 hJ ⟨h.1.1.1, fun T e => ?_⟩
  subst e
  refine ⟨h.1.1.1, wc rfl, cm_isSell h.t0 hv (q_neb (fun z => ⟨wc rfl, cm_in (q_neb (fun z1 => ?_) (fun z1 => ⟨h.1.1.1, wc rfl, cm_noneL h.t0 fun S' h2 hr2 => kL_i ?_⟩))⟩) (fun z => ⟨h.1.1.1, wc rfl, cm_noneL h.t0 fun S' h2 hr2 => kL_i ?_⟩))⟩
  · obtain ⟨i, td, hi, rfl, hL⟩ := sell_led hv z
    obtain ⟨u, hu, rfl⟩ := inB_i (n := 3) (by omega) rfl z1
    have hl := hv.2.1.1.2.2
    have e : pN (nI i) = i := cl_n (by omega)
    have hf' := hf
    rw [aByRule, z, if_pos rfl, z1, if_pos rfl, e] at hf'
    refine ⟨h.1.1.1, wc rfl, cm_booksByRule h.t0 hv hL hi (sell_1 (by omega) z) hu fun S2 h2 hB hr2 => ?_⟩
    rw [hB.2.2.2.2.1]
    refine ⟨h.1.1.1, q_eqb (fun y => ⟨h.1.1.1, wc rfl, cm_allGains hB ⟨h.1.1.1, wc rfl, cm_sum h2 fun S' h3 hr3 => kL_i ?_⟩⟩) (fun y => ⟨h.1.1.1, wc rfl, cm_noneL h2 fun S' h3 hr3 => kL_i ?_⟩)⟩
    · have := hf' S'
      rw [y] at this
      exact this h3 (frT0 (hr2.fr.trans hr3))
    · have := hf' S'
      rw [y] at this
      exact this h3 (frT0 (hr2.fr.trans hr3))
  · have := hf S'
    rw [aByRule, z, z1] at this
    exact this h2 (frT0 hr2)
  · have := hf S'
    rw [aByRule, z] at this
    exact this h2 (frT0 hr2)
theorem lrGo_b (w : Int32) (T : List Row) (t : Nat) : ∀ n, n ≤ 4 → (lrGo w T t n).1 = -2 ∨ ∃ j, j < n ∧ (lrGo w T t n).1 = nI j
  | 0, _ => Or.inl rfl
  | n + 1, h => by
    rw [lrGo]
    rcases lrGo_b w T t n (by omega) with e | ⟨j, hj, e⟩
    · repeat' split
      · exact Or.inl e
      · exact Or.inr ⟨n, by omega, rfl⟩
      · exact Or.inl e
    · repeat' split
      · exact Or.inr ⟨j, by omega, e⟩
      · exact Or.inr ⟨n, by omega, rfl⟩
      · exact Or.inr ⟨j, by omega, e⟩
set_option maxRecDepth 20000 in
set_option maxHeartbeats 1000000 in
theorem cm_leastRule {t : Int32} {f : Int32 → qS → Prop} (h : MAt A S m V) (hv : vOk V) (hf : ∀ S', MAt A S' m (qst (isSellT (vNow V) t) V) → Fr S S' m (m + 27) → f (aLeast V t) S') : Run (d + 10) 230 [.ref m, .int t] A S (kI A f) := by
  refine Run.i (C := mX11_leastRule) rfl rfl rfl fun J hJ => ?_
  refine sX11_leastRule_0 hJ ⟨h.1.1.1, fun T e => ?_⟩
  subst e
  refine ⟨h.1.1.1, wc rfl, cm_isSell h.t0 hv (q_neb (fun z => ?_) (fun z => ⟨h.1.1.1, wc rfl, cm_refused h.t0 fun S' h2 hr2 => kI_i ?_⟩))⟩
  · obtain ⟨i, td, hi, rfl, hL⟩ := sell_led hv z
    have hl := hv.2.1.1.2.2
    have ei : pN (nI i) = i := cl_n (by omega)
    have hs := sell_1 (V := V) (i := i) (by omega) z
    have loop : ∀ n r (Sj : qS) (w4 : Option Value), r + n = 4 → MAt A Sj m V → Fk (uI S m 0 0) Sj m → J 27 [some (.ref m), some (.int (nI i)), some (.int (lrGo (lw (vLed V)) (vNow V) i r).1), some (.long (lrGo (lw (vLed V)) (vNow V) i r).2), w4, some (.int (nI r))] [] A Sj := by
      intro n
      induction n with
      | zero =>
        intro r Sj w4 hn hj hrj
        refine sX11_leastRule_27 hJ ?_
        have er : r = 4 := by omega
        subst er
        have q4 : ((4 : Int32) ≤ nI 4) = True := by decide
        simp only [q4, h.1.1.1, not_true_eq_false, false_imp_iff, true_imp_iff, and_true, true_and, Option.some.injEq, Prod.mk.injEq, exists_eq_left', exists_eq_left, true_and, and_true, and_self, true_or, or_true, forall_const, exists_const, exists_and_left, wcat, Nat.zero_le, Nat.reduceLeDiff, Int32.lt_irrefl, not_false_eq_true, Nat.zero_add, forall_eq]
        refine cm_good hj fun S' h3 hr3 => kI_i ?_
        have := hf S'
        rw [z, aLeast, z, if_pos rfl, ei] at this
        exact this h3 (frT0 (hrj.fr.trans hr3))
      | succ n ih =>
        intro r Sj w4 hn hj hrj
        refine sX11_leastRule_27 hJ ?_
        have q4 : ((4 : Int32) ≤ nI r) = False := by rw [show (4 : Int32) = nI 4 from rfl, nIle (by omega) (by omega)]; simp; omega
        simp only [q4, h.1.1.1, nI_1, not_false_eq_true, false_imp_iff, true_imp_iff, true_and, Option.some.injEq, Prod.mk.injEq, exists_eq_left', exists_eq_left, true_and, and_true, and_self, true_or, or_true, forall_const, exists_const, exists_and_left, wcat, Nat.zero_le, Nat.reduceLeDiff, Int32.lt_irrefl, not_false_eq_true, Nat.zero_add, forall_eq]
        refine cm_booksByRule hj hv hL hi hs (by omega) fun S2 h2 hB hr2 => ?_
        rw [hB.2.2.2.2.1]
        have ih' := ih (r + 1)
        rw [lrGo] at ih'
        refine q_neb (fun y => ?_) (fun y => ⟨fun y1 => cm_allGains hB ?_, fun y1 => cm_allGains hB ?_⟩)
        · rw [if_pos y] at ih'
          exact ih' S2 _ (by omega) h2 (hrj.trans hr2)
        · rw [if_neg (by rw [y]; decide), if_pos (Or.inl y1)] at ih'
          exact ih' S2 _ (by omega) h2 (hrj.trans hr2)
        · rw [lgc_lt]
          rw [if_neg (by rw [y]; decide)] at ih'
          refine ⟨fun y2 => cm_allGains hB ?_, fun y2 => ?_⟩
          · rw [if_pos (Or.inr y2)] at ih'
            exact ih' S2 _ (by omega) h2 (hrj.trans hr2)
          · rw [if_neg (fun w => by rcases w with w | w; exact y1 w; exact y2 w)] at ih'
            exact ih' S2 _ (by omega) h2 (hrj.trans hr2)
    exact loop 4 0 _ _ (by omega) h.t0 Fk.rf
  · have := hf S'
    rw [z, aLeast, z] at this
    exact this h2 (frT0 hr2)
set_option maxRecDepth 20000 in
theorem cm_until {y : Int32} {f : Int64 → qS → Prop} (h : MAt A S m V) (hv : vOk V) (hf : ∀ S', MAt A S' m (setT V (aUntil V y).1) → Fr S S' m (m + 27) → f (aUntil V y).2 S') : Run (d + 10) 232 [.ref m, .int y] A S (kL A f) := by
  refine Run.i (C := mX11_until) rfl rfl rfl fun J hJ => ?_
  refine sX11_until_0 hJ ⟨h.1.1.1, fun T e => ?_⟩
  subst e
  refine ⟨h.1.1.1, fun z => ⟨h.1.1.1, wc rfl, cm_noneL h.t0 fun S' h2 hr2 => kL_i ?_⟩, fun q z => ⟨wc rfl, cm_in (q_neb (fun z1 => ?_) (fun z1 => ⟨h.1.1.1, wc rfl, cm_noneL h.t0 fun S' h2 hr2 => kL_i ?_⟩))⟩⟩
  · have := hf S'
    rw [aUntil, led_n (mLed_n h.t0.2.2.2 z)] at this
    exact this h2 (frT0 hr2)
  · obtain ⟨td, hL, -⟩ := mLed_s h.t0.2.2.2 z
    refine ⟨h.1.1.1, wc rfl, cm_works h.t0 hv fun S1 h1 hx1 hr1 => ?_⟩
    have hL1 := h1.2.2.2
    rw [hL] at hL1
    obtain ⟨q', e3, hq, hk, hrf, hw, -⟩ := hL1
    simp only [h.1.1.1, e3, hk.1, hw, Option.some.injEq, Prod.mk.injEq, exists_eq_left', exists_eq_left, true_and, and_true, and_self, true_or, or_true, forall_const, exists_const, exists_and_left, wcat, Nat.zero_le, Nat.reduceLeDiff, Int32.lt_irrefl, not_false_eq_true, Nat.zero_add, forall_eq]
    refine cm_booksX h1 hx1 hv.2.1.1.b fun S2 h2 hB hr2 => cm_allGains hB (cm_sum h2 fun S' h3 hr3 => kL_i ?_)
    have := hf S'
    rw [aUntil, led_s hL, if_pos rfl, z1, if_pos rfl, lw_s hL] at this
    exact this h3 (frT0 ((hr1.fr.trans hr2.fr).trans hr3))
  · obtain ⟨td, hL, -⟩ := mLed_s h.t0.2.2.2 z
    have := hf S'
    rw [aUntil, led_s hL, z1] at this
    exact this h2 (frT0 hr2)
set_option maxRecDepth 20000 in
theorem cm_heldAt {p y : Int32} {f : Int32 → qS → Prop} (h : MAt A S m V) (hv : vOk V) (hf : ∀ S', MAt A S' m (qst2 (papB V p) (inB y 0 999) V) → Fr S S' m (m + 27) → f (aHeldAt V p y) S') : Run (d + 10) 233 [.ref m, .int p, .int y] A S (kI A f) := by
  refine Run.i (C := mX11_heldAt) rfl rfl rfl fun J hJ => ?_
  refine sX11_heldAt_0 hJ ⟨h.1.1.1, fun T e => ?_⟩
  subst e
  refine ⟨h.1.1.1, wc rfl, cm_isPaper h.t0 (q_neb (fun z => ⟨wc rfl, cm_in (q_neb (fun z1 => ?_) (fun z1 => ⟨h.1.1.1, wc rfl, cm_refused h.t0 fun S' h2 hr2 => kI_i ?_⟩))⟩) (fun z => ⟨h.1.1.1, wc rfl, cm_refused h.t0 fun S' h2 hr2 => kI_i ?_⟩))⟩
  · obtain ⟨i, hi, rfl, td, hL⟩ := papB_i z
    refine ⟨h.1.1.1, wc rfl, cm_works h.t0 hv fun S1 h1 hx1 hr1 => ?_⟩
    have hL1 := h1.2.2.2
    rw [hL] at hL1
    obtain ⟨q', e3, hq, hk, hrf, hw, -⟩ := hL1
    simp only [h.1.1.1, e3, hk.1, hw, Option.some.injEq, Prod.mk.injEq, exists_eq_left', exists_eq_left, true_and, and_true, and_self, true_or, or_true, forall_const, exists_const, exists_and_left, wcat, Nat.zero_le, Nat.reduceLeDiff, Int32.lt_irrefl, not_false_eq_true, Nat.zero_add, forall_eq]
    refine cm_booksX h1 hx1 hv.2.1.1.b fun S2 h2 hB hr2 => cm_sharesOf h2.1 hB.2.1 hi (cm_good h2 fun S' h3 hr3 => kI_i ?_)
    have := hf S'
    have e : pN (nI i) = i := cl_n (by omega)
    rw [z, z1, aHeldAt, z, z1, Bool.and_self, if_pos rfl, e, lw_s hL] at this
    exact this h3 (frT0 ((hr1.fr.trans hr2.fr).trans hr3))
  · have := hf S'
    rw [z, z1, aHeldAt, z, z1] at this
    exact this h2 (frT0 hr2)
  · have := hf S'
    rw [z, aHeldAt, z] at this
    exact this h2 (frT0 hr2)
end
