/-! the reference's calls: strike, led, size -/
theorem spl_del1 {T : List Row} {t : Nat} : ∀ n, n ≤ t → spl (T.eraseIdx t) n = spl T n
  | 0, _ => rfl
  | n + 1, h => by
    have e : tr (T.eraseIdx t) n = tr T n := by rw [tr_del, if_pos (by omega)]
    rw [spl, spl, spl_del1 n (by omega), e]
theorem spl_del2 {T : List Row} {t : Nat} : ∀ n, t ≤ n → spl (T.eraseIdx t) n ≤ spl T (n + 1)
  | 0, h => Nat.zero_le _
  | n + 1, h => by
    by_cases e : t = n + 1
    · rw [spl_del1 _ (by omega)]
      exact Nat.le_add_right _ _
    · have ih := spl_del2 (T := T) n (show t ≤ n by omega)
      have e : tr (T.eraseIdx t) n = tr T (n + 1) := by rw [tr_del, if_neg (by omega)]
      show spl (T.eraseIdx t) n + (if (tr (T.eraseIdx t) n).1 = 2 then 1 else 0) ≤ spl T (n + 1) + (if (tr T (n + 1)).1 = 2 then 1 else 0)
      rw [e]
      omega
theorem vT_del {T : List Row} {t : Nat} (h : vT T) (ht : t < T.length) : vT (T.eraseIdx t) := by
  have hl : (T.eraseIdx t).length = T.length - 1 := List.length_eraseIdx_of_lt ht
  refine ⟨fun i hi => ?_, ?_, by rw [hl]; have := h.2.2; omega⟩
  · rw [hl] at hi
    rw [tr_del]
    split
    · exact h.1 i (by omega)
    · exact h.1 (i + 1) (by omega)
  · rw [hl]
    have := spl_del2 (T := T) (t := t) (T.length - 1) (by omega)
    rw [show T.length - 1 + 1 = T.length by omega] at this
    have := h.2.1
    omega
def uStrike (V : VSt) (t : Int32) : VSt × Int32 := if hasT (vNow V) t then (if shortT (lw (vLed V)) 999 ((vNow V).eraseIdx (pN t)) then (setT V 5, -1) else (setT (upV V ((vNow V).eraseIdx (pN t)) (pastN V) (vImg V)) 0, nI ((vNow V).length - 1))) else (setT V 1, -1)
/-- the i-th sell with something deferred, among k trades from t on, n having been met -/
def ldGo (V : VSt) (i : Int32) : Nat → Nat → Nat → Option Nat
  | 0, _, _ => none
  | k + 1, t, n => if smT pMoved (lw (vLed V)) 999 (vNow V) t = 0 then ldGo V i k (t + 1) n else if nI n = i then some t else ldGo V i k (t + 1) (n + 1)
def aLed (V : VSt) (i : Int32) : Option Nat := ldGo V i (vNow V).length 0 0
def optN (o : Option Nat) : Int32 := match o with
  | some t => nI t
  | none => 0
def aSize (V : VSt) (w : Int32) : Int32 := if w = 7 then nI (vN V) else if inB w 0 6 then (if w = 0 then lw (vLed V) else if w = 1 then nI (vNow V).length else if w = 2 then (match vLed V with | some td => nI td.2.1.length | none => 0) else if w = 3 then (match vLed V with | some td => nI td.2.2.1.length | none => 0) else if w = 4 then (match vLed V with | some td => nI td.2.2.2.length | none => 0) else if w = 5 then nI (vPast V).length else nI (vImg V).length) else -1
section
variable {d : Nat} {A : qA} {S : qS} {m : Nat} {V : VSt}
set_option maxRecDepth 20000 in
set_option maxHeartbeats 1000000 in
theorem cm_strike {t : Int32} {f : Int32 → qS → Prop} (h : MAt A S m V) (hv : vOk V) (hf : ∀ S', MAt A S' m (uStrike V t).1 → Fr S S' m (m + 27) → f (uStrike V t).2 S') : Run (d + 10) 260 [.ref m, .int t] A S (kI A f) := by
  refine Run.i (C := mX11_strike) rfl rfl rfl fun J hJ => ?_
  refine sX11_strike_0 hJ ⟨h.1.1.1, fun T e => ?_⟩
  subst e
  have hl := hv.2.1.1.2.2
  refine ⟨h.1.1.1, wc rfl, cm_isTrade h.t0 hv (q_neb (fun z => ?_) (fun z => ⟨h.1.1.1, wc rfl, cm_refused h.t0 fun S' h2 hr2 => kI_i ?_⟩))⟩
  · obtain ⟨i, hi, rfl⟩ := hasT_i (by omega) z
    have ei : pN (nI i) = i := cl_n (by omega)
    have hf' := hf
    rw [uStrike, z, if_pos rfl, ei] at hf'
    have hL : ∃ td, vLed V = some td := by
      cases hL : vLed V with
      | none => rw [(hv.2.2.1 hL).1] at hi; simp at hi
      | some td => exact ⟨td, rfl⟩
    obtain ⟨td, hL⟩ := hL
    have hle : ((vNow V).eraseIdx i).length = (vNow V).length - 1 := List.length_eraseIdx_of_lt hi
    refine ⟨h.1.1.1, wc rfl, cm_works h.t0 hv fun S1 h1 hx1 hr1 => ?_⟩
    obtain ⟨⟨k0, k1, k2, k3, k4, k5, k6, k7, k8, k9, k10, k11, k12, k13, k14, k15, k16, k17, k18, k19, k20, k21, k22, k23, k24, k25, k26⟩, ⟨r5, r15, r16, r17, r18, r21, r22, r23, r24, r25, r26, r27, r28, r29, r30, r31, r32, r33, r34, r35, r36, r37, r38, r39, r40, r48⟩⟩ := h1.1
    obtain ⟨H, hH⟩ := h1.2.1
    have cz : (0 : Int32).toNatClampNeg = 0 := rfl
    have v0 : vp_in 0 217 := vp_n (i := 0) (by omega) (by omega)
    have v0' : vp_in 0 145 := vp_n (i := 0) (by omega) (by omega)
    have loop : ∀ n k (Sj : qS) (w1 : Option Value), 6 * i + 1 ≤ k → k + n = 139 → (∀ b j, gI Sj b j = if b = m + 3 ∧ 6 * i + 1 ≤ j ∧ j < k then gI S1 (m + 3) (j + 6) else gI S1 b j) → (∀ b j, gL Sj b j = gL S1 b j) → (∀ b j, gR Sj b j = gR S1 b j) → J 30 [some (.ref m), w1, some (.int (nI k))] [] A Sj := by
      intro n
      induction n with
      | zero =>
        intro k Sj w1 hk hn g1 g2 g3
        refine sX11_strike_30 hJ ?_
        have ek : k = 139 := by omega
        subst ek
        have q1 : ((139 : Int32) ≤ nI 139) = True := by decide
        have r16' : gR Sj m 16 = some (m + 3) := (g3 m 16).trans r16
        have e0 : gI Sj (m + 3) 0 = nI (vNow V).length := by rw [g1, if_neg (by omega)]; exact hx1.1
        have em : nI (vNow V).length - 1 = nI ((vNow V).length - 1) := by
          have := nI_pred ((vNow V).length - 1)
          rwa [show (vNow V).length - 1 + 1 = (vNow V).length by omega] at this
        simp only [q1, k0, k3, r16', cz, v0, e0, em, not_true_eq_false, false_imp_iff, true_imp_iff, and_true, true_and, Option.some.injEq, Prod.mk.injEq, exists_eq_left', exists_eq_left, true_and, and_true, and_self, true_or, or_true, forall_const, exists_const, exists_and_left, wcat, Nat.zero_le, Nat.reduceLeDiff, Int32.lt_irrefl, not_false_eq_true, Nat.zero_add, forall_eq]
        have g4 : ∀ b j, ¬ b = m + 3 → gI (uI Sj (m + 3) 0 (nI ((vNow V).length - 1))) b j = gI S1 b j := fun b j hb => by rw [gI_uI, if_neg (fun w => hb w.1), g1, if_neg (fun w => hb w.1)]
        have hk2 : Fk S1 (uI Sj (m + 3) 0 (nI ((vNow V).length - 1))) m := Fk.x3 g4 (fun b j => g2 b j) (fun b j => g3 b j)
        have h2 := h1.fk hk2 (hH.x3 g4 (fun b j => g2 b j))
        have hx2 : RwAt (uI Sj (m + 3) 0 (nI ((vNow V).length - 1))) (m + 3) ((vNow V).eraseIdx i) := by
          refine ⟨by simp only [gI_uI, and_self, if_true, hle], fun j hj => ?_⟩
          rw [hle] at hj
          rw [tr_del]
          by_cases e : j < i
          · rw [if_pos e]
            have := hx1.2 j (by omega)
            refine ⟨?_, ?_, ?_, ?_, ?_, ?_⟩
            all_goals rw [gI_uI, if_neg (by omega), g1, if_neg (by omega)]
            · exact this.1
            · exact this.2.1
            · exact this.2.2.1
            · exact this.2.2.2.1
            · exact this.2.2.2.2.1
            · exact this.2.2.2.2.2
          · rw [if_neg e]
            have := hx1.2 (j + 1) (by omega)
            refine ⟨?_, ?_, ?_, ?_, ?_, ?_⟩
            all_goals rw [gI_uI, if_neg (by omega), g1, if_pos (by omega)]
            · rw [show 6 * j + 1 + 6 = 6 * (j + 1) + 1 by omega]; exact this.1
            · rw [show 6 * j + 2 + 6 = 6 * (j + 1) + 2 by omega]; exact this.2.1
            · rw [show 6 * j + 3 + 6 = 6 * (j + 1) + 3 by omega]; exact this.2.2.1
            · rw [show 6 * j + 4 + 6 = 6 * (j + 1) + 4 by omega]; exact this.2.2.2.1
            · rw [show 6 * j + 5 + 6 = 6 * (j + 1) + 5 by omega]; exact this.2.2.2.2.1
            · rw [show 6 * j + 6 + 6 = 6 * (j + 1) + 6 by omega]; exact this.2.2.2.2.2
        refine cm_takes h2 hv hL hx2 (vT_del hv.2.1.1 hi) (fun z2 S3 h3 hr3 => ?_) (fun z2 S3 h3 hr3 => ?_)
        · refine ⟨fun _ => cm_refused h3 fun S' h4 hr4 => kI_i ?_, fun c => absurd rfl c⟩
          have := hf' S'
          rw [z2] at this
          exact this h4 (frT0 (((hr1.trans hk2).fr.trans hr3).trans hr4))
        · refine ⟨fun c => absurd c (by decide), fun _ => ?_⟩
          obtain ⟨-, ⟨r5, r15, r16, r17, r18, r21, r22, r23, r24, r25, r26, r27, r28, r29, r30, r31, r32, r33, r34, r35, r36, r37, r38, r39, r40, r48⟩⟩ := h3.1
          have c3 : gI S3 (m + 2) 0 = nI ((vNow V).length - 1) := by
            rw [h3.2.2.1.2.2.1.1]
            show nI ((vNow V).eraseIdx i).length = _
            rw [hle]
          simp only [k2, r15, cz, v0', c3, Option.some.injEq, Prod.mk.injEq, exists_eq_left', exists_eq_left, true_and, and_true, and_self, true_or, or_true, forall_const, exists_const, exists_and_left, wcat, Nat.zero_le, Nat.reduceLeDiff, Int32.lt_irrefl, not_false_eq_true, Nat.zero_add, forall_eq]
          refine cm_good h3 fun S' h4 hr4 => kI_i ?_
          have := hf' S'
          rw [z2] at this
          exact this h4 (frT0 (((hr1.trans hk2).fr.trans hr3).trans hr4))
      | succ n ih =>
        intro k Sj w1 hk hn g1 g2 g3
        refine sX11_strike_30 hJ ?_
        have q1 : ((139 : Int32) ≤ nI k) = False := by rw [show (139 : Int32) = nI 139 from rfl, nIle (by omega) (by omega)]; simp; omega
        have r16' : gR Sj m 16 = some (m + 3) := (g3 m 16).trans r16
        have e6 : nI k + 6 = nI (k + 6) := nI_add k 6
        simp only [q1, k0, k3, r16', e6, cl_n (show k + 6 ≤ 100000 by omega), vp_n (show k + 6 < 217 by omega) (show 217 ≤ 100000 by omega), cl_n (show k ≤ 100000 by omega), vp_n (show k < 217 by omega) (show 217 ≤ 100000 by omega), nI_1, not_false_eq_true, false_imp_iff, true_imp_iff, true_and, Option.some.injEq, Prod.mk.injEq, exists_eq_left', exists_eq_left, true_and, and_true, and_self, true_or, or_true, forall_const, exists_const, exists_and_left, wcat, Nat.zero_le, Nat.reduceLeDiff, Int32.lt_irrefl, not_false_eq_true, Nat.zero_add, forall_eq]
        refine ih (k + 1) _ _ (by omega) (by omega) (fun b j => ?_) (fun b j => g2 b j) (fun b j => g3 b j)
        have ev : gI Sj (m + 3) (k + 6) = gI S1 (m + 3) (k + 6) := by rw [g1, if_neg (by omega)]
        rw [gI_uI, ev]
        by_cases z0 : b = m + 3 ∧ j = k
        · rw [if_pos z0, if_pos ⟨z0.1, by omega, by omega⟩, z0.2]
        · rw [if_neg z0, g1]
          by_cases z2 : b = m + 3 ∧ 6 * i + 1 ≤ j ∧ j < k
          · rw [if_pos z2, if_pos ⟨z2.1, z2.2.1, by omega⟩]
          · rw [if_neg z2, if_neg (fun w => by rcases Nat.lt_or_ge j k with qq | qq; exact z2 ⟨w.1, w.2.1, qq⟩; exact z0 ⟨w.1, by have := w.2.2; omega⟩)]
    have e1 : (6 : Int32) * nI i + 1 = nI (6 * i + 1) := by rw [show (6 : Int32) = nI 6 from rfl, nI_mul, nI_1]
    rw [e1]
    exact loop (139 - (6 * i + 1)) (6 * i + 1) S1 _ (Nat.le_refl _) (by omega) (fun b j => by rw [if_neg (by omega)]) (fun _ _ => rfl) (fun _ _ => rfl)
  · have := hf S'
    rw [uStrike, z] at this
    exact this h2 (frT0 hr2)
set_option maxRecDepth 20000 in
theorem cm_booksNow0 {td : Tld} {f : qS → Prop} (h : MAt A S m V) (hv : vOk V) (hL : vLed V = some td) (hf : ∀ S', MAt A S' m V → BkM A S' m td.1 999 (vNow V) → Fk S S' m → gI S' m 0 = gI S m 0 → f S') : Run (d + 9) 198 [.ref m] A S (kV A f) := by
  refine Run.i (C := mX11_booksNow) rfl rfl rfl fun J hJ => ?_
  refine sX11_booksNow_0 hJ ⟨h.1.1.1, wc rfl, ?_⟩
  have hw2 : ∀ {f : qS → Prop}, (∀ S', MAt A S' m V → RwAt S' (m + 3) (vNow V) → Fk S S' m → gI S' m 0 = gI S m 0 → f S') → Run (d + 8) 179 [.ref m] A S (kV A f) := by
    intro f hf
    refine Run.i (C := mX11_works) rfl rfl rfl fun J hJ => ?_
    have h0 := h
    obtain ⟨⟨⟨k0, k1, k2, k3, k4, k5, k6, k7, k8, k9, k10, k11, k12, k13, k14, k15, k16, k17, k18, k19, k20, k21, k22, k23, k24, k25, k26⟩, ⟨r5, r15, r16, r17, r18, r21, r22, r23, r24, r25, r26, r27, r28, r29, r30, r31, r32, r33, r34, r35, r36, r37, r38, r39, r40, r48⟩⟩, ⟨H, hH⟩, ⟨-, -, c3, -⟩, -⟩ := h0
    refine sX11_works_0 hJ ?_
    simp only [k0, r15, r16, Option.some.injEq, Prod.mk.injEq, exists_eq_left', exists_eq_left, true_and, and_true, and_self, true_or, or_true, forall_const, exists_const, exists_and_left, wcat, Nat.zero_le, Nat.reduceLeDiff, Int32.lt_irrefl, not_false_eq_true, Nat.zero_add, forall_eq]
    refine cm_copies k2 k3 (by omega) (by omega) (by omega) (by omega) (by omega) fun S' hc => kV_i (hf S' (h.fk hc.k (hH.cp hc)) ?_ hc.k (by rw [hc.1, if_neg (by omega)]))
    exact (RwO.same (o' := 0) c3.o hv.2.1.1.2.2 fun k hk => by rw [Nat.zero_add, hc.1, if_pos ⟨rfl, hk⟩]).at
  refine hw2 fun S1 h1 hx1 hr1 e1 => ?_
  have h1' := h1
  obtain ⟨hI1, ⟨H, hH⟩, -, hL1⟩ := h1'
  rw [hL] at hL1
  obtain ⟨q, e3, hq, hk, hrf, hw, -⟩ := hL1
  simp only [h.1.1.1, e3, hk.1, hw, Option.some.injEq, Prod.mk.injEq, exists_eq_left', exists_eq_left, true_and, and_true, and_self, true_or, or_true, forall_const, exists_const, exists_and_left, wcat, Nat.zero_le, Nat.reduceLeDiff, Int32.lt_irrefl, not_false_eq_true, Nat.zero_add, forall_eq]
  refine cm_books hI1 hx1 hH hv.2.1.1.b fun S2 hB hx2 hr2 => kV_i ?_
  have hk2 : Fk S1 S2 m := hr2.k (by omega)
  exact hf S2 (h1.fk hk2 hB.2.1) hB (hr1.trans hk2) (((hr2.1 m (by omega) 0 (by omega)).1).trans e1)
set_option maxRecDepth 20000 in
set_option maxHeartbeats 1000000 in
theorem cm_led {i : Int32} {f : Int32 → qS → Prop} (h : MAt A S m V) (hv : vOk V) (hf : ∀ S', MAt A S' m V → Fr S S' m (m + 27) → gI S' m 0 = bI (aLed V i).isNone → f (optN (aLed V i)) S') : Run (d + 10) 265 [.ref m, .int i] A S (kI A f) := by
  refine Run.i (C := mX11_led) rfl rfl rfl fun J hJ => ?_
  have hl := hv.2.1.1.2.2
  refine sX11_led_0 hJ ⟨h.1.1.1, fun T e => ?_⟩
  subst e
  have h0 := h.t0 (x := 0)
  have stop : ∀ Sj, MAt A Sj m V → Fr (uI S m 0 0) Sj m (m + 27) → aLed V i = none → kI A f (some (.int 0)) A (uI Sj m 0 1) := by
    intro Sj hj hrj e
    have := hf (uI Sj m 0 1) hj.t0 ((frT0 hrj).uI (by omega) (by omega))
    rw [e] at this
    exact kI_i (this (by simp only [gI_uI, gL_uL, gR_uR, gI_uL, gI_uR, gL_uI, gL_uR, gR_uI, gR_uL, true_and, and_true, Nat.add_right_cancel_iff, Nat.add_left_cancel_iff, Nat.reduceEqDiff, Nat.left_eq_add, Nat.right_eq_add, Nat.add_eq_left, Nat.add_eq_right, Nat.reduceAdd, Nat.succ_ne_self, reduceCtorEq, false_and, and_false, if_false, if_true, ite_true, ite_false, ite_self, Nat.succ_ne_zero, Nat.add_one_ne_zero, not_false_eq_true, not_true_eq_false, Nat.one_ne_zero, Nat.zero_ne_one]; rfl))
  refine ⟨h.1.1.1, fun z => ?_, fun q z => ?_⟩
  · have hn := mLed_n h0.2.2.2 z
    have e : aLed V i = none := by
      have := (hv.2.2.1 hn).1
      unfold aLed
      rw [this]
      rfl
    refine sX11_led_20 hJ ⟨h.1.1.1, fun _ => ⟨h.1.1.1, fun T eT => ?_⟩, fun q y => ?_⟩
    · subst eT
      exact stop _ h0 Fr.rf e
    · rw [z] at y; cases y
  · obtain ⟨td, hL, -⟩ := mLed_s h0.2.2.2 z
    refine ⟨h.1.1.1, wc rfl, cm_booksNow0 h0 hv hL fun S2 h2 hB hr2 e00 => ?_⟩
    obtain ⟨⟨k0, k1, k2, k3, k4, k5, k6, k7, k8, k9, k10, k11, k12, k13, k14, k15, k16, k17, k18, k19, k20, k21, k22, k23, k24, k25, k26⟩, ⟨r5, r15, r16, r17, r18, r21, r22, r23, r24, r25, r26, r27, r28, r29, r30, r31, r32, r33, r34, r35, r36, r37, r38, r39, r40, r48⟩⟩ := h2.1
    have c3 := h2.2.2.1.2.2.1.1
    have cz : (0 : Int32).toNatClampNeg = 0 := rfl
    have v0 : vp_in 0 145 := vp_n (i := 0) (by omega) (by omega)
    have th : gI S2 m 0 = 0 := by rw [e00]; simp only [gI_uI, gL_uL, gR_uR, gI_uL, gI_uR, gL_uI, gL_uR, gR_uI, gR_uL, true_and, and_true, Nat.add_right_cancel_iff, Nat.add_left_cancel_iff, Nat.reduceEqDiff, Nat.left_eq_add, Nat.right_eq_add, Nat.add_eq_left, Nat.add_eq_right, Nat.reduceAdd, Nat.succ_ne_self, reduceCtorEq, false_and, and_false, if_false, if_true, ite_true, ite_false, ite_self, Nat.succ_ne_zero, Nat.add_one_ne_zero, not_false_eq_true, not_true_eq_false, Nat.one_ne_zero, Nat.zero_ne_one]
    have loop : ∀ k t n, t + k = (vNow V).length → n ≤ t → ldGo V i k t n = aLed V i → J 20 [some (.ref m), some (.int i), some (.int (nI n)), some (.int (nI t))] [] A S2 := by
      intro k
      induction k with
      | zero =>
        intro t n hk hn he
        refine sX11_led_20 hJ ⟨k0, fun y => ⟨k0, fun T eT => ?_⟩, fun q y => ⟨k0, _, r15, _, k2, v0, fun _ => ⟨k0, fun T eT => ?_⟩, fun y1 => absurd ?_ y1⟩⟩
        · have := mLed_n h2.2.2.2 y
          rw [hL] at this; cases this
        · subst eT
          rw [ldGo] at he
          exact stop S2 h2 hr2.fr he.symm
        · rw [cz, c3]; exact (nIle (by omega) (by omega)).mpr (by omega)
      | succ k ih =>
        intro t n hk hn he
        refine sX11_led_20 hJ ⟨k0, fun y => ⟨k0, fun T eT => ?_⟩, fun q y => ⟨k0, _, r15, _, k2, v0, fun y1 => absurd ?_ (show ¬ (vNow V).length ≤ t by omega), fun _ => ⟨k0, wc rfl, cm_ledOf (hB.v hL) hv.2.1.1.b (by omega) ?_⟩⟩⟩
        · have := mLed_n h2.2.2.2 y
          rw [hL] at this; cases this
        · rw [cz, c3] at y1; exact (nIle (by omega) (by omega)).mp y1
        · rw [lgc_eq, nI_1, nI_1]
          rw [ldGo] at he
          refine ⟨fun y1 => ?_, fun y1 => ?_⟩
          · rw [if_neg y1] at he
            refine ⟨fun y2 => ?_, fun y2 => ?_⟩
            · rw [if_neg y2] at he
              exact ih (t + 1) (n + 1) (by omega) (by omega) he
            · rw [if_pos y2] at he
              have := hf S2 h2 (frT0 hr2.fr)
              rw [← he] at this
              exact kI_i (this th)
          · rw [if_pos y1] at he
            exact ih (t + 1) n (by omega) (by omega) he
    exact loop (vNow V).length 0 0 (by omega) (Nat.le_refl _) rfl
set_option maxRecDepth 20000 in
theorem cm_thrown {f : Int32 → qS → Prop} (h : MAt A S m V) (hf : f (gI S m 0) S) : Run (d + 1) 137 [.ref m] A S (kI A f) := by
  refine Run.i (C := mX11_thrown) rfl rfl rfl fun J hJ => ?_
  refine sX11_thrown_0 hJ ?_
  simp only [h.1.1.1, Option.some.injEq, Prod.mk.injEq, exists_eq_left', exists_eq_left, true_and, and_true, and_self, true_or, or_true, forall_const, exists_const, exists_and_left, wcat, Nat.zero_le, Nat.reduceLeDiff, Int32.lt_irrefl, not_false_eq_true, Nat.zero_add, forall_eq]
  exact kI_i hf
end
