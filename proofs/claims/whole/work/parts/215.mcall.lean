/-! the reference's calls: of sells -/
def aGain (V : VSt) (t : Int32) : Int64 := if isSellT (vNow V) t then smT pGain (lw (vLed V)) 999 (vNow V) (pN t) else 0
def aDef (V : VSt) (t : Int32) : Int64 := if isSellT (vNow V) t then smT pMoved (lw (vLed V)) 999 (vNow V) (pN t) else -1
def aPieces (V : VSt) (t : Int32) : Int32 := if isSellT (vNow V) t then nI (pcT (lw (vLed V)) 999 (vNow V) (pN t)) else -1
def pcB (V : VSt) (t i : Int32) : Bool := isSellT (vNow V) t && decide (0 ≤ i) && decide (¬ nI (pcT (lw (vLed V)) 999 (vNow V) (pN t)) ≤ i)
def pieF (q : Pie) (w : Int32) : Int32 := if w = 0 then q.2.2.2.1 else if w = 1 then q.2.1 else if w = 2 then q.2.2.1 else pLeft q
def pieG (q : Pie) (w : Int32) : Int64 := if w = 0 then q.2.2.2.2.1 else if w = 1 then q.2.2.2.2.2.1 else q.2.2.2.2.2.2.2.2
def aPiece (V : VSt) (t i w : Int32) : Int32 := if pcB V t i && inB w 0 3 then pieF (ppT (lw (vLed V)) 999 (vNow V) (pN t) (pN i)) w else -1
def aPieceSum (V : VSt) (t i w : Int32) : Int64 := if pcB V t i && inB w 0 2 then pieG (ppT (lw (vLed V)) 999 (vNow V) (pN t) (pN i)) w else -1
def aGains (V : VSt) : Int64 := if (vLed V).isSome then smA pGain (lw (vLed V)) 999 (vNow V) else 0
def aDefs (V : VSt) : Int64 := if (vLed V).isSome then smA pMoved (lw (vLed V)) 999 (vNow V) else -1
def aLost (V : VSt) : Int64 := if (vLed V).isSome then (bkV V 2).2.2.1 + ((bkV V 1).2.2.1 + ((bkV V 0).2.2.1 + 0)) else -1
def aOpen (V : VSt) : Int32 := if (vLed V).isSome then nI (nOpn (allP (lw (vLed V)) 999 (vNow V))) else -1
theorem sell_led {V : VSt} {t : Int32} (hv : vOk V) (h : isSellT (vNow V) t = true) : ∃ i td, i < (vNow V).length ∧ t = nI i ∧ vLed V = some td := by
  obtain ⟨i, hi, e, -⟩ := isSellT_i (by have := hv.2.1.1.2.2; omega) h
  cases hL : vLed V with
  | none => rw [(hv.2.2.1 hL).1] at hi; simp at hi
  | some td => exact ⟨i, td, hi, e, rfl⟩
section
variable {d : Nat} {A : qA} {S : qS} {m : Nat} {V : VSt}
set_option maxRecDepth 20000 in
theorem cm_gain {t : Int32} {f : Int64 → qS → Prop} (h : MAt A S m V) (hv : vOk V) (hf : ∀ S', MAt A S' m (qst (isSellT (vNow V) t) V) → Fr S S' m (m + 27) → f (aGain V t) S') : Run (d + 10) 218 [.ref m, .int t] A S (kL A f) := by
  refine Run.i (C := mX11_gain) rfl rfl rfl fun J hJ => ?_
  refine sX11_gain_0 hJ ⟨h.1.1.1, fun T e => ?_⟩
  subst e
  refine ⟨h.1.1.1, wc rfl, cm_isSell h.t0 hv (q_neb (fun z => ?_) (fun z => ⟨h.1.1.1, wc rfl, cm_noneL h.t0 fun S' h2 hr2 => kL_i ?_⟩))⟩
  · obtain ⟨i, td, hi, rfl, hL⟩ := sell_led hv z
    have hl := hv.2.1.1.2.2
    refine ⟨h.1.1.1, wc rfl, cm_booksNow h.t0 hv hL fun S2 h2 hB hr2 => ⟨h.1.1.1, wc rfl, cm_gainOf (hB.v hL) hv.2.1.1.b hi ⟨h.1.1.1, wc rfl, cm_sum h2 fun S' h3 hr3 => kL_i ?_⟩⟩⟩
    have := hf S'
    rw [z, aGain, z] at this
    have e : pN (nI i) = i := cl_n (by omega)
    rw [if_pos rfl, e] at this
    exact this h3 (frT0 (hr2.fr.trans hr3))
  · have := hf S'
    rw [z, aGain, z] at this
    exact this h2 (frT0 hr2)
set_option maxRecDepth 20000 in
theorem cm_deferred {t : Int32} {f : Int64 → qS → Prop} (h : MAt A S m V) (hv : vOk V) (hf : ∀ S', MAt A S' m (qst (isSellT (vNow V) t) V) → Fr S S' m (m + 27) → f (aDef V t) S') : Run (d + 10) 219 [.ref m, .int t] A S (kL A f) := by
  refine Run.i (C := mX11_deferred) rfl rfl rfl fun J hJ => ?_
  refine sX11_deferred_0 hJ ⟨h.1.1.1, fun T e => ?_⟩
  subst e
  refine ⟨h.1.1.1, wc rfl, cm_isSell h.t0 hv (q_neb (fun z => ?_) (fun z => ⟨h.1.1.1, wc rfl, cm_refused h.t0 fun S' h2 hr2 => kL_i ?_⟩))⟩
  · obtain ⟨i, td, hi, rfl, hL⟩ := sell_led hv z
    have hl := hv.2.1.1.2.2
    refine ⟨h.1.1.1, wc rfl, cm_booksNow h.t0 hv hL fun S2 h2 hB hr2 => ⟨h.1.1.1, wc rfl, cm_ledOf (hB.v hL) hv.2.1.1.b hi ⟨h.1.1.1, wc rfl, cm_sum h2 fun S' h3 hr3 => kL_i ?_⟩⟩⟩
    have := hf S'
    rw [z, aDef, z] at this
    have e : pN (nI i) = i := cl_n (by omega)
    rw [if_pos rfl, e] at this
    exact this h3 (frT0 (hr2.fr.trans hr3))
  · have := hf S'
    rw [z, aDef, z] at this
    exact this h2 (frT0 hr2)
set_option maxRecDepth 20000 in
theorem cm_pieces {t : Int32} {f : Int32 → qS → Prop} (h : MAt A S m V) (hv : vOk V) (hf : ∀ S', MAt A S' m (qst (isSellT (vNow V) t) V) → Fr S S' m (m + 27) → f (aPieces V t) S') : Run (d + 10) 220 [.ref m, .int t] A S (kI A f) := by
  refine Run.i (C := mX11_pieces) rfl rfl rfl fun J hJ => ?_
  refine sX11_pieces_0 hJ ⟨h.1.1.1, fun T e => ?_⟩
  subst e
  refine ⟨h.1.1.1, wc rfl, cm_isSell h.t0 hv (q_neb (fun z => ?_) (fun z => ⟨h.1.1.1, wc rfl, cm_refused h.t0 fun S' h2 hr2 => kI_i ?_⟩))⟩
  · obtain ⟨i, td, hi, rfl, hL⟩ := sell_led hv z
    have hl := hv.2.1.1.2.2
    refine ⟨h.1.1.1, wc rfl, cm_booksNow h.t0 hv hL fun S2 h2 hB hr2 => ?_⟩
    obtain ⟨g, hg, e15, e16, hj⟩ := (hB.v hL).pie hv.2.1.1.b hi
    have h2' := h2
    obtain ⟨⟨⟨k0, k1, k2, k3, k4, k5, k6, k7, k8, k9, k10, k11, k12, k13, k14, k15, k16, k17, k18, k19, k20, k21, k22, k23, k24, k25, k26⟩, ⟨r5, r15, r16, r17, r18, r21, r22, r23, r24, r25, r26, r27, r28, r29, r30, r31, r32, r33, r34, r35, r36, r37, r38, r39, r40, r48⟩⟩, -⟩ := h2'
    simp only [k0, k16, r31, cl_n (show i ≤ 100000 by omega), vp_n (show i < 36 by omega) (show 36 ≤ 100000 by omega), e16, Option.some.injEq, Prod.mk.injEq, exists_eq_left', exists_eq_left, true_and, and_true, and_self, true_or, or_true, forall_const, exists_const, exists_and_left, wcat, Nat.zero_le, Nat.reduceLeDiff, Int32.lt_irrefl, not_false_eq_true, Nat.zero_add, forall_eq]
    refine cm_good h2 fun S' h3 hr3 => kI_i ?_
    have := hf S'
    rw [z, aPieces, z] at this
    have e : pN (nI i) = i := cl_n (by omega)
    rw [if_pos rfl, e] at this
    exact this h3 (frT0 (hr2.fr.trans hr3))
  · have := hf S'
    rw [z, aPieces, z] at this
    exact this h2 (frT0 hr2)
set_option maxRecDepth 20000 in
theorem cm_pieceAt {t i : Int32} {f : Int32 → qS → Prop} (h : MAt A S m V) (hv : vOk V) (hf0 : pcB V t i = false → ∀ S', MAt A S' m V → Fr S S' m (m + 27) → f (-1) S') (hf : ∀ q k g, q < (vNow V).length → t = nI q → i = nI k → k ≤ 100000 → g < 640 → pcB V t i = true → ∀ S', MAt A S' m V → mpie S' m g (ppT (lw (vLed V)) 999 (vNow V) q k) → Fr S S' m (m + 27) → f (nI g) S') : Run (d + 10) 221 [.ref m, .int t, .int i] A S (kI A f) := by
  refine Run.i (C := mX11_pieceAt) rfl rfl rfl fun J hJ => ?_
  refine sX11_pieceAt_0 hJ ⟨h.1.1.1, wc rfl, cm_isSell h hv (q_eqb (fun z => kI_i (hf0 (by rw [pcB, z]; rfl) S h Fr.rf)) (fun z => ⟨fun z0 => ?_, fun z0 => kI_i (hf0 ?_ S h Fr.rf)⟩))⟩
  · obtain ⟨q, td, hq, rfl, hL⟩ := sell_led hv z
    have hl := hv.2.1.1.2.2
    refine ⟨h.1.1.1, wc rfl, cm_booksNow h hv hL fun S2 h2 hB hr2 => ?_⟩
    obtain ⟨g, hg, e15, e16, hj⟩ := (hB.v hL).pie hv.2.1.1.b hq
    have h2' := h2
    obtain ⟨⟨⟨k0, k1, k2, k3, k4, k5, k6, k7, k8, k9, k10, k11, k12, k13, k14, k15, k16, k17, k18, k19, k20, k21, k22, k23, k24, k25, k26⟩, ⟨r5, r15, r16, r17, r18, r21, r22, r23, r24, r25, r26, r27, r28, r29, r30, r31, r32, r33, r34, r35, r36, r37, r38, r39, r40, r48⟩⟩, -⟩ := h2'
    have ep : pN (nI q) = q := cl_n (by omega)
    have eb : pcB V (nI q) i = decide (¬ nI (pcT (lw (vLed V)) 999 (vNow V) q) ≤ i) := by
      rw [pcB, z, ep, decide_eq_true z0]
      rfl
    simp only [k0, k15, k16, r30, r31, cl_n (show q ≤ 100000 by omega), vp_n (show q < 36 by omega) (show 36 ≤ 100000 by omega), e15, e16, Option.some.injEq, Prod.mk.injEq, exists_eq_left', exists_eq_left, true_and, and_true, and_self, true_or, or_true, forall_const, exists_const, exists_and_left, wcat, Nat.zero_le, Nat.reduceLeDiff, Int32.lt_irrefl, not_false_eq_true, Nat.zero_add, forall_eq]
    refine ⟨fun y => kI_i (hf0 ?_ S2 h2 hr2.fr), fun y => ?_⟩
    · rw [eb]; exact decide_eq_false (fun w => w y)
    · obtain ⟨k, hk, rfl⟩ := nI_idx (n := pcT (lw (vLed V)) 999 (vNow V) q) (by omega) (Int32.not_lt.mpr z0) y
      obtain ⟨hb, hm⟩ := hj k hk
      rw [nI_add]
      exact kI_i (hf q k (g + k) hq rfl rfl (by omega) hb (by rw [eb]; exact decide_eq_true y) S2 h2 hm hr2.fr)
  · rw [pcB, decide_eq_false z0, Bool.and_false]
    rfl
theorem mpie.g {x y : Int32} {j : Nat} {q : Pie} (h : mpie S m j q) : mpie (uI (uI S m 1 x) m 2 y) m j q := by
  unfold mpie at *
  simp only [gI_uI, gL_uL, gR_uR, gI_uL, gI_uR, gL_uI, gL_uR, gR_uI, gR_uL, true_and, and_true, Nat.add_right_cancel_iff, Nat.add_left_cancel_iff, Nat.reduceEqDiff, Nat.left_eq_add, Nat.right_eq_add, Nat.add_eq_left, Nat.add_eq_right, Nat.reduceAdd, Nat.succ_ne_self, reduceCtorEq, false_and, and_false, if_false, if_true, ite_true, ite_false, ite_self, Nat.succ_ne_zero, Nat.add_one_ne_zero, not_false_eq_true, not_true_eq_false, Nat.one_ne_zero, Nat.zero_ne_one]
  exact h
set_option maxRecDepth 20000 in
set_option maxHeartbeats 1000000 in
theorem cm_piece {t i w : Int32} {f : Int32 → qS → Prop} (h : MAt A S m V) (hv : vOk V) (hf : ∀ S', MAt A S' m (qst (pcB V t i && inB w 0 3) V) → Fr S S' m (m + 27) → f (aPiece V t i w) S') : Run (d + 11) 222 [.ref m, .int t, .int i, .int w] A S (kI A f) := by
  refine Run.i (C := mX11_piece) rfl rfl rfl fun J hJ => ?_
  refine sX11_piece_0 hJ ⟨h.1.1.1, fun T e => ?_⟩
  subst e
  have no : (pcB V t i && inB w 0 3) = false → ∀ (S1 : qS) (V1 : VSt), V1 = V → MAt A S1 m V1 → Fr (uI S m 0 0) S1 m (m + 27) → Run (d + 10) 138 [.ref m, .int 1] A S1 (kI A fun r S' => kI A f (some (.int r)) A S') := by
    intro z S1 V1 e1 h1 hr1
    subst e1
    refine cm_refused h1 fun S' h2 hr2 => kI_i ?_
    have := hf S'
    rw [z, aPiece, z] at this
    exact this h2 (frT0 (hr1.trans hr2))
  refine ⟨wc rfl, cm_in (q_eqb (fun z => ⟨fun c => absurd rfl c, fun _ => ⟨h.1.1.1, wc rfl, no (by rw [z, Bool.and_false]) _ V rfl h.t0 Fr.rf⟩⟩) (fun z => ⟨h.1.1.1, wc rfl, cm_pieceAt h.t0 hv (fun zl S1 h1 hr1 => ⟨fun c => absurd rfl c, fun _ => ⟨h.1.1.1, wc rfl, no (by rw [zl]; rfl) S1 V rfl h1 hr1⟩⟩) (fun q k g hq ep ei hk hg zl S1 h1 hm hr1 => ?_)⟩))⟩
  refine ⟨fun _ => ?_, fun c => absurd c (nI_nm1 (by omega))⟩
  have hl := hv.2.1.1.2.2
  have h1' := h1
  obtain ⟨⟨⟨k0, k1, k2, k3, k4, k5, k6, k7, k8, k9, k10, k11, k12, k13, k14, k15, k16, k17, k18, k19, k20, k21, k22, k23, k24, k25, k26⟩, ⟨r5, r15, r16, r17, r18, r21, r22, r23, r24, r25, r26, r27, r28, r29, r30, r31, r32, r33, r34, r35, r36, r37, r38, r39, r40, r48⟩⟩, -⟩ := h1'
  obtain ⟨y0, y1, y2, y3, y4, y5, y6, y7, y8⟩ := hm
  have fin : ∀ v, v = pieF (ppT (lw (vLed V)) 999 (vNow V) q k) w → Run (d + 10) 140 [.ref m, .int v] A S1 (kI A fun r S' => kI A f (some (.int r)) A S') := by
    intro v ev
    refine cm_good h1 fun S' h2 hr2 => kI_i ?_
    have := hf S'
    rw [zl, z, aPiece, zl, z, ep, ei] at this
    have e1 : pN (nI q) = q := cl_n (by omega)
    have e2 : pN (nI k) = k := cl_n (by omega)
    rw [Bool.and_self, if_pos rfl, e1, e2, ← ev] at this
    exact this h2 (frT0 (hr1.trans hr2))
  simp only [k0, k18, k19, k20, k21, r33, r34, r35, r36, cl_n (show g ≤ 100000 by omega), vp_n hg (show 640 ≤ 100000 by omega), y1, y2, y3, y6, Option.some.injEq, Prod.mk.injEq, exists_eq_left', exists_eq_left, true_and, and_true, and_self, true_or, or_true, forall_const, exists_const, exists_and_left, wcat, Nat.zero_le, Nat.reduceLeDiff, Int32.lt_irrefl, not_false_eq_true, Nat.zero_add, forall_eq]
  refine ⟨fun w0 => fin _ ?_, fun w0 => ⟨fun w1 => fin _ ?_, fun w1 => ⟨fun w2 => fin _ ?_, fun w2 => fin _ ?_⟩⟩⟩
  · rw [pieF, if_pos w0]
  · rw [pieF, if_neg w0, if_pos w1]
  · rw [pieF, if_neg w0, if_neg w1, if_pos w2]
  · rw [pieF, if_neg w0, if_neg w1, if_neg w2]; rfl
set_option maxRecDepth 20000 in
set_option maxHeartbeats 1000000 in
theorem cm_pieceSum {t i w : Int32} {f : Int64 → qS → Prop} (h : MAt A S m V) (hv : vOk V) (hf : ∀ S', MAt A S' m (qst (pcB V t i && inB w 0 2) V) → Fr S S' m (m + 27) → f (aPieceSum V t i w) S') : Run (d + 11) 223 [.ref m, .int t, .int i, .int w] A S (kL A f) := by
  refine Run.i (C := mX11_pieceSum) rfl rfl rfl fun J hJ => ?_
  refine sX11_pieceSum_0 hJ ⟨h.1.1.1, fun T e => ?_⟩
  subst e
  have no : (pcB V t i && inB w 0 2) = false → ∀ (S1 : qS) (V1 : VSt), V1 = V → MAt A S1 m V1 → Fr (uI S m 0 0) S1 m (m + 27) → Run (d + 10) 138 [.ref m, .int 1] A S1 (kI A fun r S' => kL A f (some (.long r.toInt64)) A S') := by
    intro z S1 V1 e1 h1 hr1
    subst e1
    refine cm_refused h1 fun S' h2 hr2 => kL_i ?_
    have := hf S'
    rw [z, aPieceSum, z] at this
    exact this h2 (frT0 (hr1.trans hr2))
  refine ⟨wc rfl, cm_in (q_eqb (fun z => ⟨fun c => absurd rfl c, fun _ => ⟨h.1.1.1, wc rfl, no (by rw [z, Bool.and_false]) _ V rfl h.t0 Fr.rf⟩⟩) (fun z => ⟨h.1.1.1, wc rfl, cm_pieceAt h.t0 hv (fun zl S1 h1 hr1 => ⟨fun c => absurd rfl c, fun _ => ⟨h.1.1.1, wc rfl, no (by rw [zl]; rfl) S1 V rfl h1 hr1⟩⟩) (fun q k g hq ep ei hk hg zl S1 h1 hm hr1 => ?_)⟩))⟩
  refine ⟨fun _ => ?_, fun c => absurd c (nI_nm1 (by omega))⟩
  have hl := hv.2.1.1.2.2
  have h1' := h1
  obtain ⟨⟨⟨k0, k1, k2, k3, k4, k5, k6, k7, k8, k9, k10, k11, k12, k13, k14, k15, k16, k17, k18, k19, k20, k21, k22, k23, k24, k25, k26⟩, ⟨r5, r15, r16, r17, r18, r21, r22, r23, r24, r25, r26, r27, r28, r29, r30, r31, r32, r33, r34, r35, r36, r37, r38, r39, r40, r48⟩⟩, -⟩ := h1'
  obtain ⟨y0, y1, y2, y3, y4, y5, y6, y7, y8⟩ := hm
  have fin : ∀ v, v = pieG (ppT (lw (vLed V)) 999 (vNow V) q k) w → Run (d + 10) 215 [.ref m, .long v] A S1 (kL A fun r S' => kL A f (some (.long r)) A S') := by
    intro v ev
    refine cm_sum h1 fun S' h2 hr2 => kL_i ?_
    have := hf S'
    rw [zl, z, aPieceSum, zl, z, ep, ei] at this
    have e1 : pN (nI q) = q := cl_n (by omega)
    have e2 : pN (nI k) = k := cl_n (by omega)
    rw [Bool.and_self, if_pos rfl, e1, e2, ← ev] at this
    exact this h2 (frT0 (hr1.trans hr2))
  simp only [k0, k22, k23, k25, r37, r38, r40, cl_n (show g ≤ 100000 by omega), vp_n hg (show 640 ≤ 100000 by omega), y4, y5, y8, Option.some.injEq, Prod.mk.injEq, exists_eq_left', exists_eq_left, true_and, and_true, and_self, true_or, or_true, forall_const, exists_const, exists_and_left, wcat, Nat.zero_le, Nat.reduceLeDiff, Int32.lt_irrefl, not_false_eq_true, Nat.zero_add, forall_eq]
  refine ⟨fun w0 => ⟨fun w1 => fin _ ?_, fun w1 => fin _ ?_⟩, fun w0 => fin _ ?_⟩
  · rw [pieG, if_neg w0, if_neg w1]
  · rw [pieG, if_neg w0, if_pos w1]
  · rw [pieG, if_pos w0]
end
