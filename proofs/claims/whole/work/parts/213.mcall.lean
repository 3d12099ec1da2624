/-! the reference's calls: lot, lotCost, worth, chain -/
theorem wc {l : List Value} (h : Nat.ble (wcat l) 8 = true) : wcat l ≤ 8 := Nat.le_of_ble_eq_true h
theorem nI_nm1 {a : Nat} (h : a ≤ 100000) : ¬ nI a = -1 := by
  intro z
  have := nI_pos (n := a) (by omega)
  rw [z] at this
  exact this (by decide)
def aWorth (V : VSt) (p pr : Int32) : Int64 := if papB V p && inB pr 0 999 then (shSum (bkV V (pN p)).1 (bkV V (pN p)).1.length).toInt64 * pr.toInt64 - coSum (bkV V (pN p)).1 (bkV V (pN p)).1.length else 0
/-- behind a call that may be refused by 1, and then by 2 -/
def qst2 (c e : Bool) (V : VSt) : VSt := setT V (if c then (if e then 0 else 2) else 1)
def aChain (V : VSt) : Int32 := if (vLed V).isSome then chMax (bkV V 2).1 (chMax (bkV V 1).1 (chMax (bkV V 0).1 0 (bkV V 0).1.length) (bkV V 1).1.length) (bkV V 2).1.length else -1
section
variable {d : Nat} {A : qA} {S : qS} {m : Nat} {V : VSt}
set_option maxRecDepth 20000 in
set_option maxHeartbeats 1000000 in
theorem cm_lot {p i w : Int32} {f : Int32 → qS → Prop} (h : MAt A S m V) (hv : vOk V) (hf : ∀ S', MAt A S' m (qst (lotB V p i && inB w 0 4) V) → Fr S S' m (m + 27) → f (aLot V p i w) S') : Run (d + 11) 211 [.ref m, .int p, .int i, .int w] A S (kI A f) := by
  refine Run.i (C := mX11_lot) rfl rfl rfl fun J hJ => ?_
  refine sX11_lot_0 hJ ⟨h.1.1.1, fun T e => ?_⟩
  subst e
  have no : (lotB V p i && inB w 0 4) = false → ∀ (S1 : qS) (V1 : VSt), V1 = V → MAt A S1 m V1 → Fr (uI S m 0 0) S1 m (m + 27) → Run (d + 10) 138 [.ref m, .int 1] A S1 (kI A fun r S' => kI A f (some (.int r)) A S') := by
    intro z S1 V1 e1 h1 hr1
    subst e1
    refine cm_refused h1 fun S' h2 hr2 => kI_i ?_
    have := hf S'
    rw [z, aLot, z] at this
    exact this h2 (frT0 (hr1.trans hr2))
  refine ⟨wc rfl, cm_in (q_eqb (fun z => ⟨fun c => absurd rfl c, fun _ => ⟨h.1.1.1, wc rfl, no (by rw [z, Bool.and_false]) _ V rfl h.t0 Fr.rf⟩⟩) (fun z => ⟨h.1.1.1, wc rfl, cm_lotAt h.t0 hv (fun zl S1 h1 hr1 => ⟨fun c => absurd rfl c, fun _ => ⟨h.1.1.1, wc rfl, no (by rw [zl]; rfl) S1 V rfl h1 hr1⟩⟩) (fun q k hq ep ei hk zl S1 h1 hH1 hr1 => ?_)⟩))⟩
  refine ⟨fun _ => ?_, fun c => absurd c (nI_nm1 (by have : (bkV V q).1.length ≤ 40 := (hH1 q hq).2.1; omega))⟩
  have h1' := h1
  obtain ⟨⟨⟨k0, k1, k2, k3, k4, k5, k6, k7, k8, k9, k10, k11, k12, k13, k14, k15, k16, k17, k18, k19, k20, k21, k22, k23, k24, k25, k26⟩, ⟨r5, r15, r16, r17, r18, r21, r22, r23, r24, r25, r26, r27, r28, r29, r30, r31, r32, r33, r34, r35, r36, r37, r38, r39, r40, r48⟩⟩, -⟩ := h1'
  obtain ⟨-, hl, hrow⟩ := hH1 q hq
  obtain ⟨y0, y1, y2, y3, y4, y5⟩ := hrow k hk
  have hkl : k < 40 := by have : (bkV V q).1.length ≤ 40 := hl; omega
  have fin : ∀ v, v = lotF (lt (bkV V q).1 k) w → Run (d + 10) 140 [.ref m, .int v] A S1 (kI A fun r S' => kI A f (some (.int r)) A S') := by
    intro v ev
    refine cm_good h1 fun S' h2 hr2 => kI_i ?_
    have := hf S'
    rw [zl, z, aLot, zl, z, ep, ei] at this
    have e1 : pN (nI q) = q := cl_n (by omega)
    have e2 : pN (nI k) = k := cl_n (by omega)
    rw [Bool.and_self, if_pos rfl, e1, e2, ← ev] at this
    exact this h2 (frT0 (hr1.trans hr2))
  simp only [k0, k9, k10, k11, k12, k13, r24, r25, r26, r27, r28, cl_n (show q * 40 + k ≤ 100000 by omega), vp_n (show q * 40 + k < 120 by omega) (show 120 ≤ 100000 by omega), y0, y2, y3, y4, y5, bI_n, Option.some.injEq, Prod.mk.injEq, exists_eq_left', exists_eq_left, true_and, and_true, and_self, true_or, or_true, forall_const, exists_const, exists_and_left, wcat, Nat.zero_le, Nat.reduceLeDiff, Int32.lt_irrefl, not_false_eq_true, Nat.zero_add, forall_eq]
  refine ⟨fun w0 => fin _ ?_, fun w0 => ⟨fun w1 => fin _ ?_, fun w1 => ⟨fun w2 => fin _ ?_, fun w2 => ⟨fun w3 => ⟨fun c => fin _ ?_, fun c => fin _ ?_⟩, fun w3 => fin _ ?_⟩⟩⟩⟩
  · rw [lotF, if_pos w0]
  · rw [lotF, if_neg w0, if_pos w1]
  · rw [lotF, if_neg w0, if_neg w1, if_pos w2]
  · rw [lotF, if_neg w0, if_neg w1, if_neg w2, if_pos w3, c]; rfl
  · rw [lotF, if_neg w0, if_neg w1, if_neg w2, if_pos w3, (Bool.not_eq_false _).mp c]; rfl
  · rw [lotF, if_neg w0, if_neg w1, if_neg w2, if_neg w3]
set_option maxRecDepth 20000 in
theorem cm_lotCost {p i : Int32} {f : Int64 → qS → Prop} (h : MAt A S m V) (hv : vOk V) (hf : ∀ S', MAt A S' m (qst (lotB V p i) V) → Fr S S' m (m + 27) → f (aLotCost V p i) S') : Run (d + 11) 212 [.ref m, .int p, .int i] A S (kL A f) := by
  refine Run.i (C := mX11_lotCost) rfl rfl rfl fun J hJ => ?_
  refine sX11_lotCost_0 hJ ⟨h.1.1.1, fun T e => ?_⟩
  subst e
  refine ⟨h.1.1.1, wc rfl, cm_lotAt h.t0 hv (fun zl S1 h1 hr1 => ⟨fun c => absurd rfl c, fun _ => ⟨h.1.1.1, wc rfl, cm_refused h1 fun S' h2 hr2 => kL_i ?_⟩⟩) (fun q k hq ep ei hk zl S1 h1 hH1 hr1 => ⟨fun _ => ⟨h.1.1.1, wc rfl, cm_good' h1.1 ?_⟩, fun c => absurd c (nI_nm1 (by have : (bkV V q).1.length ≤ 40 := (hH1 q hq).2.1; omega))⟩)⟩
  · have := hf S'
    rw [zl, aLotCost, zl] at this
    exact this h2 (frT0 (hr1.trans hr2))
  · have h1' := h1.set (t := 0)
    obtain ⟨⟨⟨k0, k1, k2, k3, k4, k5, k6, k7, k8, k9, k10, k11, k12, k13, k14, k15, k16, k17, k18, k19, k20, k21, k22, k23, k24, k25, k26⟩, ⟨r5, r15, r16, r17, r18, r21, r22, r23, r24, r25, r26, r27, r28, r29, r30, r31, r32, r33, r34, r35, r36, r37, r38, r39, r40, r48⟩⟩, -⟩ := h1'
    obtain ⟨-, hl, hrow⟩ := hH1.g (x := 0) (y := -1) q hq
    have y1 := (hrow k hk).2.1
    have hkl : k < 40 := by have : (bkV V q).1.length ≤ 40 := hl; omega
    simp only [k0, k14, r29, cl_n (show q * 40 + k ≤ 100000 by omega), vp_n (show q * 40 + k < 120 by omega) (show 120 ≤ 100000 by omega), y1, Option.some.injEq, Prod.mk.injEq, exists_eq_left', exists_eq_left, true_and, and_true, and_self, true_or, or_true, forall_const, exists_const, exists_and_left, wcat, Nat.zero_le, Nat.reduceLeDiff, Int32.lt_irrefl, not_false_eq_true, Nat.zero_add, forall_eq]
    have := hf (uI (uI S1 m 1 0) m 2 (-1))
    rw [zl, aLotCost, zl, ep, ei] at this
    have e1 : pN (nI q) = q := cl_n (by omega)
    have e2 : pN (nI k) = k := cl_n (by omega)
    rw [if_pos rfl, e1, e2] at this
    exact kL_i (this h1.set (frT0 (hr1.trans fr12)))
set_option maxRecDepth 20000 in
theorem cm_worth {p pr : Int32} {f : Int64 → qS → Prop} (h : MAt A S m V) (hv : vOk V) (hf : ∀ S', MAt A S' m (qst2 (papB V p) (inB pr 0 999) V) → Fr S S' m (m + 27) → f (aWorth V p pr) S') : Run (d + 10) 216 [.ref m, .int p, .int pr] A S (kL A f) := by
  refine Run.i (C := mX11_worth) rfl rfl rfl fun J hJ => ?_
  refine sX11_worth_0 hJ ⟨h.1.1.1, fun T e => ?_⟩
  subst e
  refine ⟨h.1.1.1, wc rfl, cm_isPaper h.t0 (q_neb (fun z => ⟨wc rfl, cm_in (q_neb (fun z1 => ?_) (fun z1 => ⟨h.1.1.1, wc rfl, cm_noneL h.t0 fun S' h2 hr2 => kL_i ?_⟩))⟩) (fun z => ⟨h.1.1.1, wc rfl, cm_noneL h.t0 fun S' h2 hr2 => kL_i ?_⟩))⟩
  · obtain ⟨i, hi, rfl, td, hL⟩ := papB_i z
    refine ⟨h.1.1.1, wc rfl, cm_booksNow h.t0 hv hL fun S2 h2 hB hr2 => ⟨h.1.1.1, wc rfl, cm_sharesOf h2.1 (hB.v hL).2.1 hi ⟨h.1.1.1, wc rfl, cm_costOf h2.1 (hB.v hL).2.1 hi ⟨h.1.1.1, wc rfl, cm_sum h2 fun S' h3 hr3 => kL_i ?_⟩⟩⟩⟩
    have := hf S'
    rw [z, z1, aWorth, z, z1] at this
    have e : pN (nI i) = i := cl_n (by omega)
    rw [Bool.and_self, if_pos rfl, e] at this
    exact this h3 (frT0 (hr2.fr.trans hr3))
  · have := hf S'
    rw [z, z1, aWorth, z, z1] at this
    exact this h2 (frT0 hr2)
  · have := hf S'
    rw [z, aWorth, z] at this
    exact this h2 (frT0 hr2)
set_option maxRecDepth 20000 in
set_option maxHeartbeats 1000000 in
theorem cm_chain {f : Int32 → qS → Prop} (h : MAt A S m V) (hv : vOk V) (hf : ∀ S', MAt A S' m (qst (vLed V).isSome V) → Fr S S' m (m + 27) → f (aChain V) S') : Run (d + 10) 217 [.ref m] A S (kI A f) := by
  refine Run.i (C := mX11_chain) rfl rfl rfl fun J hJ => ?_
  refine sX11_chain_0 hJ ⟨h.1.1.1, fun T e => ?_⟩
  subst e
  refine ⟨h.1.1.1, fun z => ⟨h.1.1.1, wc rfl, cm_refused h.t0 fun S' h2 hr2 => kI_i ?_⟩, fun q z => ?_⟩
  · have hn := mLed_n h.t0.2.2.2 z
    have := hf S'
    rw [aChain, hn] at this
    exact this h2 (frT0 hr2)
  · obtain ⟨td, hL, -⟩ := mLed_s h.t0.2.2.2 z
    refine ⟨h.1.1.1, wc rfl, cm_booksNow h.t0 hv hL fun S2 h2 hB hr2 => ?_⟩
    have hB' := (hB.v hL).2.1
    have h2' := h2
    obtain ⟨⟨⟨k0, k1, k2, k3, k4, k5, k6, k7, k8, k9, k10, k11, k12, k13, k14, k15, k16, k17, k18, k19, k20, k21, k22, k23, k24, k25, k26⟩, ⟨r5, r15, r16, r17, r18, r21, r22, r23, r24, r25, r26, r27, r28, r29, r30, r31, r32, r33, r34, r35, r36, r37, r38, r39, r40, r48⟩⟩, -⟩ := h2'
    have hB2 : ∀ p, p < 3 → gI S2 (m + 8) p = nI (bkV V p).1.length ∧ (bkV V p).1.length ≤ 40 ∧ ∀ i, i < (bkV V p).1.length → mlot S2 m (p * 40 + i) (lt (bkV V p).1 i) := fun p hp => hB' p hp
    have inner : ∀ p, p < 3 → ∀ n i (c : Int32), i + n = (bkV V p).1.length → (∀ w3, J 26 [some (.ref m), some (.int (chMax (bkV V p).1 c (bkV V p).1.length)), some (.int (nI (p + 1))), w3] [] A S2) → J 36 [some (.ref m), some (.int (chMax (bkV V p).1 c i)), some (.int (nI p)), some (.int (nI (p * 40 + i)))] [] A S2 := by
      intro p hp n
      obtain ⟨e8, hl, hrow⟩ := hB2 p hp
      induction n with
      | zero =>
        intro i c hi hnx
        refine sX11_chain_36 hJ ⟨k0, wc rfl, cm_lotEnd h2.1 e8 hp ⟨fun _ => ?_, fun y => absurd ((nIle (by omega) (by omega)).mpr (by omega)) y⟩⟩
        have := hnx (some (.int (nI (p * 40 + i))))
        rw [show (bkV V p).1.length = i by omega] at this
        rw [nI_1]
        exact this
      | succ n ih =>
        intro i c hi hnx
        refine sX11_chain_36 hJ ⟨k0, wc rfl, cm_lotEnd h2.1 e8 hp ⟨fun y => absurd ((nIle (by omega) (by omega)).mp y) (by omega), fun _ => ?_⟩⟩
        have y5 : gI S2 (m + 12) (p * 40 + i) = (lt (bkV V p).1 i).2.2.2.2.2 := (hrow i (by omega)).2.2.2.2.2
        simp only [k0, k12, r27, cl_n (show p * 40 + i ≤ 100000 by omega), vp_n (show p * 40 + i < 120 by omega) (show 120 ≤ 100000 by omega), y5, nI_1, Option.some.injEq, Prod.mk.injEq, exists_eq_left', exists_eq_left, true_and, and_true, and_self, true_or, or_true, forall_const, exists_const, exists_and_left, wcat, Nat.zero_le, Nat.reduceLeDiff, Int32.lt_irrefl, not_false_eq_true, Nat.zero_add, forall_eq]
        have := ih (i + 1) c (by omega) hnx
        rw [chMax] at this
        refine ⟨fun y => ?_, fun y => ?_⟩
        · rw [if_neg (Int32.not_lt.mpr y)] at this; exact this
        · rw [if_pos (Int32.not_le.mp y)] at this; exact this
    have q0 : ((3 : Int32) ≤ nI 0) = False := by decide
    have q1 : ((3 : Int32) ≤ nI 1) = False := by decide
    have q2 : ((3 : Int32) ≤ nI 2) = False := by decide
    have q3 : ((3 : Int32) ≤ nI 3) = True := by decide
    have go : ∀ p, p < 3 → ((3 : Int32) ≤ nI p) = False → ∀ (c : Int32) (w3 : Option Value), (∀ w3, J 26 [some (.ref m), some (.int (chMax (bkV V p).1 c (bkV V p).1.length)), some (.int (nI (p + 1))), w3] [] A S2) → J 26 [some (.ref m), some (.int c), some (.int (nI p)), w3] [] A S2 := by
      intro p hp hq c w3 hnx
      refine sX11_chain_26 hJ ?_
      simp only [hq, nI40, false_imp_iff, true_imp_iff, not_false_eq_true, true_and]
      exact inner p hp (bkV V p).1.length 0 c (by omega) hnx
    refine go 0 (by omega) q0 0 _ fun _ => go 1 (by omega) q1 _ _ fun _ => go 2 (by omega) q2 _ _ fun _ => ?_
    refine sX11_chain_26 hJ ?_
    simp only [q3, h2.1.1.1, false_imp_iff, true_imp_iff, not_true_eq_false, and_true, true_and, Option.some.injEq, Prod.mk.injEq, exists_eq_left', exists_eq_left, true_and, and_true, and_self, true_or, or_true, forall_const, exists_const, exists_and_left, wcat, Nat.zero_le, Nat.reduceLeDiff, Int32.lt_irrefl, not_false_eq_true, Nat.zero_add, forall_eq]
    refine cm_good h2 fun S' h3 hr3 => kI_i ?_
    have := hf S'
    rw [aChain, hL] at this
    exact this h3 (frT0 (hr2.fr.trans hr3))
end
