/-! the reference's calls: of lots -/
def pN (p : Int32) : Nat := p.toNatClampNeg
def aHeld (V : VSt) (p : Int32) : Int32 := if papB V p then shSum (bkV V (pN p)).1 (bkV V (pN p)).1.length else -1
def aCost (V : VSt) (p : Int32) : Int64 := if papB V p then coSum (bkV V (pN p)).1 (bkV V (pN p)).1.length else -1
def aLots (V : VSt) (p : Int32) : Int32 := if papB V p then nI (bkV V (pN p)).1.length else -1
/-- the paper has an i-th lot -/
def lotB (V : VSt) (p i : Int32) : Bool := papB V p && decide (0 ≤ i) && decide (¬ nI (bkV V (pN p)).1.length ≤ i)
def lotF (l : Lot) (w : Int32) : Int32 := if w = 0 then l.1 else if w = 1 then l.2.2.1 else if w = 2 then l.2.2.2.1 else if w = 3 then bI l.2.2.2.2.1 else l.2.2.2.2.2
def aLot (V : VSt) (p i w : Int32) : Int32 := if lotB V p i && inB w 0 4 then lotF (lt (bkV V (pN p)).1 (pN i)) w else -1
def aLotCost (V : VSt) (p i : Int32) : Int64 := if lotB V p i then (lt (bkV V (pN p)).1 (pN i)).2.1 else -1
theorem lw_s {V : VSt} {td : Tld} (h : vLed V = some td) : lw (vLed V) = td.1 := by rw [h]; rfl
theorem BkM.v {A : qA} {S : qS} {m : Nat} {V : VSt} {td : Tld} (h : BkM A S m td.1 999 (vNow V)) (hL : vLed V = some td) : BkM A S m (lw (vLed V)) 999 (vNow V) := by rw [lw_s hL]; exact h
theorem frT0 {S S' : qS} {m : Nat} {x : Int32} (h : Fr (uI S m 0 x) S' m (m + 27)) : Fr S S' m (m + 27) := (Fr.rf.uI (by omega) (by omega)).trans h
section
variable {d : Nat} {A : qA} {S : qS} {m : Nat} {V : VSt}
set_option maxRecDepth 20000 in
theorem cm_held {p : Int32} {f : Int32 → qS → Prop} (h : MAt A S m V) (hv : vOk V) (hf : ∀ S', MAt A S' m (qst (papB V p) V) → Fr S S' m (m + 27) → f (aHeld V p) S') : Run (d + 10) 207 [.ref m, .int p] A S (kI A f) := by
  refine Run.i (C := mX11_held) rfl rfl rfl fun J hJ => ?_
  refine sX11_held_0 hJ ?_
  simp only [h.1.1.1, Option.some.injEq, Prod.mk.injEq, exists_eq_left', exists_eq_left, true_and, and_true, and_self, true_or, or_true, forall_const, exists_const, exists_and_left, wcat, Nat.zero_le, Nat.reduceLeDiff, Int32.lt_irrefl, not_false_eq_true, Nat.zero_add, forall_eq]
  refine cm_isPaper h.t0 (q_neb (fun z => ?_) (fun z => cm_refused h.t0 fun S' h1 h2 => kI_i ?_))
  · obtain ⟨i, hi, rfl, td, hL⟩ := papB_i z
    refine cm_booksNow h.t0 hv hL fun S2 h2 hB hr2 => ?_
    refine cm_sharesOf h2.1 (hB.v hL).2.1 hi (cm_good h2 fun S' h3 hr3 => kI_i ?_)
    have := hf S'
    rw [z, aHeld, z] at this
    have e : pN (nI i) = i := cl_n (by omega)
    rw [if_pos rfl, e] at this
    exact this h3 (frT0 (hr2.fr.trans hr3))
  · have := hf S'
    rw [z, aHeld, z] at this
    exact this h1 (frT0 h2)
set_option maxRecDepth 20000 in
theorem cm_good' {v : Int32} {f : Int32 → qS → Prop} (h : mI A S m) (hf : f v (uI (uI S m 1 0) m 2 (-1))) : Run (d + 1) 140 [.ref m, .int v] A S (kI A f) := by
  refine Run.i (C := mX11_good) rfl rfl rfl fun J hJ => ?_
  refine sX11_good_0 hJ ?_
  simp only [h.1.1, Option.some.injEq, Prod.mk.injEq, exists_eq_left', exists_eq_left, true_and, and_true, and_self, true_or, or_true, forall_const, exists_const, exists_and_left, wcat, Nat.zero_le, Nat.reduceLeDiff, Int32.lt_irrefl, not_false_eq_true, Nat.zero_add, forall_eq]
  exact kI_i hf
theorem MH.g {H : Nat → List Lot} {x y : Int32} (h : MH S m H) : MH (uI (uI S m 1 x) m 2 y) m H := h.one.one
set_option maxRecDepth 20000 in
theorem cm_cost {p : Int32} {f : Int64 → qS → Prop} (h : MAt A S m V) (hv : vOk V) (hf : ∀ S', MAt A S' m (qst (papB V p) V) → Fr S S' m (m + 27) → f (aCost V p) S') : Run (d + 10) 208 [.ref m, .int p] A S (kL A f) := by
  refine Run.i (C := mX11_cost) rfl rfl rfl fun J hJ => ?_
  refine sX11_cost_0 hJ ?_
  simp only [h.1.1.1, Option.some.injEq, Prod.mk.injEq, exists_eq_left', exists_eq_left, true_and, and_true, and_self, true_or, or_true, forall_const, exists_const, exists_and_left, wcat, Nat.zero_le, Nat.reduceLeDiff, Int32.lt_irrefl, not_false_eq_true, Nat.zero_add, forall_eq]
  refine cm_isPaper h.t0 (q_neb (fun z => ?_) (fun z => cm_refused h.t0 fun S' h1 h2 => kL_i ?_))
  · obtain ⟨i, hi, rfl, td, hL⟩ := papB_i z
    refine cm_booksNow h.t0 hv hL fun S2 h2 hB hr2 => ?_
    refine cm_good' h2.1 ?_
    refine cm_costOf h2.set.1 (hB.v hL).2.1.g hi (kL_i ?_)
    have := hf (uI (uI S2 m 1 0) m 2 (-1))
    rw [z, aCost, z] at this
    have e : pN (nI i) = i := cl_n (by omega)
    rw [if_pos rfl, e] at this
    exact this h2.set (frT0 (hr2.fr.trans fr12))
  · have := hf S'
    rw [z, aCost, z] at this
    exact this h1 (frT0 h2)
set_option maxRecDepth 20000 in
theorem cm_lots {p : Int32} {f : Int32 → qS → Prop} (h : MAt A S m V) (hv : vOk V) (hf : ∀ S', MAt A S' m (qst (papB V p) V) → Fr S S' m (m + 27) → f (aLots V p) S') : Run (d + 10) 209 [.ref m, .int p] A S (kI A f) := by
  refine Run.i (C := mX11_lots) rfl rfl rfl fun J hJ => ?_
  refine sX11_lots_0 hJ ?_
  simp only [h.1.1.1, Option.some.injEq, Prod.mk.injEq, exists_eq_left', exists_eq_left, true_and, and_true, and_self, true_or, or_true, forall_const, exists_const, exists_and_left, wcat, Nat.zero_le, Nat.reduceLeDiff, Int32.lt_irrefl, not_false_eq_true, Nat.zero_add, forall_eq]
  refine cm_isPaper h.t0 (q_neb (fun z => ?_) (fun z => cm_refused h.t0 fun S' h1 h2 => kI_i ?_))
  · obtain ⟨i, hi, rfl, td, hL⟩ := papB_i z
    refine cm_booksNow h.t0 hv hL fun S2 h2 hB hr2 => ?_
    have h2' := h2
    obtain ⟨⟨⟨k0, k1, k2, k3, k4, k5, k6, k7, k8, k9, k10, k11, k12, k13, k14, k15, k16, k17, k18, k19, k20, k21, k22, k23, k24, k25, k26⟩, ⟨r5, r15, r16, r17, r18, r21, r22, r23, r24, r25, r26, r27, r28, r29, r30, r31, r32, r33, r34, r35, r36, r37, r38, r39, r40, r48⟩⟩, -⟩ := h2'
    have e8 := ((hB.v hL).2.1 i hi).1
    simp only [k8, r23, cl_n (show i ≤ 100000 by omega), vp_n hi (show 3 ≤ 100000 by omega), e8, Option.some.injEq, Prod.mk.injEq, exists_eq_left', exists_eq_left, true_and, and_true, and_self, true_or, or_true, forall_const, exists_const, exists_and_left, wcat, Nat.zero_le, Nat.reduceLeDiff, Int32.lt_irrefl, not_false_eq_true, Nat.zero_add, forall_eq]
    refine cm_good h2 fun S' h3 hr3 => kI_i ?_
    have := hf S'
    rw [z, aLots, z] at this
    have e : pN (nI i) = i := cl_n (by omega)
    rw [if_pos rfl, e] at this
    exact this h3 (frT0 (hr2.fr.trans hr3))
  · have := hf S'
    rw [z, aLots, z] at this
    exact this h1 (frT0 h2)
set_option maxRecDepth 20000 in
theorem cm_lotAt {p i : Int32} {f : Int32 → qS → Prop} (h : MAt A S m V) (hv : vOk V) (hf0 : lotB V p i = false → ∀ S', MAt A S' m V → Fr S S' m (m + 27) → f (-1) S') (hf : ∀ q k, q < 3 → p = nI q → i = nI k → k < (bkV V q).1.length → lotB V p i = true → ∀ S', MAt A S' m V → MH S' m (fun p => (bkV V p).1) → Fr S S' m (m + 27) → f (nI (q * 40 + k)) S') : Run (d + 10) 210 [.ref m, .int p, .int i] A S (kI A f) := by
  refine Run.i (C := mX11_lotAt) rfl rfl rfl fun J hJ => ?_
  refine sX11_lotAt_0 hJ ?_
  simp only [h.1.1.1, Option.some.injEq, Prod.mk.injEq, exists_eq_left', exists_eq_left, true_and, and_true, and_self, true_or, or_true, forall_const, exists_const, exists_and_left, wcat, Nat.zero_le, Nat.reduceLeDiff, Int32.lt_irrefl, not_false_eq_true, Nat.zero_add, forall_eq]
  refine cm_isPaper h (q_eqb (fun z => kI_i (hf0 (by rw [lotB, z]; rfl) S h Fr.rf)) (fun z => ⟨fun z0 => ?_, fun z0 => kI_i (hf0 ?_ S h Fr.rf)⟩))
  · obtain ⟨q, hq, rfl, td, hL⟩ := papB_i z
    refine cm_booksNow h hv hL fun S2 h2 hB hr2 => ?_
    have h2' := h2
    obtain ⟨⟨⟨k0, k1, k2, k3, k4, k5, k6, k7, k8, k9, k10, k11, k12, k13, k14, k15, k16, k17, k18, k19, k20, k21, k22, k23, k24, k25, k26⟩, ⟨r5, r15, r16, r17, r18, r21, r22, r23, r24, r25, r26, r27, r28, r29, r30, r31, r32, r33, r34, r35, r36, r37, r38, r39, r40, r48⟩⟩, -⟩ := h2'
    have hB' := (hB.v hL).2.1
    obtain ⟨e8, e9, -⟩ := hB' q hq
    have ep : pN (nI q) = q := cl_n (by omega)
    have eb : lotB V (nI q) i = decide (¬ nI (bkV V q).1.length ≤ i) := by
      rw [lotB, z, ep, decide_eq_true z0]
      rfl
    simp only [k8, r23, cl_n (show q ≤ 100000 by omega), vp_n hq (show 3 ≤ 100000 by omega), e8, Option.some.injEq, Prod.mk.injEq, exists_eq_left', exists_eq_left, true_and, and_true, and_self, true_or, or_true, forall_const, exists_const, exists_and_left, wcat, Nat.zero_le, Nat.reduceLeDiff, Int32.lt_irrefl, not_false_eq_true, Nat.zero_add, forall_eq]
    refine ⟨fun y => kI_i (hf0 ?_ S2 h2 hr2.fr), fun y => ?_⟩
    · rw [eb]; exact decide_eq_false (fun w => w y)
    · obtain ⟨k, hk, rfl⟩ := nI_idx (n := (bkV V q).1.length) (by have : (bkV V q).1.length ≤ 40 := e9; omega) (Int32.not_lt.mpr z0) y
      rw [nI40, nI_add]
      exact kI_i (hf q k hq rfl rfl hk (by rw [eb]; exact decide_eq_true y) S2 h2 hB' hr2.fr)
  · rw [lotB, decide_eq_false z0, Bool.and_false]
    rfl
end
