/-! the class's calls: trades, sizes, troubles -/
section
variable {d : Nat} {A : qA} {S : qS} {x : Nat} {V : VSt} {tA tB nA nB bA bB : Nat} {π : Nat → Nat}
set_option maxRecDepth 20000 in
theorem ct_fault {f : Int32 → qS → Prop} (h : XAt A S x V) (hf : ∀ S', XAt A S' x V → Fr S S' x (x + 467) → f (vFa V) S') : Run (d + 1) 73 [.ref x] A S (kI A f) := by
  refine Run.i (C := mX9_fault) rfl rfl rfl fun J hJ => ?_
  have h' := h
  obtain ⟨tA, tB, nA, nB, bA, bB, π, h⟩ := h
  refine sX9_fault_0 hJ ⟨h.1.1, ?_⟩
  rw [h.2.2.2.1.2.2.2.2.2.1]
  exact kI_i (hf S h' Fr.rf)
set_option maxRecDepth 20000 in
theorem ct_trouble {f : Int32 → qS → Prop} (h : XAt A S x V) (hf : ∀ S', XAt A S' x V → Fr S S' x (x + 467) → f (vTr V) S') : Run (d + 1) 128 [.ref x] A S (kI A f) := by
  refine Run.i (C := mX9_trouble) rfl rfl rfl fun J hJ => ?_
  have h' := h
  obtain ⟨tA, tB, nA, nB, bA, bB, π, h⟩ := h
  refine sX9_trouble_0 hJ ⟨h.1.1, ?_⟩
  rw [h.2.2.2.1.2.2.2.2.1]
  exact kI_i (hf S h' Fr.rf)
set_option maxRecDepth 20000 in
theorem ct_where {f : Int32 → qS → Prop} (h : XAt A S x V) (hf : ∀ S', XAt A S' x V → Fr S S' x (x + 467) → f (vWh V) S') : Run (d + 1) 74 [.ref x] A S (kI A f) := by
  refine Run.i (C := mX9_where) rfl rfl rfl fun J hJ => ?_
  have h' := h
  obtain ⟨tA, tB, nA, nB, bA, bB, π, h⟩ := h
  obtain ⟨i1, i2, i3, i4, i5, i6, i7, i8, i9⟩ := h.2.2.2.1
  refine sX9_where_0 hJ ⟨h.1.1, ?_⟩
  rw [i5]
  refine ⟨fun z => kI_i ?_, fun z => ⟨h.1.1, ?_⟩⟩
  · rw [← i8 z]; exact hf S h' Fr.rf
  · rw [i7 z]; exact kI_i (hf S h' Fr.rf)
theorem inB06 {w : Int32} (h : inB w 0 6 = true) : w = 0 ∨ w = 1 ∨ w = 2 ∨ w = 3 ∨ w = 4 ∨ w = 5 ∨ w = 6 := by
  obtain ⟨i, hi, rfl⟩ := inB_i (n := 6) (by omega) rfl h
  rcases (show i = 0 ∨ i = 1 ∨ i = 2 ∨ i = 3 ∨ i = 4 ∨ i = 5 ∨ i = 6 by omega) with e | e | e | e | e | e | e <;> subst e <;> decide
set_option maxRecDepth 20000 in
theorem ct_size {w : Int32} {f : Int32 → qS → Prop} (h : XAt A S x V) (hf : ∀ S', XAt A S' x V → Fr S S' x (x + 467) → f (aSize V w) S') : Run (d + 2) 127 [.ref x, .int w] A S (kI A f) := by
  refine Run.i (C := mX9_size) rfl rfl rfl fun J hJ => ?_
  have h' := h
  obtain ⟨tA, tB, nA, nB, bA, bB, π, h⟩ := h
  have hk := h.1.1
  have hf := hf S h' Fr.rf
  obtain ⟨i1, i2, i3, i4, i5, i6, i7, i8, i9⟩ := h.2.2.2.1
  obtain ⟨⟨f1, f2, f3, f4, f5, f6, f7, f8, f9, f10, f11⟩, f12, f13, f14, f15⟩ := h.2.1
  obtain ⟨tk, tr', tT, t1, t2, t3, t4, t5, t6, t7⟩ := h.2.2.2.2.2.2.1
  have hn := h.now
  have e0 : (ldV V).1 = lw (vLed V) := by unfold ldV lw; cases vLed V <;> rfl
  have e2 : nI (ldV V).2.1.length = (match vLed V with | some td => nI td.2.1.length | none => 0) := by unfold ldV; cases vLed V <;> rfl
  have e3 : nI (ldV V).2.2.1.length = (match vLed V with | some td => nI td.2.2.1.length | none => 0) := by unfold ldV; cases vLed V <;> rfl
  have e4 : nI (ldV V).2.2.2.length = (match vLed V with | some td => nI td.2.2.2.length | none => 0) := by unfold ldV; cases vLed V <;> rfl
  have go : ∀ v, aSize V w = v → kI A f (some (.int v)) A S := fun v e => kI_i (e ▸ hf)
  refine sX9_size_0 hJ ⟨fun z => ⟨hk, tA, f3, tk.1, go _ ?_⟩, fun z0 => ⟨fun z => ⟨hk, nA, f5, hn.1.1, go _ ?_⟩, fun z1 => ⟨fun z => ⟨hk, tA, f3, tk.1, tA + 1, tr'.1, tT.1.1, go _ ?_⟩, fun z2 => ⟨fun z => ⟨hk, tA, f3, tk.1, go _ ?_⟩, fun z3 => ⟨fun z => ⟨hk, tA, f3, tk.1, go _ ?_⟩, fun z4 => ⟨fun z => ⟨hk, x + 329, f9, h.1.2.2.2.1, go _ ?_⟩, fun z5 => ⟨fun z => ⟨hk, go _ ?_⟩, fun z6 => ⟨fun z => ⟨hk, go _ ?_⟩, fun z7 => go _ ?_⟩⟩⟩⟩⟩⟩⟩⟩
  · subst z; rw [t1, e0]; rfl
  · subst z; rw [hn.2.2.1.1]; rfl
  · subst z; rw [tT.2.2.1.1, e2]; rfl
  · subst z; rw [t2, e3]; rfl
  · subst z; rw [t5, e4]; rfl
  · subst z; rw [i9]; rfl
  · subst z; rw [i4]; rfl
  · subst z; rw [i2]; rfl
  · unfold aSize
    rw [if_neg z7]
    cases c : inB w 0 6
    · rfl
    · rcases inB06 c with e | e | e | e | e | e | e
      · exact absurd e z0
      · exact absurd e z1
      · exact absurd e z2
      · exact absurd e z3
      · exact absurd e z4
      · exact absurd e z5
      · exact absurd e z6
theorem BN.op {B : Nat} {w last : Int32} {T : List Row} (h : BN A S B w last T) (hT : T.length ≤ 24) : A.1 B = some (0, 0) ∧ gR S B 4 = some (B + 15) ∧ A.1 (B + 15) = some (13, 24) ∧ gR S B 5 = some (B + 16) ∧ A.1 (B + 16) = some (13, 24) ∧ (∀ i, i < T.length → gI S (B + 15) i = nI (ot (qT T) i)) ∧ ∀ t, t < T.length → gI S (B + 16) t = nI (rnk (dayF T) t T.length) := by
  obtain ⟨s, o, pl, h1, h2, h3, h4, h5⟩ := h
  obtain ⟨b1, b2, b3, b4, b5, b6, b7⟩ := h1
  exact ⟨b1.1, b2.2.2.2.2.1, b1.2.2.2.2.1, b2.2.2.2.2.2.1, b1.2.2.2.2.2.1, fun i hi => (b6.2.2.2.2.1 i (by omega)).trans (h4 i hi), fun t ht => (b6.2.2.2.2.2 t (by omega)).trans (h5 t ht)⟩
set_option maxRecDepth 20000 in
theorem ct_booked {i : Int32} {f : Int32 → qS → Prop} (h : XAt A S x V) (hv : vOk V) (hf : ∀ S', XAt A S' x (qst (hasT (vNow V) i) V) → Fr S S' x (x + 467) → f (aBooked V i) S') : Run (d + 10) 76 [.ref x, .int i] A S (kI A f) := by
  refine Run.i (C := mX9_booked) rfl rfl rfl fun J hJ => ?_
  obtain ⟨tA, tB, nA, nB, bA, bB, π, h⟩ := h
  have hk := h.1.1
  have hl := hv.2.1.1.2.2
  unfold aBooked qst at hf
  refine sX9_booked_0 hJ ⟨hk, nA, h.r6, h.now.1.1, wc rfl, ct_has h.now (And.symm (q_eqb (fun c => ⟨hk, wc rfl, ct_refuse h (by decide) fun S1 h1 f1 => kI_i ?_⟩) (fun c => ⟨hk, fun T e => ?_⟩)))⟩
  · rw [c] at hf; exact hf S1 h1.at f1
  · subst e
    obtain ⟨q, hq, rfl⟩ := hasT_i (by omega) c
    have h1 := h.set (t := 0) (by decide)
    obtain ⟨b1, b2, b3, b4, b5, b6, b7⟩ := h1.bk.op hl
    refine ⟨hk, bA, h1.r8, b1, bA + 15, b2, 24, b3, vp_n (by omega) (by omega), ?_⟩
    rw [cl_n (by omega), b6 q hq]
    rw [c, pN, cl_n (by omega)] at hf
    exact kI_i (hf _ h1.at fr14)
set_option maxRecDepth 20000 in
theorem ct_trade {t w : Int32} {f : Int32 → qS → Prop} (h : XAt A S x V) (hv : vOk V) (hf : ∀ S', XAt A S' x (qst (hasT (vNow V) t && inB w 0 6) V) → Fr S S' x (x + 467) → f (aTrade V t w) S') : Run (d + 10) 75 [.ref x, .int t, .int w] A S (kI A f) := by
  refine Run.i (C := mX9_trade) rfl rfl rfl fun J hJ => ?_
  obtain ⟨tA, tB, nA, nB, bA, bB, π, h⟩ := h
  have hk := h.1.1
  have hl := hv.2.1.1.2.2
  unfold aTrade qst at hf
  have bad : (hasT (vNow V) t && inB w 0 6) = false → ∀ S1, XP A S1 x (setT V 1) tA tB nA nB bA bB π → Fr S S1 x (x + 467) → kI A f (some (.int (-1))) A S1 := by
    intro c S1 h1 f1
    rw [c] at hf
    exact kI_i (hf S1 h1.at f1)
  refine sX9_trade_0 hJ ⟨hk, nA, h.r6, h.now.1.1, wc rfl, ct_has h.now (q_eqb (fun c => ⟨hk, wc rfl, ct_refuse h (by decide) (bad (by rw [c]; rfl))⟩) (fun c => ⟨fun z => ⟨hk, wc rfl, ct_refuse h (by decide) (bad (by rw [show inB w 0 6 = false from decide_eq_false (fun e => e.1 z), Bool.and_false]))⟩, fun z => ⟨fun z1 => ⟨hk, fun T e => ?_⟩, fun z1 => ⟨hk, wc rfl, ct_refuse h (by decide) (bad (by rw [show inB w 0 6 = false from decide_eq_false (fun e => e.2 (Int32.not_le.mp z1)), Bool.and_false]))⟩⟩⟩))⟩
  subst e
  obtain ⟨q, hq, rfl⟩ := hasT_i (by omega) c
  have h1 := h.set (t := 0) (by decide)
  obtain ⟨b1, b2, b3, b4, b5, b6, b7⟩ := h1.bk.op hl
  obtain ⟨⟨l0, l1, l2, l3, l4, l5, l6⟩, ⟨q0, q1, q2, q3, q4, q5, q6⟩, hC, c1, c2⟩ := h1.now
  obtain ⟨g1, g2, g3, g4, g5, g6⟩ := hC.2 q hq
  have cw : inB w 0 6 = true := decide_eq_true ⟨z, Int32.not_lt.mpr z1⟩
  rw [c, cw, pN, cl_n (by omega)] at hf
  have hf := hf _ h1.at fr14
  have v := vp_n (show q < 24 by omega) (by omega)
  have cl : (nI q).toNatClampNeg = q := cl_n (by omega)
  rw [cl]
  have hr6 : gR (uI S x 14 0) x 6 = some nA := h1.r6
  refine ⟨fun e0 => ⟨hk, nA, hr6, l0, _, q1, 24, l1, v, ?_⟩, fun e0 => ⟨fun e1 => ⟨hk, nA, hr6, l0, _, q2, 24, l2, v, ?_⟩, fun e1 => ⟨fun e2 => ⟨hk, nA, hr6, l0, _, q3, 24, l3, v, ?_⟩, fun e2 => ⟨fun e3 => ⟨hk, nA, hr6, l0, _, q4, 24, l4, v, ?_⟩, fun e3 => ⟨fun e4 => ⟨hk, nA, hr6, l0, _, q5, 24, l5, v, ?_⟩, fun e4 => ⟨fun e5 => ⟨hk, nA, hr6, l0, _, q6, 24, l6, v, ?_⟩, fun e5 => ⟨hk, bA, h1.r8, b1, bA + 16, b4, 24, b5, v, ?_⟩⟩⟩⟩⟩⟩⟩
  · subst e0; rw [g1]; exact kI_i hf
  · subst e1; rw [g2]; exact kI_i hf
  · subst e2; rw [g3]; exact kI_i hf
  · subst e3; rw [g4]; exact kI_i hf
  · subst e4; rw [g5]; exact kI_i hf
  · subst e5; rw [g6]; exact kI_i hf
  · rcases inB06 cw with e | e | e | e | e | e | e
    · exact absurd e e0
    · exact absurd e e1
    · exact absurd e e2
    · exact absurd e e3
    · exact absurd e e4
    · exact absurd e e5
    · subst e; rw [b7 q hq]; exact kI_i hf
end
