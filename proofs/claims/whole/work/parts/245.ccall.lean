/-! the class's calls of sells -/
section
variable {d : Nat} {A : qA} {S : qS} {x : Nat} {V : VSt} {tA tB nA nB bA bB : Nat} {π : Nat → Nat}
theorem BN.k {B : Nat} {w last : Int32} {T : List Row} (h : BN A S B w last T) : A.1 B = some (0, 0) := by
  obtain ⟨s, o, pl, h1, -⟩ := h
  exact h1.1.1
set_option maxRecDepth 20000 in
theorem ct_gain {t : Int32} {f : Int64 → qS → Prop} (h : XAt A S x V) (hv : vOk V) (hf : ∀ S', XAt A S' x (qst (isSellT (vNow V) t) V) → Fr S S' x (x + 467) → f (aGain V t) S') : Run (d + 10) 86 [.ref x, .int t] A S (kL A f) := by
  refine Run.i (C := mX9_gain) rfl rfl rfl fun J hJ => ?_
  obtain ⟨tA, tB, nA, nB, bA, bB, π, h⟩ := h
  have hk := h.1.1
  have hl := hv.2.1.1.2.2
  unfold aGain qst at hf
  refine sX9_gain_0 hJ ⟨hk, nA, h.r6, h.now.1.1, wc rfl, ct_isSell h.now (And.symm (q_eqb (fun c => ⟨hk, wc rfl, ct_refuse h (by decide) fun S1 h1 f1 => kL_i ?_⟩) (fun c => ⟨hk, fun T e => ?_⟩)))⟩
  · rw [c] at hf; exact hf S1 h1.at f1
  · subst e
    obtain ⟨q, hq, rfl, -⟩ := isSellT_i (by omega) c
    have h1 := h.set (t := 0) (by decide)
    refine ⟨hk, bA, h1.r8, h1.bk.k, wc rfl, ct_gainT h1.bk hv.2.1.1 hq (kL_i ?_)⟩
    rw [c, pN, cl_n (by omega)] at hf
    exact hf _ h1.at fr14
set_option maxRecDepth 20000 in
theorem ct_deferred {t : Int32} {f : Int64 → qS → Prop} (h : XAt A S x V) (hv : vOk V) (hf : ∀ S', XAt A S' x (qst (isSellT (vNow V) t) V) → Fr S S' x (x + 467) → f (aDef V t) S') : Run (d + 10) 87 [.ref x, .int t] A S (kL A f) := by
  refine Run.i (C := mX9_deferred) rfl rfl rfl fun J hJ => ?_
  obtain ⟨tA, tB, nA, nB, bA, bB, π, h⟩ := h
  have hk := h.1.1
  have hl := hv.2.1.1.2.2
  unfold aDef qst at hf
  refine sX9_deferred_0 hJ ⟨hk, nA, h.r6, h.now.1.1, wc rfl, ct_isSell h.now (And.symm (q_eqb (fun c => ⟨hk, wc rfl, ct_refuse h (by decide) fun S1 h1 f1 => kL_i ?_⟩) (fun c => ⟨hk, fun T e => ?_⟩)))⟩
  · rw [c] at hf; exact hf S1 h1.at f1
  · subst e
    obtain ⟨q, hq, rfl, -⟩ := isSellT_i (by omega) c
    have h1 := h.set (t := 0) (by decide)
    refine ⟨hk, bA, h1.r8, h1.bk.k, wc rfl, ct_deferredT h1.bk hv.2.1.1 hq (kL_i ?_)⟩
    rw [c, pN, cl_n (by omega)] at hf
    exact hf _ h1.at fr14
theorem BN.pc {B : Nat} {w last : Int32} {T : List Row} (h : BN A S B w last T) (hT : vT T) : gR S B 2 = some (B + 13) ∧ A.1 (B + 13) = some (13, 36) ∧ gR S B 3 = some (B + 14) ∧ A.1 (B + 14) = some (13, 36) ∧ gR S B 1 = some (B + 2) ∧ PiL A (B + 2) ∧ PiR S (B + 2) ∧ ∀ t, t < T.length → gI S (B + 14) t = nI (pcT w last T t) ∧ ∃ i, gI S (B + 13) t = nI i ∧ i + pcT w last T t ≤ 666 ∧ ∀ j, j < pcT w last T t → gI S (B + 2 + 3) (i + j) = (ppT w last T t j).2.1 ∧ gI S (B + 2 + 4) (i + j) = (ppT w last T t j).2.2.1 ∧ gI S (B + 2 + 5) (i + j) = (ppT w last T t j).2.2.2.1 ∧ gL S (B + 2 + 6) (i + j) = (ppT w last T t j).2.2.2.2.1 ∧ gL S (B + 2 + 7) (i + j) = (ppT w last T t j).2.2.2.2.2.1 ∧ gI S (B + 2 + 8) (i + j) = (ppT w last T t j).2.2.2.2.2.2.1 ∧ gL S (B + 2 + 10) (i + j) = (ppT w last T t j).2.2.2.2.2.2.2.2 := by
  obtain ⟨s, o, pl, h1, h2, -⟩ := h
  obtain ⟨b1, b2, ⟨p1, p2, p3, p4⟩, b4, b5, b6, b7⟩ := h1
  refine ⟨b2.2.2.1, b1.2.2.1, b2.2.2.2.1, b1.2.2.2.1, b2.2.1, p1, p2, fun t ht => ?_⟩
  have hl := hT.2.2
  obtain ⟨i, e1, e2, e3, e4⟩ := h2.fp (t := t) (hT.1 t ht).pa.1
  refine ⟨(b6.2.2.2.1 t (by omega)).trans e2, i, (b6.2.2.1 t (by omega)).trans e1, by omega, fun j hj => ?_⟩
  obtain ⟨g1, g2, g3, g4, g5, g6, g7, g8, g9, g10⟩ := p3.2 (i + j) (by omega)
  rw [← e4 j hj]
  exact ⟨g3, g4, g5, g6, g7, g8, g10⟩
set_option maxRecDepth 20000 in
theorem ct_pieces {t : Int32} {f : Int32 → qS → Prop} (h : XAt A S x V) (hv : vOk V) (hf : ∀ S', XAt A S' x (qst (isSellT (vNow V) t) V) → Fr S S' x (x + 467) → f (aPieces V t) S') : Run (d + 10) 88 [.ref x, .int t] A S (kI A f) := by
  refine Run.i (C := mX9_pieces) rfl rfl rfl fun J hJ => ?_
  obtain ⟨tA, tB, nA, nB, bA, bB, π, h⟩ := h
  have hk := h.1.1
  have hl := hv.2.1.1.2.2
  unfold aPieces qst at hf
  refine sX9_pieces_0 hJ ⟨hk, nA, h.r6, h.now.1.1, wc rfl, ct_isSell h.now (And.symm (q_eqb (fun c => ⟨hk, wc rfl, ct_refuse h (by decide) fun S1 h1 f1 => kI_i ?_⟩) (fun c => ⟨hk, fun T e => ?_⟩)))⟩
  · rw [c] at hf; exact hf S1 h1.at f1
  · subst e
    obtain ⟨q, hq, rfl, -⟩ := isSellT_i (by omega) c
    have h1 := h.set (t := 0) (by decide)
    obtain ⟨p1, p2, p3, p4, p5, p6, p7, p8⟩ := h1.bk.pc hv.2.1.1
    refine ⟨hk, bA, h1.r8, h1.bk.k, bA + 14, p3, 36, p4, vp_n (by omega) (by omega), ?_⟩
    rw [cl_n (by omega), (p8 q hq).1]
    rw [c, pN, cl_n (by omega)] at hf
    exact kI_i (hf _ h1.at fr14)
/-- where a piece lies -/
def prB (V : VSt) (t i : Int32) (k : Int32) : Prop := (pcB V t i = false ∧ k = -1) ∨ (pcB V t i = true ∧ ∃ q j g, q < (vNow V).length ∧ t = nI q ∧ i = nI j ∧ j < pcT (lw (vLed V)) 999 (vNow V) q ∧ k = nI (g + j) ∧ g + j < 666)
set_option maxRecDepth 20000 in
theorem ct_pieceRow {t i : Int32} {f : Int32 → qS → Prop} (h : XP A S x V tA tB nA nB bA bB π) (hv : vOk V) (hf0 : pcB V t i = false → f (-1) S) (hf : pcB V t i = true → ∀ q j g, q < (vNow V).length → t = nI q → i = nI j → j < pcT (lw (vLed V)) 999 (vNow V) q → gI S (bA + 13) q = nI g → g + j < 666 → f (nI (g + j)) S) : Run (d + 3) 132 [.ref x, .int t, .int i] A S (kI A f) := by
  refine Run.i (C := mX9_pieceRow) rfl rfl rfl fun J hJ => ?_
  have hk := h.1.1
  have hl := hv.2.1.1.2.2
  obtain ⟨p1, p2, p3, p4, p5, p6, p7, p8⟩ := h.bk.pc hv.2.1.1
  refine sX9_pieceRow_0 hJ ⟨hk, nA, h.r6, h.now.1.1, wc rfl, ct_isSell h.now (q_eqb (fun c => kI_i (hf0 ?_)) (fun c => ⟨fun z => kI_i (hf0 ?_), fun z => ?_⟩))⟩
  · rw [pcB, c]; rfl
  · rw [pcB, decide_eq_false (Int32.not_le.mpr z), Bool.and_false, Bool.false_and]
  · obtain ⟨q, hq, rfl, -⟩ := isSellT_i (by omega) c
    obtain ⟨e1, g, e2, e3, e4⟩ := p8 q hq
    have ep : pN (nI q) = q := cl_n (by omega)
    refine ⟨hk, bA, h.r8, h.bk.k, bA + 14, p3, 36, p4, vp_n (by omega) (by omega), ?_⟩
    rw [cl_n (by omega), e1]
    refine ⟨fun z1 => ⟨hk, bA, h.r8, h.bk.k, bA + 13, p1, 36, p2, vp_n (by omega) (by omega), ?_⟩, fun z1 => kI_i (hf0 ?_)⟩
    · obtain ⟨j, hj, ej⟩ := nI_idx (n := pcT (lw (vLed V)) 999 (vNow V) q) (by omega) z (Int32.not_le.mpr z1)
      rw [e2, ej, nI_add]
      refine kI_i (hf ?_ q j g hq rfl ej hj e2 (by omega))
      rw [pcB, c, ep, show decide (¬ nI (pcT (lw (vLed V)) 999 (vNow V) q) ≤ i) = true from decide_eq_true (Int32.not_le.mpr z1), decide_eq_true (Int32.not_lt.mp z)]
      rfl
    · rw [pcB, ep, show decide (¬ nI (pcT (lw (vLed V)) 999 (vNow V) q) ≤ i) = false from decide_eq_false (fun e => e (Int32.not_lt.mp z1)), Bool.and_false]
set_option maxRecDepth 20000 in
theorem ct_piece {t i w : Int32} {f : Int32 → qS → Prop} (h : XAt A S x V) (hv : vOk V) (hf : ∀ S', XAt A S' x (qst (pcB V t i && inB w 0 3) V) → Fr S S' x (x + 467) → f (aPiece V t i w) S') : Run (d + 10) 89 [.ref x, .int t, .int i, .int w] A S (kI A f) := by
  refine Run.i (C := mX9_piece) rfl rfl rfl fun J hJ => ?_
  obtain ⟨tA, tB, nA, nB, bA, bB, π, h⟩ := h
  have hk := h.1.1
  have hl := hv.2.1.1.2.2
  unfold aPiece qst at hf
  have bad : (pcB V t i && inB w 0 3) = false → ∀ S1, XP A S1 x (setT V 1) tA tB nA nB bA bB π → Fr S S1 x (x + 467) → kI A f (some (.int (-1))) A S1 := by
    intro c S1 h1 f1
    rw [c] at hf
    exact kI_i (hf S1 h1.at f1)
  refine sX9_piece_0 hJ ⟨hk, wc rfl, ct_pieceRow h hv (fun c => ⟨fun _ => ⟨hk, wc rfl, ct_refuse h (by decide) (bad (by rw [c]; rfl))⟩, fun z => absurd (by decide) z⟩) (fun c q j g hq e1 e2 hj eg hg => ⟨fun z => absurd z (nI_pos (by omega)), fun _ => ⟨fun z => ⟨hk, wc rfl, ct_refuse h (by decide) (bad (by rw [show inB w 0 3 = false from decide_eq_false (fun e => e.1 z), Bool.and_false]))⟩, fun z => ⟨fun z1 => ⟨hk, fun T e => ?_⟩, fun z1 => ⟨hk, wc rfl, ct_refuse h (by decide) (bad (by rw [show inB w 0 3 = false from decide_eq_false (fun e => e.2 (Int32.not_le.mp z1)), Bool.and_false]))⟩⟩⟩⟩)⟩
  subst e
  have h1 := h.set (t := 0) (by decide)
  obtain ⟨p1, p2, p3, p4, p5, p6, p7, p8⟩ := h1.bk.pc hv.2.1.1
  obtain ⟨-, g', eg', hg', w1⟩ := p8 q hq
  have eg2 : g' = g := by
    obtain ⟨d1, d2, d3, -⟩ := h.2.2.1
    rw [gI_uI, if_neg (by omega)] at eg'
    have : nI g' = nI g := eg'.symm.trans eg
    exact (nIeq (by omega) (by omega)).1 this
  subst eg2
  obtain ⟨v1, v2, v3, v4, v5, v6, v7⟩ := w1 j hj
  have cw : inB w 0 3 = true := decide_eq_true ⟨z, Int32.not_lt.mpr z1⟩
  have ep : pN t = q := by rw [e1]; exact cl_n (by omega)
  have ep2 : pN i = j := by rw [e2]; exact cl_n (by omega)
  rw [c, cw, ep, ep2] at hf
  have hf := hf _ h1.at fr14
  have v := vp_n (show g' + j < 666 by omega) (by omega)
  have cl : (nI (g' + j)).toNatClampNeg = g' + j := cl_n (by omega)
  rw [cl]
  refine ⟨fun e0 => ⟨hk, bA, h1.r8, h1.bk.k, _, p5, p6.1, _, p7.2.2.2.2.1, 666, p6.2.2.2.2.2.1, v, ?_⟩, fun e0 => ⟨fun e1 => ⟨hk, bA, h1.r8, h1.bk.k, _, p5, p6.1, _, p7.2.2.1, 666, p6.2.2.2.1, v, ?_⟩, fun e1 => ⟨fun e2 => ⟨hk, bA, h1.r8, h1.bk.k, _, p5, p6.1, _, p7.2.2.2.1, 666, p6.2.2.2.2.1, v, ?_⟩, fun e2 => ⟨hk, bA, h1.r8, h1.bk.k, _, p5, p6.1, _, p7.2.2.2.2.2.2.2.1, 666, p6.2.2.2.2.2.2.2.2.1, v, ?_⟩⟩⟩⟩
  · subst e0; rw [v3]; exact kI_i hf
  · subst e1; rw [v1]; exact kI_i hf
  · subst e2; rw [v2]; exact kI_i hf
  · rw [v6]
    simp only [pieF, if_neg e0, if_neg e1, if_neg e2] at hf
    exact kI_i hf
set_option maxRecDepth 20000 in
theorem ct_pieceSum {t i w : Int32} {f : Int64 → qS → Prop} (h : XAt A S x V) (hv : vOk V) (hf : ∀ S', XAt A S' x (qst (pcB V t i && inB w 0 2) V) → Fr S S' x (x + 467) → f (aPieceSum V t i w) S') : Run (d + 10) 90 [.ref x, .int t, .int i, .int w] A S (kL A f) := by
  refine Run.i (C := mX9_pieceSum) rfl rfl rfl fun J hJ => ?_
  obtain ⟨tA, tB, nA, nB, bA, bB, π, h⟩ := h
  have hk := h.1.1
  have hl := hv.2.1.1.2.2
  unfold aPieceSum qst at hf
  have bad : (pcB V t i && inB w 0 2) = false → ∀ S1, XP A S1 x (setT V 1) tA tB nA nB bA bB π → Fr S S1 x (x + 467) → kL A f (some (.long (-1))) A S1 := by
    intro c S1 h1 f1
    rw [c] at hf
    exact kL_i (hf S1 h1.at f1)
  refine sX9_pieceSum_0 hJ ⟨hk, wc rfl, ct_pieceRow h hv (fun c => ⟨fun _ => ⟨hk, wc rfl, ct_refuse h (by decide) (bad (by rw [c]; rfl))⟩, fun z => absurd (by decide) z⟩) (fun c q j g hq e1 e2 hj eg hg => ⟨fun z => absurd z (nI_pos (by omega)), fun _ => ⟨fun z => ⟨hk, wc rfl, ct_refuse h (by decide) (bad (by rw [show inB w 0 2 = false from decide_eq_false (fun e => e.1 z), Bool.and_false]))⟩, fun z => ⟨fun z1 => ⟨hk, fun T e => ?_⟩, fun z1 => ⟨hk, wc rfl, ct_refuse h (by decide) (bad (by rw [show inB w 0 2 = false from decide_eq_false (fun e => e.2 (Int32.not_le.mp z1)), Bool.and_false]))⟩⟩⟩⟩)⟩
  subst e
  have h1 := h.set (t := 0) (by decide)
  obtain ⟨p1, p2, p3, p4, p5, p6, p7, p8⟩ := h1.bk.pc hv.2.1.1
  obtain ⟨-, g', eg', hg', w1⟩ := p8 q hq
  have eg2 : g' = g := by
    obtain ⟨d1, d2, d3, -⟩ := h.2.2.1
    rw [gI_uI, if_neg (by omega)] at eg'
    have : nI g' = nI g := eg'.symm.trans eg
    exact (nIeq (by omega) (by omega)).1 this
  subst eg2
  obtain ⟨v1, v2, v3, v4, v5, v6, v7⟩ := w1 j hj
  have cw : inB w 0 2 = true := decide_eq_true ⟨z, Int32.not_lt.mpr z1⟩
  have ep : pN t = q := by rw [e1]; exact cl_n (by omega)
  have ep2 : pN i = j := by rw [e2]; exact cl_n (by omega)
  rw [c, cw, ep, ep2] at hf
  have hf := hf _ h1.at fr14
  have v := vp_n (show g' + j < 666 by omega) (by omega)
  have cl : (nI (g' + j)).toNatClampNeg = g' + j := cl_n (by omega)
  rw [cl]
  refine ⟨fun e0 => ⟨hk, bA, h1.r8, h1.bk.k, _, p5, p6.1, _, p7.2.2.2.2.2.1, 666, p6.2.2.2.2.2.2.1, v, ?_⟩, fun e0 => ⟨fun e1 => ⟨hk, bA, h1.r8, h1.bk.k, _, p5, p6.1, _, p7.2.2.2.2.2.2.1, 666, p6.2.2.2.2.2.2.2.1, v, ?_⟩, fun e1 => ⟨hk, bA, h1.r8, h1.bk.k, _, p5, p6.1, _, p7.2.2.2.2.2.2.2.2.2, 666, p6.2.2.2.2.2.2.2.2.2.2, v, ?_⟩⟩⟩
  · subst e0; rw [v4]; exact kL_i hf
  · subst e1; rw [v5]; exact kL_i hf
  · rw [v7]
    simp only [pieG, if_neg e0, if_neg e1] at hf
    exact kL_i hf
set_option maxRecDepth 20000 in
theorem ct_gains {f : Int64 → qS → Prop} (h : XAt A S x V) (hf : ∀ S', XAt A S' x (qst (vLed V).isSome V) → Fr S S' x (x + 467) → f (aGains V) S') : Run (d + 10) 91 [.ref x] A S (kL A f) := by
  refine Run.i (C := mX9_gains) rfl rfl rfl fun J hJ => ?_
  obtain ⟨tA, tB, nA, nB, bA, bB, π, h⟩ := h
  have hk := h.1.1
  unfold aGains qst at hf
  refine sX9_gains_0 hJ ⟨hk, ?_⟩
  rw [h.2.2.2.1.2.2.1]
  refine And.symm (q_eqb (fun c => ⟨hk, wc rfl, ct_refuse h (by decide) fun S1 h1 f1 => kL_i ?_⟩) (fun c => ⟨hk, fun T e => ?_⟩))
  · rw [c] at hf; exact hf S1 h1.at f1
  · subst e
    have h1 := h.set (t := 0) (by decide)
    rw [c] at hf
    exact ⟨hk, bA, h1.r8, h1.bk.k, wc rfl, ct_allGainsT h1.bk (kL_i (hf _ h1.at fr14))⟩
set_option maxRecDepth 20000 in
theorem ct_deferrals {f : Int64 → qS → Prop} (h : XAt A S x V) (hf : ∀ S', XAt A S' x (qst (vLed V).isSome V) → Fr S S' x (x + 467) → f (aDefs V) S') : Run (d + 10) 92 [.ref x] A S (kL A f) := by
  refine Run.i (C := mX9_deferrals) rfl rfl rfl fun J hJ => ?_
  obtain ⟨tA, tB, nA, nB, bA, bB, π, h⟩ := h
  have hk := h.1.1
  unfold aDefs qst at hf
  refine sX9_deferrals_0 hJ ⟨hk, ?_⟩
  rw [h.2.2.2.1.2.2.1]
  refine And.symm (q_eqb (fun c => ⟨hk, wc rfl, ct_refuse h (by decide) fun S1 h1 f1 => kL_i ?_⟩) (fun c => ⟨hk, fun T e => ?_⟩))
  · rw [c] at hf; exact hf S1 h1.at f1
  · subst e
    have h1 := h.set (t := 0) (by decide)
    rw [c] at hf
    exact ⟨hk, bA, h1.r8, h1.bk.k, wc rfl, ct_allDeferredT h1.bk (kL_i (hf _ h1.at fr14))⟩
set_option maxRecDepth 20000 in
theorem ct_lost {f : Int64 → qS → Prop} (h : XAt A S x V) (hf : ∀ S', XAt A S' x (qst (vLed V).isSome V) → Fr S S' x (x + 467) → f (aLost V) S') : Run (d + 10) 93 [.ref x] A S (kL A f) := by
  refine Run.i (C := mX9_lost) rfl rfl rfl fun J hJ => ?_
  obtain ⟨tA, tB, nA, nB, bA, bB, π, h⟩ := h
  have hk := h.1.1
  unfold aLost qst at hf
  refine sX9_lost_0 hJ ⟨hk, ?_⟩
  rw [h.2.2.2.1.2.2.1]
  refine And.symm (q_eqb (fun c => ⟨hk, wc rfl, ct_refuse h (by decide) fun S1 h1 f1 => kL_i ?_⟩) (fun c => ⟨hk, fun T e => ?_⟩))
  · rw [c] at hf; exact hf S1 h1.at f1
  · subst e
    have h1 := h.set (t := 0) (by decide)
    rw [c] at hf
    obtain ⟨s, o, pl, w1, w2, -⟩ := h1.bk
    refine ⟨hk, bA, h1.r8, h1.bk.k, ?_⟩
    rw [w1.2.2.2.2.2.1.1, w2.lost]
    exact kL_i (hf _ h1.at fr14)
set_option maxRecDepth 20000 in
theorem ct_open {f : Int32 → qS → Prop} (h : XAt A S x V) (hf : ∀ S', XAt A S' x (qst (vLed V).isSome V) → Fr S S' x (x + 467) → f (aOpen V) S') : Run (d + 10) 94 [.ref x] A S (kI A f) := by
  refine Run.i (C := mX9_open) rfl rfl rfl fun J hJ => ?_
  obtain ⟨tA, tB, nA, nB, bA, bB, π, h⟩ := h
  have hk := h.1.1
  unfold aOpen qst at hf
  refine sX9_open_0 hJ ⟨hk, ?_⟩
  rw [h.2.2.2.1.2.2.1]
  refine And.symm (q_eqb (fun c => ⟨hk, wc rfl, ct_refuse h (by decide) fun S1 h1 f1 => kI_i ?_⟩) (fun c => ⟨hk, fun T e => ?_⟩))
  · rw [c] at hf; exact hf S1 h1.at f1
  · subst e
    have h1 := h.set (t := 0) (by decide)
    rw [c] at hf
    obtain ⟨s, o, pl, w1, w2, -⟩ := h1.bk
    refine ⟨hk, bA, h1.r8, h1.bk.k, ?_⟩
    rw [w1.2.2.2.2.1.1, w2.opn]
    exact kI_i (hf _ h1.at fr14)
end
