/-! the class's calls: of lots -/
theorem i32_lt {a b : Int32} : a < b ↔ a.toInt < b.toInt := Int32.lt_iff_toInt_lt
theorem i32_le {a b : Int32} : a ≤ b ↔ a.toInt ≤ b.toInt := Int32.le_iff_toInt_le
theorem i32_3 {p : Int32} : 3 ≤ p ↔ 2 < p := by
  rw [i32_le, i32_lt, show (3 : Int32).toInt = 3 by decide, show (2 : Int32).toInt = 2 by decide]
  omega
section
variable {A : qA} {S S' : qS} {x : Nat} {V V' : VSt} {tA tB nA nB bA bB : Nat} {π : Nat → Nat}
theorem XP.at (h : XP A S x V tA tB nA nB bA bB π) : XAt A S x V := ⟨_, _, _, _, _, _, _, h⟩
theorem BN.lo {B p : Nat} {w last : Int32} {T : List Row} (h : BN A S B w last T) (hp : p < 3) : A.1 B = some (0, 0) ∧ gR S B 0 = some (B + 1) ∧ A.1 (B + 1) = some (17, 3) ∧ gR S (B + 1) p = some (B + 18 + 42 * p) ∧ LoAt A S (B + 18 + 42 * p) (aRes w last T p).1 := by
  obtain ⟨s, o, pl, h1, h2, -⟩ := h
  obtain ⟨b1, b2, b3, b4, b5⟩ := h1
  exact ⟨b1.1, b2.1, b1.2.1, b2.2.2.2.2.2.2.2 p hp, by rw [← h2.1 p hp]; exact b4 p hp⟩
theorem XP.bk (h : XP A S x V tA tB nA nB bA bB π) : BN A S bA (lw (vLed V)) 999 (vNow V) := h.2.2.2.2.2.2.2.2.2.2.1
theorem XP.r8 (h : XP A S x V tA tB nA nB bA bB π) : gR S x 8 = some bA := h.2.1.1.2.2.2.2.2.2.1
theorem XP.r6 (h : XP A S x V tA tB nA nB bA bB π) : gR S x 6 = some nA := h.2.1.1.2.2.2.2.1
theorem XP.now (h : XP A S x V tA tB nA nB bA bB π) : TrAt A S nA 24 (vNow V) := h.2.2.2.2.2.2.2.2.1
theorem fr14 {t : Int32} : Fr S (uI S x 14 t) x (x + 467) := Fr.rf.uI (by omega) (by omega)
end
section
variable {d : Nat} {A : qA} {S : qS} {x : Nat} {V : VSt} {tA tB nA nB bA bB : Nat} {π : Nat → Nat}
set_option maxRecDepth 20000 in
theorem ct_refuse {t : Int32} {f : Int32 → qS → Prop} (h : XP A S x V tA tB nA nB bA bB π) (ht : ¬ t = 4) (hf : ∀ S', XP A S' x (setT V t) tA tB nA nB bA bB π → Fr S S' x (x + 467) → f (-1) S') : Run (d + 1) 129 [.ref x, .int t] A S (kI A f) := by
  refine Run.i (C := mX9_refuse) rfl rfl rfl fun J hJ => ?_
  refine sX9_refuse_0 hJ ⟨h.1.1, fun T e => ?_⟩
  subst e
  exact kI_i (hf _ (h.set ht) fr14)
set_option maxRecDepth 20000 in
theorem ct_isWithin {v lo hi : Int32} {f : Bool → qS → Prop} (hf : f (inB v lo hi) S) : Run (d + 1) 133 [.int v, .int lo, .int hi] A S (kZ A f) := by
  refine Run.i (C := mX9_isWithin) rfl rfl rfl fun J hJ => ?_
  refine sX9_isWithin_0 hJ ⟨fun z => ⟨Or.inl rfl, kZ_0 ?_⟩, fun z => ⟨fun z1 => ⟨Or.inl rfl, kZ_0 ?_⟩, fun z1 => ⟨Or.inr rfl, kZ_1 ?_⟩⟩⟩
  · rwa [show inB v lo hi = false from decide_eq_false (fun c => c.1 z)] at hf
  · rwa [show inB v lo hi = false from decide_eq_false (fun c => c.2 z1)] at hf
  · rwa [show inB v lo hi = true from decide_eq_true ⟨z, z1⟩] at hf
set_option maxRecDepth 20000 in
theorem ct_hasPaper {p : Int32} {f : Bool → qS → Prop} (h : XP A S x V tA tB nA nB bA bB π) (hf : f (papB V p) S) : Run (d + 1) 130 [.ref x, .int p] A S (kZ A f) := by
  refine Run.i (C := mX9_hasPaper) rfl rfl rfl fun J hJ => ?_
  refine sX9_hasPaper_0 hJ ⟨h.1.1, ?_⟩
  rw [h.2.2.2.1.2.2.1]
  refine q_eqb (fun c => ⟨Or.inl rfl, kZ_0 ?_⟩) (fun c => ⟨fun z => ⟨Or.inl rfl, kZ_0 ?_⟩, fun z => ⟨fun z1 => ⟨Or.inl rfl, kZ_0 ?_⟩, fun z1 => ⟨Or.inr rfl, kZ_1 ?_⟩⟩⟩)
  · rwa [show papB V p = false by rw [papB, c]; rfl] at hf
  · rwa [show papB V p = false by rw [papB, show inB p 0 2 = false from decide_eq_false (fun e => e.1 z), Bool.and_false]] at hf
  · rwa [show papB V p = false by rw [papB, show inB p 0 2 = false from decide_eq_false (fun e => e.2 (i32_3.1 z1)), Bool.and_false]] at hf
  · rwa [show papB V p = true by rw [papB, c, show inB p 0 2 = true from decide_eq_true ⟨z, fun e => z1 (i32_3.2 e)⟩]; rfl] at hf
set_option maxRecDepth 20000 in
theorem ct_hasLot {p i : Int32} {f : Bool → qS → Prop} (h : XP A S x V tA tB nA nB bA bB π) (hf : f (lotB V p i) S) : Run (d + 2) 131 [.ref x, .int p, .int i] A S (kZ A f) := by
  refine Run.i (C := mX9_hasLot) rfl rfl rfl fun J hJ => ?_
  refine sX9_hasLot_0 hJ ⟨h.1.1, wc rfl, ct_hasPaper h (q_eqb (fun c => ⟨Or.inl rfl, kZ_0 ?_⟩) (fun c => ⟨fun z => ⟨Or.inl rfl, kZ_0 ?_⟩, fun z => ?_⟩))⟩
  · rwa [show lotB V p i = false by rw [lotB, c]; rfl] at hf
  · rwa [show lotB V p i = false by rw [lotB, decide_eq_false (Int32.not_le.mpr z), Bool.and_false, Bool.false_and]] at hf
  · obtain ⟨q, hq, rfl, -⟩ := papB_i c
    obtain ⟨b1, b2, b3, b4, b5⟩ := h.bk.lo hq
    have b6 := b5.2.choose_spec.2.1
    refine ⟨h.1.1, bA, h.r8, b1, bA + 1, b2, 3, b3, vp_n (by omega) (by omega), bA + 18 + 42 * q, by rw [cl_n (by omega)]; exact b4, b5.1.1, ?_⟩
    rw [b6]
    have eb : (bkV V (pN (nI q))).1 = (aRes (lw (vLed V)) 999 (vNow V) q).1 := by rw [pN, cl_n (by omega)]; rfl
    refine ⟨fun z1 => ⟨Or.inl rfl, kZ_0 ?_⟩, fun z1 => ⟨Or.inr rfl, kZ_1 ?_⟩⟩
    · rwa [show lotB V (nI q) i = false by rw [lotB, eb, show decide (¬ nI (aRes (lw (vLed V)) 999 (vNow V) q).1.length ≤ i) = false from decide_eq_false (fun e => e z1), Bool.and_false]] at hf
    · rwa [show lotB V (nI q) i = true by rw [lotB, c, eb, show decide (¬ nI (aRes (lw (vLed V)) 999 (vNow V) q).1.length ≤ i) = true from decide_eq_true z1, decide_eq_true (Int32.not_lt.mp z)]; rfl] at hf
set_option maxRecDepth 20000 in
theorem ct_held {p : Int32} {f : Int32 → qS → Prop} (h : XAt A S x V) (hf : ∀ S', XAt A S' x (qst (papB V p) V) → Fr S S' x (x + 467) → f (aHeld V p) S') : Run (d + 10) 77 [.ref x, .int p] A S (kI A f) := by
  refine Run.i (C := mX9_held) rfl rfl rfl fun J hJ => ?_
  obtain ⟨tA, tB, nA, nB, bA, bB, π, h⟩ := h
  have hk := h.1.1
  unfold aHeld qst at hf
  refine sX9_held_0 hJ ⟨hk, wc rfl, ct_hasPaper h (And.symm (q_eqb (fun c => ⟨hk, wc rfl, ct_refuse h (by decide) fun S1 h1 f1 => kI_i ?_⟩) (fun c => ⟨hk, fun T e => ?_⟩)))⟩
  · rw [c] at hf; exact hf S1 h1.at f1
  · subst e
    obtain ⟨q, hq, rfl, -⟩ := papB_i c
    have h1 := h.set (t := 0) (by decide)
    obtain ⟨b1, b2, b3, b4, b5⟩ := h1.bk.lo hq
    refine ⟨hk, bA, h1.r8, b1, bA + 1, b2, 3, b3, vp_n (by omega) (by omega), bA + 18 + 42 * q, by rw [cl_n (by omega)]; exact b4, b5.1.1, wc rfl, ct_allShares b5 (kI_i ?_)⟩
    rw [c, pN, cl_n (by omega)] at hf
    exact hf _ h1.at fr14
set_option maxRecDepth 20000 in
theorem ct_cost {p : Int32} {f : Int64 → qS → Prop} (h : XAt A S x V) (hf : ∀ S', XAt A S' x (qst (papB V p) V) → Fr S S' x (x + 467) → f (aCost V p) S') : Run (d + 10) 78 [.ref x, .int p] A S (kL A f) := by
  refine Run.i (C := mX9_cost) rfl rfl rfl fun J hJ => ?_
  obtain ⟨tA, tB, nA, nB, bA, bB, π, h⟩ := h
  have hk := h.1.1
  unfold aCost qst at hf
  refine sX9_cost_0 hJ ⟨hk, wc rfl, ct_hasPaper h (And.symm (q_eqb (fun c => ⟨hk, wc rfl, ct_refuse h (by decide) fun S1 h1 f1 => kL_i ?_⟩) (fun c => ⟨hk, fun T e => ?_⟩)))⟩
  · rw [c] at hf; exact hf S1 h1.at f1
  · subst e
    obtain ⟨q, hq, rfl, -⟩ := papB_i c
    have h1 := h.set (t := 0) (by decide)
    obtain ⟨b1, b2, b3, b4, b5⟩ := h1.bk.lo hq
    refine ⟨hk, bA, h1.r8, b1, bA + 1, b2, 3, b3, vp_n (by omega) (by omega), bA + 18 + 42 * q, by rw [cl_n (by omega)]; exact b4, b5.1.1, wc rfl, ct_allCost b5 (kL_i ?_)⟩
    rw [c, pN, cl_n (by omega)] at hf
    exact hf _ h1.at fr14
set_option maxRecDepth 20000 in
theorem ct_lots {p : Int32} {f : Int32 → qS → Prop} (h : XAt A S x V) (hf : ∀ S', XAt A S' x (qst (papB V p) V) → Fr S S' x (x + 467) → f (aLots V p) S') : Run (d + 10) 79 [.ref x, .int p] A S (kI A f) := by
  refine Run.i (C := mX9_lots) rfl rfl rfl fun J hJ => ?_
  obtain ⟨tA, tB, nA, nB, bA, bB, π, h⟩ := h
  have hk := h.1.1
  unfold aLots qst at hf
  refine sX9_lots_0 hJ ⟨hk, wc rfl, ct_hasPaper h (And.symm (q_eqb (fun c => ⟨hk, wc rfl, ct_refuse h (by decide) fun S1 h1 f1 => kI_i ?_⟩) (fun c => ⟨hk, fun T e => ?_⟩)))⟩
  · rw [c] at hf; exact hf S1 h1.at f1
  · subst e
    obtain ⟨q, hq, rfl, -⟩ := papB_i c
    have h1 := h.set (t := 0) (by decide)
    obtain ⟨b1, b2, b3, b4, b5⟩ := h1.bk.lo hq
    have b6 := b5.2.choose_spec.2.1
    refine ⟨hk, bA, h1.r8, b1, bA + 1, b2, 3, b3, vp_n (by omega) (by omega), bA + 18 + 42 * q, by rw [cl_n (by omega)]; exact b4, b5.1.1, ?_⟩
    rw [b6]
    rw [c, pN, cl_n (by omega)] at hf
    exact kI_i (hf _ h1.at fr14)
/-- the i-th lot -/
theorem LoAt.i {a i : Nat} {L : List Lot} (h : LoAt A S a L) (hi : i < L.length) : gR S a 0 = some (a + 1) ∧ A.1 (a + 1) = some (16, 40) ∧ L.length ≤ 40 ∧ ∃ q, gR S (a + 1) i = some q ∧ A.1 q = some (3, 0) ∧ lotIs S q (lt L i) := by
  obtain ⟨h1, π, h2, h3, h4, h5, h6⟩ := h
  have := h5.1 i (by omega)
  exact ⟨h2, h1.2.1, h4, a + 2 + π i, this.2, h1.2.2 _ this.1, h6 i hi⟩
theorem lotB_i {p i : Int32} (h : lotB V p i = true) (hl : ∀ q, q < 3 → (bkV V q).1.length ≤ 40) : ∃ q k, q < 3 ∧ p = nI q ∧ i = nI k ∧ k < (bkV V q).1.length := by
  obtain ⟨h, h3⟩ := Bool.and_eq_true_iff.mp h
  obtain ⟨h1, h2⟩ := Bool.and_eq_true_iff.mp h
  obtain ⟨q, hq, rfl, -⟩ := papB_i h1
  have h3 := of_decide_eq_true h3
  have h2 := of_decide_eq_true h2
  rw [pN, cl_n (by omega)] at h3
  obtain ⟨k, hk, rfl⟩ := nI_idx (by have := hl q hq; omega) (Int32.not_lt.mpr h2) h3
  exact ⟨q, k, hq, rfl, rfl, hk⟩
set_option maxRecDepth 20000 in
theorem ct_lot {p i w : Int32} {f : Int32 → qS → Prop} (h : XAt A S x V) (hf : ∀ S', XAt A S' x (qst (lotB V p i && inB w 0 4) V) → Fr S S' x (x + 467) → f (aLot V p i w) S') : Run (d + 10) 80 [.ref x, .int p, .int i, .int w] A S (kI A f) := by
  refine Run.i (C := mX9_lot) rfl rfl rfl fun J hJ => ?_
  obtain ⟨tA, tB, nA, nB, bA, bB, π, h⟩ := h
  have hk := h.1.1
  unfold aLot qst at hf
  have bad : (lotB V p i && inB w 0 4) = false → ∀ S1, XP A S1 x (setT V 1) tA tB nA nB bA bB π → Fr S S1 x (x + 467) → kI A f (some (.int (-1))) A S1 := by
    intro c S1 h1 f1
    rw [c] at hf
    exact kI_i (hf S1 h1.at f1)
  refine sX9_lot_0 hJ ⟨hk, wc rfl, ct_hasLot h (q_eqb (fun c => ⟨hk, wc rfl, ct_refuse h (by decide) (bad (by rw [c]; rfl))⟩) (fun c => ⟨fun z => ⟨hk, wc rfl, ct_refuse h (by decide) (bad (by rw [show inB w 0 4 = false from decide_eq_false (fun e => e.1 z), Bool.and_false]))⟩, fun z => ⟨fun z1 => ⟨hk, fun T e => ?_⟩, fun z1 => ⟨hk, wc rfl, ct_refuse h (by decide) (bad (by rw [show inB w 0 4 = false from decide_eq_false (fun e => e.2 (Int32.not_le.mp z1)), Bool.and_false]))⟩⟩⟩))⟩
  subst e
  have h1 := h.set (t := 0) (by decide)
  obtain ⟨q, k, hq, rfl, rfl, hkl⟩ := lotB_i c (fun q hq => by
    obtain ⟨b1, b2, b3, b4, b5⟩ := h.bk.lo hq
    exact b5.2.choose_spec.2.2.1)
  obtain ⟨b1, b2, b3, b4, b5⟩ := h1.bk.lo hq
  have b5 : LoAt A (uI S x 14 0) (bA + 18 + 42 * q) (bkV V q).1 := b5
  obtain ⟨l1, l2, l3, r, l4, l5, l6, l7, l8, l9, l10, l11⟩ := b5.i hkl
  have cw : inB w 0 4 = true := decide_eq_true ⟨z, Int32.not_lt.mpr z1⟩
  rw [c, cw, pN, pN, cl_n (by omega), cl_n (by omega)] at hf
  have hf := hf _ h1.at fr14
  refine ⟨hk, bA, h1.r8, b1, bA + 1, b2, 3, b3, vp_n (by omega) (by omega), bA + 18 + 42 * q, by rw [cl_n (by omega)]; exact b4, b5.1.1, _, l1, 40, l2, vp_n (by omega) (by omega), r, by rw [cl_n (by omega)]; exact l4, ?_⟩
  rw [l6, l8, l9, l10, l11]
  simp only [lotF] at hf
  refine ⟨fun e => ⟨l5, kI_i ?_⟩, fun e => ⟨fun e1 => ⟨l5, kI_i ?_⟩, fun e1 => ⟨fun e2 => ⟨l5, kI_i ?_⟩, fun e2 => ⟨fun e3 => ⟨l5, ?_⟩, fun e3 => ⟨l5, kI_i ?_⟩⟩⟩⟩⟩
  · simpa [e] using hf
  · simpa [e, e1] using hf
  · simpa [e, e1, e2] using hf
  · refine q_eqb (fun cb => kI_i ?_) (fun cb => kI_i ?_)
    · subst e3
      have hf' : f (bI (lt (bkV V q).1 k).2.2.2.2.1) (uI S x 14 0) := hf
      rw [cb] at hf'
      exact hf'
    · subst e3
      have hf' : f (bI (lt (bkV V q).1 k).2.2.2.2.1) (uI S x 14 0) := hf
      rw [cb] at hf'
      exact hf'
  · simpa [e, e1, e2, e3] using hf
set_option maxRecDepth 20000 in
theorem ct_lotCost {p i : Int32} {f : Int64 → qS → Prop} (h : XAt A S x V) (hf : ∀ S', XAt A S' x (qst (lotB V p i) V) → Fr S S' x (x + 467) → f (aLotCost V p i) S') : Run (d + 10) 81 [.ref x, .int p, .int i] A S (kL A f) := by
  refine Run.i (C := mX9_lotCost) rfl rfl rfl fun J hJ => ?_
  obtain ⟨tA, tB, nA, nB, bA, bB, π, h⟩ := h
  have hk := h.1.1
  unfold aLotCost qst at hf
  refine sX9_lotCost_0 hJ ⟨hk, wc rfl, ct_hasLot h (And.symm (q_eqb (fun c => ⟨hk, wc rfl, ct_refuse h (by decide) fun S1 h1 f1 => kL_i ?_⟩) (fun c => ⟨hk, fun T e => ?_⟩)))⟩
  · rw [c] at hf; exact hf S1 h1.at f1
  · subst e
    have h1 := h.set (t := 0) (by decide)
    obtain ⟨q, k, hq, rfl, rfl, hkl⟩ := lotB_i c (fun q hq => by
      obtain ⟨b1, b2, b3, b4, b5⟩ := h.bk.lo hq
      exact b5.2.choose_spec.2.2.1)
    obtain ⟨b1, b2, b3, b4, b5⟩ := h1.bk.lo hq
    have b5 : LoAt A (uI S x 14 0) (bA + 18 + 42 * q) (bkV V q).1 := b5
    obtain ⟨l1, l2, l3, r, l4, l5, l6, l7, l8, l9, l10, l11⟩ := b5.i hkl
    rw [c, pN, pN, cl_n (by omega), cl_n (by omega)] at hf
    refine ⟨hk, bA, h1.r8, b1, bA + 1, b2, 3, b3, vp_n (by omega) (by omega), bA + 18 + 42 * q, by rw [cl_n (by omega)]; exact b4, b5.1.1, _, l1, 40, l2, vp_n (by omega) (by omega), r, by rw [cl_n (by omega)]; exact l4, l5, ?_⟩
    rw [l7]
    exact kL_i (hf _ h1.at fr14)
end
