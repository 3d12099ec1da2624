/-! the class's undo, image, back -/
section
variable {d : Nat} {A : qA} {S S' : qS} {x : Nat} {V V' : VSt} {tA tB nA nB bA bB : Nat} {π π' : Nat → Nat}
/-- other trades now, booked; told and images stay -/
theorem XP.other (h : XP A S x V tA tB nA nB bA bB π) (hF : Fr S S' x (x + 467)) (hs : ∀ b, x < b → ¬ (nA ≤ b ∧ b < nA + 7) → ¬ (bA ≤ b ∧ b < bA + 144) → ¬ (x + 329 ≤ b ∧ b < x + 443) → ∀ k, gI S' b k = gI S b k ∧ gL S' b k = gL S b k ∧ gR S' b k = gR S b k) (hR : ∀ k, gR S' x k = gR S x k) (e0 : vLed V' = vLed V) (e3 : vImg V' = vImg V) (hI : XI S' x V') (hH : HiAt A S' x π (vPast V')) (hN : TrAt A S' nA 24 (vNow V')) (hb : BN A S' bA (lw (vLed V)) 999 (vNow V')) : XP A S' x V' tA tB nA nB bA bB π := by
  obtain ⟨d1, d2, d3, d4, d5⟩ := h.2.2.1
  obtain ⟨T, hT⟩ := h.2.2.2.2.2.2.2.2.2.1
  exact h.gen hF (fun b hb k => hs b (by omega) (by omega) (by omega) (by omega) k) ⟨hR _, hR _, hR _, hR _, hR _, hR _, hR _⟩ ((hR _).trans h.r6) ((hR _).trans h.r7) ((hR _).trans h.r8) ((hR _).trans h.r9) ⟨d2, d3⟩ e0 e3 hI hH hN ⟨T, hT.cel (fun b b1 b2 k => hs b (by omega) (by omega) (by omega) (by omega) k) hF⟩ hb (h.tb.cel (fun b b1 b2 k => hs b (by omega) (by omega) (by omega) (by omega) k) hF)
set_option maxRecDepth 20000 in
theorem ct_undo {f : Bool → qS → Prop} (h : XAt A S x V) (hv : vOk V) (hf : ∀ S', XAt A S' x (uUndo V) → Fr S S' x (x + 467) → f (decide (¬ (vPast V).length = 0)) S') : Run (d + 10) 123 [.ref x] A S (kZ A f) := by
  refine Run.i (C := mX9_undo) rfl rfl rfl fun J hJ => ?_
  obtain ⟨tA, tB, nA, nB, bA, bB, π, h⟩ := h
  have hk := h.1.1
  have hl := hv.2.2.2.2.1
  obtain ⟨d1, d2, d3, d4, d5⟩ := h.2.2.1
  have r10 := h.2.1.1.2.2.2.2.2.2.2.2.1
  unfold uUndo at hf
  refine sX9_undo_0 hJ ⟨hk, x + 329, r10, h.1.2.2.2.1, ?_⟩
  rw [h.2.2.2.1.2.2.2.2.2.2.2.2, show (0 : Int32) = nI 0 from rfl, nIlt (by omega) (by omega)]
  refine ⟨fun z => ⟨hk, fun S1 e1 => ?_⟩, fun z => ⟨hk, wc rfl, ct_refuse h (by decide) fun S1 h1 f1 => ⟨Or.inl rfl, kZ_0 ?_⟩⟩⟩
  · rw [if_neg (by omega), decide_eq_true (show ¬ (vPast V).length = 0 by omega)] at hf
    have e1' : S1 = uI S x 14 0 := e1
    have h1 := h.set (t := 0) (by decide)
    rw [← e1'] at h1
    have f1 : Fr S S1 x (x + 467) := by rw [e1']; exact fr14
    have mem : rg (vPast V) ((vPast V).length - 1) ∈ vPast V := by
      unfold rg
      rw [List.getD_eq_getElem?_getD, List.getElem?_eq_getElem (by omega)]
      exact List.getElem_mem _
    have vp := hv.2.2.2.1 _ mem
    refine ⟨hk, x + 329, h1.2.1.1.2.2.2.2.2.2.2.2.1, hk, nA, h1.r6, h1.1.2.2.2.1, wc rfl, ct_giveBack (h1.hi hl) z h1.now (by omega) fun S2 h2 t2 s2 => ?_⟩
    have s2x : ∀ k, gI S2 x k = gI S1 x k ∧ gL S2 x k = gL S1 x k ∧ gR S2 x k = gR S1 x k := fun k => s2 x (by omega) (by omega) k
    have F12 : Fr S1 S2 x (x + 467) := fun b hb k => s2 b (by omega) (by omega) k
    have b2 : BA A S2 bA := h1.bk.any.cel (fun b b1 b2 k => s2 b (by omega) (by omega) k) F12
    have td2 : TdAt A S2 tA (ldV (setT V 0)) := h1.td.cel (fun b b1 b2 k => s2 b (by omega) (by omega) k) F12
    have w2 : gI S2 tA 1 = lw (vLed V) := (s2 tA (by omega) (by omega) 1).1.trans h1.tw
    refine ⟨hk, bA, (s2x 8).2.2.trans h1.r8, hk, nA, (s2x 6).2.2.trans h1.r6, hk, tA, (s2x 4).2.2.trans h1.r4, td2.1.1, b2.k, wc rfl, ?_⟩
    rw [w2]
    refine ct_book b2 t2 vp.1 (by omega) fun S3 b3 b4 f3 => ⟨Or.inr rfl, kZ_1 ?_⟩
    have F23 : Fr S2 S3 x (x + 467) := f3.wide (by omega) (by omega)
    refine hf S3 (h1.other (V' := setT (upV V (rg (vPast V) ((vPast V).length - 1)) ((vPast V).take ((vPast V).length - 1)) (vImg V)) 0) (F12.trans F23) (fun b c1 c2 c3 c4 k => ?_) (fun k => ?_) rfl rfl ⟨fun k hk => ?_, ?_, ?_, ?_, ?_, ?_, fun z => absurd (show (0 : Int32) = 4 from z) (by decide), fun _ => rfl, ?_⟩ (h2.cel F23 fun b c1 c2 k => f3 b (by omega) k) (t2.fr f3 (by omega)) (b4 vp.2)).at (f1.trans (F12.trans F23))
    · have a1 := f3 b (by omega) k
      have a2 := s2 b (by omega) (by omega) k
      exact ⟨a1.1.trans a2.1, a1.2.1.trans a2.2.1, a1.2.2.trans a2.2.2⟩
    · exact (f3 x (by omega) k).2.2.trans (s2x k).2.2
    · exact ((f3 _ (by omega) _).1.trans (s2 _ (by omega) (by omega) _).1).trans (h1.2.2.2.1.1 k hk)
    · exact ((f3 _ (by omega) _).1.trans (s2x _).1).trans h1.2.2.2.1.2.1
    · exact ((f3 _ (by omega) _).1.trans (s2x _).1).trans h1.2.2.2.1.2.2.1
    · exact ((f3 _ (by omega) _).1.trans (s2x _).1).trans h1.2.2.2.1.2.2.2.1
    · exact ((f3 _ (by omega) _).1.trans (s2x _).1).trans h1.2.2.2.1.2.2.2.2.1
    · exact ((f3 _ (by omega) _).1.trans (s2x _).1).trans h1.2.2.2.1.2.2.2.2.2.1
    · exact (f3 _ (by omega) _).1.trans h2.2.2.1
  · rw [if_pos (by omega), decide_eq_false (show ¬ ¬ (vPast V).length = 0 by omega)] at hf
    exact hf S1 h1.at f1
set_option maxRecDepth 20000 in
theorem ct_back {i : Int32} {f : Bool → qS → Prop} (h : XAt A S x V) (hv : vOk V) (hf : ∀ S', XAt A S' x (uBack V i) → Fr S S' x (x + 467) → f (bkB V i) S') : Run (d + 10) 125 [.ref x, .int i] A S (kZ A f) := by
  refine Run.i (C := mX9_back) rfl rfl rfl fun J hJ => ?_
  obtain ⟨tA, tB, nA, nB, bA, bB, π, h⟩ := h
  have hk := h.1.1
  have hl := hv.2.2.2.2.2.2.1
  have hl6 := hv.2.2.2.2.1
  obtain ⟨d1, d2, d3, d4, d5⟩ := h.2.2.1
  have r10 := h.2.1.1.2.2.2.2.2.2.2.2.1
  have r11 := h.2.1.1.2.2.2.2.2.2.2.2.2.1
  unfold uBack at hf
  have bad : bkB V i = false → ∀ S1, XP A S1 x (setT V 1) tA tB nA nB bA bB π → Fr S S1 x (x + 467) → ((0 : Int32) = 0 ∨ (0 : Int32) = 1) ∧ kZ A f (some (.int 0)) A S1 := by
    intro c S1 h1 f1
    rw [c] at hf
    exact ⟨Or.inl rfl, kZ_0 (hf S1 h1.at f1)⟩
  refine sX9_back_0 hJ ⟨fun z => ⟨hk, wc rfl, ct_refuse h (by decide) (bad (decide_eq_false (fun e => e.1 z)))⟩, fun z => ⟨hk, ?_⟩⟩
  rw [h.2.2.2.1.2.2.2.1]
  refine ⟨fun z1 => ⟨hk, wc rfl, ct_refuse h (by decide) (bad (decide_eq_false (fun e => Int32.not_le.mpr e.2 z1)))⟩, fun z1 => ?_⟩
  obtain ⟨q, hq, rfl⟩ := nI_idx (by omega) z z1
  have cb : bkB V (nI q) = true := decide_eq_true ⟨z, Int32.not_le.mp z1⟩
  rw [cb, pN, cl_n (by omega), if_pos rfl] at hf
  refine ⟨fun _ => ⟨hk, fun S1 e1 => ?_⟩, fun z2 => absurd ((nIlt (b := 3) (by omega) (by omega)).2 (by omega)) z2⟩
  have h1 := h.set (t := 0) (by decide)
  rw [← e1] at h1
  have f1 : Fr S S1 x (x + 467) := by rw [e1]; exact fr14
  obtain ⟨Ti, ti, eT⟩ := h1.2.2.2.2.1.2 q (by omega)
  have eT : Ti = rg (vImg V) q := eT hq
  have mem : rg (vImg V) q ∈ vImg V := by
    unfold rg
    rw [List.getD_eq_getElem?_getD, List.getElem?_eq_getElem (by omega)]
    exact List.getElem_mem _
  have vp := hv.2.2.2.2.2.1 _ mem
  have vl : (rg (vImg V) q).length ≤ 24 := vp.1.2.2
  refine ⟨hk, nA, h1.r6, hk, x + 443, h1.2.1.1.2.2.2.2.2.2.2.2.2.1, 3, h1.1.2.2.2.2.2.1, vp_n (by omega) (by omega), x + 446 + 7 * q, by rw [cl_n (by omega)]; exact h1.2.1.2.2.2.1 q (by omega), h1.now.1.1, wc rfl, ct_copyFrom h1.now ti (by rw [eT]; exact vl) (by omega) fun S2 t2 f2 => ?_⟩
  rw [eT] at t2
  have F12 : Fr S1 S2 x (x + 467) := f2.wide (by omega) (by omega)
  have b2 : BA A S2 bA := h1.bk.any.cel (fun b b1 b2 k => f2 b (by omega) k) F12
  have td2 : TdAt A S2 tA (ldV (setT V 0)) := h1.td.cel (fun b b1 b2 k => f2 b (by omega) k) F12
  have w2 : gI S2 tA 1 = lw (vLed V) := (f2 tA (by omega) 1).1.trans h1.tw
  have gx : ∀ k, gR S2 x k = gR S1 x k := fun k => (f2 x (by omega) k).2.2
  refine ⟨hk, bA, (gx 8).trans h1.r8, hk, nA, (gx 6).trans h1.r6, hk, tA, (gx 4).trans h1.r4, td2.1.1, b2.k, wc rfl, ?_⟩
  rw [w2]
  refine ct_book b2 t2 vp.1 (by omega) fun S3 b3 b4 f3 => ⟨hk, x + 329, ((f3 x (by omega) 10).2.2.trans (gx 10)).trans h1.2.1.1.2.2.2.2.2.2.2.2.1, h1.1.2.2.2.1, fun S4 e4 => ⟨Or.inr rfl, kZ_1 ?_⟩⟩
  have F23 : Fr S2 S3 x (x + 467) := f3.wide (by omega) (by omega)
  have f4 : Fr S3 S4 (x + 329) (x + 330) := by rw [e4]; exact Fr.rf.uI (by omega) (by omega)
  have F34 : Fr S3 S4 x (x + 467) := f4.wide (by omega) (by omega)
  have F14 := (F12.trans F23).trans F34
  have s4 : ∀ b, ¬ (nA ≤ b ∧ b < nA + 7) → ¬ (bA ≤ b ∧ b < bA + 144) → ¬ b = x + 329 → ∀ k, gI S4 b k = gI S1 b k ∧ gL S4 b k = gL S1 b k ∧ gR S4 b k = gR S1 b k := by
    intro b c1 c2 c3 k
    have a1 := f4 b (by omega) k
    have a2 := f3 b (by omega) k
    have a3 := f2 b (by omega) k
    exact ⟨(a1.1.trans a2.1).trans a3.1, (a1.2.1.trans a2.2.1).trans a3.2.1, (a1.2.2.trans a2.2.2).trans a3.2.2⟩
  have hi1 := h1.hi hl6
  have hi4 : HiAt A S4 x π [] := by
    obtain ⟨k1, r1, i1, l1, r2, ⟨p1, p2⟩, t1⟩ := hi1
    have g4 : ∀ b k, gR S4 b k = gR S3 b k := fun b k => by rw [e4]; rfl
    refine ⟨k1, ((g4 _ _).trans ((f3 _ (by omega) _).2.2.trans (f2 _ (by omega) _).2.2)).trans r1, by rw [e4, gI_uI, if_pos ⟨rfl, rfl⟩]; rfl, by decide, fun i hi => (s4 _ (by omega) (by omega) (by omega) _).2.2.trans (r2 i hi), ⟨p1, p2⟩, fun i hi => ?_⟩
    obtain ⟨T, w1, -⟩ := t1 i hi
    have := p1 i hi
    exact ⟨T, w1.cel (fun b b1 b2 k => s4 b (by omega) (by omega) (by omega) k) F14, fun z => absurd z (Nat.not_lt_zero _)⟩
  refine hf S4 (h1.other (V' := setT (upV V (rg (vImg V) q) [] (vImg V)) 0) F14 (fun b c1 c2 c3 c4 k => s4 b c2 c3 (by omega) k) (fun k => (s4 x (by omega) (by omega) (by omega) k).2.2) rfl rfl ⟨fun k hk => ?_, ?_, ?_, ?_, ?_, ?_, fun z => absurd (show (0 : Int32) = 4 from z) (by decide), fun _ => rfl, ?_⟩ hi4 ((t2.fr f3 (by omega)).fr f4 (by omega)) ((b4 vp.2).cel (fun b c1 c2 k => f4 b (by omega) k) F34)).at (f1.trans F14)
  · exact (s4 _ (by omega) (by omega) (by omega) _).1.trans (h1.2.2.2.1.1 k hk)
  · exact (s4 x (by omega) (by omega) (by omega) _).1.trans h1.2.2.2.1.2.1
  · exact (s4 x (by omega) (by omega) (by omega) _).1.trans h1.2.2.2.1.2.2.1
  · exact (s4 x (by omega) (by omega) (by omega) _).1.trans h1.2.2.2.1.2.2.2.1
  · exact (s4 x (by omega) (by omega) (by omega) _).1.trans h1.2.2.2.1.2.2.2.2.1
  · exact (s4 x (by omega) (by omega) (by omega) _).1.trans h1.2.2.2.1.2.2.2.2.2.1
  · exact hi4.2.2.1
set_option maxRecDepth 20000 in
theorem ct_image {f : Int32 → qS → Prop} (h : XAt A S x V) (hv : vOk V) (hf : ∀ S', XAt A S' x (uImage V).1 → Fr S S' x (x + 467) → f (uImage V).2 S') : Run (d + 10) 124 [.ref x] A S (kI A f) := by
  refine Run.i (C := mX9_image) rfl rfl rfl fun J hJ => ?_
  obtain ⟨tA, tB, nA, nB, bA, bB, π, h⟩ := h
  have hk := h.1.1
  have hl := hv.2.2.2.2.2.2.1
  obtain ⟨d1, d2, d3, d4, d5⟩ := h.2.2.1
  unfold uImage at hf
  refine sX9_image_0 hJ ⟨hk, ?_⟩
  rw [h.2.2.2.1.2.2.1, h.2.2.2.1.2.2.2.1]
  refine And.symm (q_eqb (fun c => ⟨hk, wc rfl, ct_refuse h (by decide) fun S1 h1 f1 => kI_i ?_⟩) (fun c => ⟨hk, fun z => ⟨hk, fun S1 e1 => ?_⟩, fun z => ⟨hk, wc rfl, ct_refuse h (by decide) fun S1 h1 f1 => kI_i ?_⟩⟩))
  · rw [c] at hf; exact hf S1 h1.at f1
  · rw [show (3 : Int32) = nI 3 from rfl, nIlt (by omega) (by omega)] at z
    rw [c, if_pos rfl, if_neg (by omega)] at hf
    have h1 := h.set (t := 0) (by decide)
    rw [← e1] at h1
    have f1 : Fr S S1 x (x + 467) := by rw [e1]; exact fr14
    have g12 : gI S1 x 12 = nI (vImg V).length := h1.2.2.2.1.2.2.2.1
    rw [g12, cl_n (by omega)]
    obtain ⟨Ti, ti, -⟩ := h1.2.2.2.2.1.2 (vImg V).length (by omega)
    refine ⟨hk, x + 443, h1.2.1.1.2.2.2.2.2.2.2.2.2.1, hk, 3, h1.1.2.2.2.2.2.1, vp_n (by omega) (by omega), _, h1.2.1.2.2.2.1 _ (by omega), hk, nA, h1.r6, ti.1.1, wc rfl, ct_copyFrom ti h1.now hv.2.1.1.2.2 (by omega) fun S2 t2 f2 => ⟨hk, hk, fun S3 e3 => ⟨hk, ?_⟩⟩⟩
    have g2 : gI S2 x 12 = nI (vImg V).length := (f2 x (by omega) 12).1.trans g12
    rw [g2, nI_1] at e3
    have g3 : gI S3 x 12 = nI ((vImg V).length + 1) := by rw [e3, gI_uI, if_pos ⟨rfl, rfl⟩]
    rw [g3, nI_pred]
    have F12 : Fr S1 S2 x (x + 467) := f2.wide (by omega) (by omega)
    have f3 : Fr S2 S3 x (x + 1) := by rw [e3]; exact Fr.rf.uI (by omega) (by omega)
    have F13 := F12.trans (f3.wide (Nat.le_refl _) (by omega))
    have s3 : ∀ b, ¬ b = x → ¬ (x + 446 + 7 * (vImg V).length ≤ b ∧ b < x + 446 + 7 * (vImg V).length + 7) → ∀ k, gI S3 b k = gI S1 b k ∧ gL S3 b k = gL S1 b k ∧ gR S3 b k = gR S1 b k := by
      intro b c1 c2 k
      have a1 := f3 b (by omega) k
      have a2 := f2 b (by omega) k
      exact ⟨a1.1.trans a2.1, a1.2.1.trans a2.2.1, a1.2.2.trans a2.2.2⟩
    have sx : ∀ k, ¬ k = 12 → gI S3 x k = gI S1 x k := fun k hk => by rw [e3, gI_uI, if_neg (fun z => hk z.2)]; exact (f2 x (by omega) k).1
    have sr : ∀ k, gR S3 x k = gR S1 x k := fun k => by rw [e3, gR_uI]; exact (f2 x (by omega) k).2.2
    obtain ⟨hK, ⟨⟨q1, q2, q3, q4, q5, q6, q7, q8, q9, q10, q11⟩, q12, q13, q14, q15⟩, hD, ⟨i1, i2, i3, i4, i5, i6, i7, i8, i9⟩, hXT, hQ, hA, hB', hN, ⟨T, hT⟩, hb, hB⟩ := h1
    refine kI_i (hf S3 ⟨tA, tB, nA, nB, bA, bB, π, hK, ⟨⟨(sr _).trans q1, (sr _).trans q2, (sr _).trans q3, (sr _).trans q4, (sr _).trans q5, (sr _).trans q6, (sr _).trans q7, (sr _).trans q8, (sr _).trans q9, (sr _).trans q10, (sr _).trans q11⟩, (s3 _ (by omega) (by omega) _).2.2.trans q12, (s3 _ (by omega) (by omega) _).2.2.trans q13, fun i hi => (s3 _ (by omega) (by omega) _).2.2.trans (q14 i hi), fun i hi => (s3 _ (by omega) (by omega) _).2.2.trans (q15 i hi)⟩, hD, ⟨fun k hk => (s3 _ (by omega) (by omega) _).1.trans (i1 k hk), (sx _ (by omega)).trans i2, (sx _ (by omega)).trans i3, ?_, (sx _ (by omega)).trans i5, (sx _ (by omega)).trans i6, fun z => absurd (show (0 : Int32) = 4 from z) (by decide), fun _ => rfl, (s3 _ (by omega) (by omega) _).1.trans i9⟩, ⟨fun i hi => ?_, fun i hi => ?_⟩, ?_, hA.cel (fun b b1 b2 k => s3 b (by omega) (by omega) k) F13, ?_, hN.cel (fun b b1 b2 k => s3 b (by omega) (by omega) k) F13, ⟨T, hT.cel (fun b b1 b2 k => s3 b (by omega) (by omega) k) F13⟩, hb.cel (fun b b1 b2 k => s3 b (by omega) (by omega) k) F13, hB.cel (fun b b1 b2 k => s3 b (by omega) (by omega) k) F13⟩ (f1.trans F13))
    · rw [g3]
      show nI _ = nI (vImg V ++ [vNow V]).length
      rw [List.length_append, List.length_singleton]
    · obtain ⟨T', w1, w2⟩ := hXT.1 i hi
      have := d4 i hi
      exact ⟨T', w1.cel (fun b b1 b2 k => s3 b (by omega) (by omega) k) F13, w2⟩
    · show ∃ T, TrAt A S3 (x + 446 + 7 * i) 24 T ∧ (i < (vImg V ++ [vNow V]).length → T = rg (vImg V ++ [vNow V]) i)
      by_cases e : i = (vImg V).length
      · rw [e]
        exact ⟨vNow V, t2.fr f3 (by omega), fun _ => rg_end.symm⟩
      · obtain ⟨T', w1, w2⟩ := hXT.2 i hi
        refine ⟨T', w1.cel (fun b b1 b2 k => s3 b (by omega) (by omega) k) F13, fun z => ?_⟩
        rw [List.length_append, List.length_singleton] at z
        rw [rg_app (by omega)]
        exact w2 (by show i < (vImg V).length; omega)
    · obtain ⟨b, g1, g2⟩ := hQ
      exact ⟨b, (s3 (x + 444) (by omega) (by omega) _).1.trans g1, fun c => ⟨(s3 (x + 444) (by omega) (by omega) _).1.trans (g2 c).1, fun i hi => (s3 (x + 445) (by omega) (by omega) _).1.trans ((g2 c).2 i hi)⟩⟩
    · obtain ⟨td', hB'⟩ := hB'
      exact ⟨td', hB'.cel (fun b b1 b2 k => s3 b (by omega) (by omega) k) F13⟩
  · rw [show (3 : Int32) = nI 3 from rfl, nIlt (by omega) (by omega)] at z
    rw [c, if_pos rfl, if_pos (by omega)] at hf
    exact hf S1 h1.at f1
end
