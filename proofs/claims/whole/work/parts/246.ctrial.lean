/-! the class's trial rows -/
section
variable {d : Nat} {A : qA} {S S' : qS} {x : Nat} {V : VSt} {tA tB nA nB bA bB : Nat} {π : Nat → Nat}
theorem XI.cel (h : XI S x V) (e : ∀ b, b = x ∨ b = x + 1 ∨ b = x + 329 → ∀ k, gI S' b k = gI S b k) : XI S' x V := by
  obtain ⟨i1, i2, i3, i4, i5, i6, i7, i8, i9⟩ := h
  exact ⟨fun k hk => (e _ (by omega) k).trans (i1 k hk), (e _ (by omega) _).trans i2, (e _ (by omega) _).trans i3, (e _ (by omega) _).trans i4, (e _ (by omega) _).trans i5, (e _ (by omega) _).trans i6, fun c => (e _ (by omega) _).trans (i7 c), i8, (e _ (by omega) _).trans i9⟩
theorem XP.trN {T : List Row} (h : XP A S x V tA tB nA nB bA bB π) (hF : Fr S S' nB (nB + 7)) (hT : TrAt A S' nB 24 T) : XP A S' x V tA tB nA nB bA bB π := by
  obtain ⟨d1, d2, d3, d4, d5⟩ := h.2.2.1
  have hF' : Fr S S' x (x + 467) := hF.wide (by omega) (by omega)
  refine h.up hF' (fun b hb h1 h2 k => hF b (by omega) k) (fun k => (hF x (by omega) k).2.2) rfl rfl rfl rfl (h.2.2.2.1.cel fun b hb k => (hF b (by omega) k).1) ⟨T, hT⟩ (h.2.2.2.2.2.2.2.2.2.2.2.cel (fun b b1 b2 k => hF b (by omega) k) hF')
theorem XP.trB (h : XP A S x V tA tB nA nB bA bB π) (hF : Fr S S' bB (bB + 144)) (hB : BA A S' bB) : XP A S' x V tA tB nA nB bA bB π := by
  obtain ⟨d1, d2, d3, d4, d5⟩ := h.2.2.1
  have hF' : Fr S S' x (x + 467) := hF.wide (by omega) (by omega)
  obtain ⟨T, hT⟩ := h.2.2.2.2.2.2.2.2.2.1
  refine h.up hF' (fun b hb h1 h2 k => hF b (by omega) k) (fun k => (hF x (by omega) k).2.2) rfl rfl rfl rfl (h.2.2.2.1.cel fun b hb k => (hF b (by omega) k).1) ⟨T, hT.cel (fun b b1 b2 k => hF b (by omega) k) hF'⟩ hB
theorem XP.frN (h : XP A S x V tA tB nA nB bA bB π) (hF : Fr S S' nB (nB + 7)) : Fr S S' x (x + 467) := by
  obtain ⟨d1, d2, d3, d4, d5⟩ := h.2.2.1
  exact hF.wide (by omega) (by omega)
theorem XP.frB (h : XP A S x V tA tB nA nB bA bB π) (hF : Fr S S' bB (bB + 144)) : Fr S S' x (x + 467) := by
  obtain ⟨d1, d2, d3, d4, d5⟩ := h.2.2.1
  exact hF.wide (by omega) (by omega)
theorem XP.r7 (h : XP A S x V tA tB nA nB bA bB π) : gR S x 7 = some nB := h.2.1.1.2.2.2.2.2.1
theorem XP.r9 (h : XP A S x V tA tB nA nB bA bB π) : gR S x 9 = some bB := h.2.1.1.2.2.2.2.2.2.2.1
theorem XP.r4 (h : XP A S x V tA tB nA nB bA bB π) : gR S x 4 = some tA := h.2.1.1.2.2.1
theorem XP.td (h : XP A S x V tA tB nA nB bA bB π) : TdAt A S tA (ldV V) := h.2.2.2.2.2.2.1
theorem XP.tw (h : XP A S x V tA tB nA nB bA bB π) : gI S tA 1 = lw (vLed V) := by
  rw [h.td.2.2.2.1]
  unfold ldV lw
  cases vLed V <;> rfl
theorem XP.tb (h : XP A S x V tA tB nA nB bA bB π) : BA A S bB := h.2.2.2.2.2.2.2.2.2.2.2
theorem BA.k {B : Nat} (h : BA A S B) : A.1 B = some (0, 0) := by
  obtain ⟨H, G, O, z, E, h⟩ := h
  exact h.1.1
theorem XP.nk (h : XP A S x V tA tB nA nB bA bB π) : A.1 nB = some (8, 0) := by
  obtain ⟨T, hT⟩ := h.2.2.2.2.2.2.2.2.2.1
  exact hT.1.1
set_option maxRecDepth 20000 in
theorem ct_copyNow {f : qS → Prop} (h : XP A S x V tA tB nA nB bA bB π) (hv : vOk V) (hf : ∀ S', XP A S' x V tA tB nA nB bA bB π → TrAt A S' nB 24 (vNow V) → Fr S S' nB (nB + 7) → f S') : Run (d + 1) 63 [.ref nB, .ref nA] A S (kV A f) := by
  obtain ⟨T, hT⟩ := h.2.2.2.2.2.2.2.2.2.1
  obtain ⟨d1, d2, d3, d4, d5⟩ := h.2.2.1
  exact ct_copyFrom hT h.now hv.2.1.1.2.2 (by omega) fun S' h1 h2 => hf S' (h.trN h2 h1) h1 h2
set_option maxRecDepth 20000 in
theorem ct_bookTrial {a r : Nat} {w last : Int32} {T : List Row} {f : Bool → qS → Prop} (h : XP A S x V tA tB nA nB bA bB π) (hT : TrAt A S a r T) (ha : x ≤ a ∧ a + 7 ≤ x + 41) (hv : vT T) (hf : ∀ S', XP A S' x V tA tB nA nB bA bB π → (shortT w last T = false → BN A S' bB w last T) → TrAt A S' a r T → Fr S S' bB (bB + 144) → f (!shortT w last T) S') : Run (d + 5) 1 [.ref bB, .ref a, .int w, .int last] A S (kZ A f) := by
  obtain ⟨d1, d2, d3, d4, d5⟩ := h.2.2.1
  exact ct_book h.tb hT hv (by omega) fun S' h1 h2 h3 => hf S' (h.trB h3 h1) h2 (hT.fr h3 (by omega)) h3
theorem TrAt.rule {a r t : Nat} {T : List Row} {v : Int32} (h : TrAt A S a r T) (ht : t < T.length) : TrAt A (uI S (a + 6) t v) a r (ruT T t v) := by
  obtain ⟨hL, ⟨q0, q1, q2, q3, q4, q5, q6⟩, hC, h1, h2⟩ := h
  refine ⟨hL, ⟨?_, q1, q2, q3, q4, q5, q6⟩, ⟨?_, fun i hi => ?_⟩, ?_, h2⟩
  · simp only [gI_uI, gL_uL, gR_uR, gI_uL, gI_uR, gL_uI, gL_uR, gR_uI, gR_uL, true_and, and_true, Nat.add_right_cancel_iff, Nat.add_left_cancel_iff, Nat.reduceEqDiff, Nat.left_eq_add, Nat.right_eq_add, Nat.add_eq_left, Nat.add_eq_right, Nat.reduceAdd, Nat.succ_ne_self, reduceCtorEq, false_and, and_false, if_false, if_true, ite_true, ite_false, ite_self, Nat.succ_ne_zero, Nat.add_one_ne_zero, not_false_eq_true, not_true_eq_false, Nat.one_ne_zero, Nat.zero_ne_one]; exact q0
  · unfold ruT; simp only [gI_uI, gL_uL, gR_uR, gI_uL, gI_uR, gL_uI, gL_uR, gR_uI, gR_uL, true_and, and_true, Nat.add_right_cancel_iff, Nat.add_left_cancel_iff, Nat.reduceEqDiff, Nat.left_eq_add, Nat.right_eq_add, Nat.add_eq_left, Nat.add_eq_right, Nat.reduceAdd, Nat.succ_ne_self, reduceCtorEq, false_and, and_false, if_false, if_true, ite_true, ite_false, ite_self, Nat.succ_ne_zero, Nat.add_one_ne_zero, not_false_eq_true, not_true_eq_false, Nat.one_ne_zero, Nat.zero_ne_one, List.length_set]; exact hC.1
  · unfold ruT at hi ⊢
    rw [List.length_set] at hi
    rw [tr_set ht]
    by_cases e : i = t
    · subst e
      simp only [gI_uI, gL_uL, gR_uR, gI_uL, gI_uR, gL_uI, gL_uR, gR_uI, gR_uL, true_and, and_true, Nat.add_right_cancel_iff, Nat.add_left_cancel_iff, Nat.reduceEqDiff, Nat.left_eq_add, Nat.right_eq_add, Nat.add_eq_left, Nat.add_eq_right, Nat.reduceAdd, Nat.succ_ne_self, reduceCtorEq, false_and, and_false, if_false, if_true, ite_true, ite_false, ite_self, Nat.succ_ne_zero, Nat.add_one_ne_zero, not_false_eq_true, not_true_eq_false, Nat.one_ne_zero, Nat.zero_ne_one, rwR]
      obtain ⟨g1, g2, g3, g4, g5, g6⟩ := hC.2 i hi
      exact ⟨g1, g2, g3, g4, g5⟩
    · simp only [gI_uI, gL_uL, gR_uR, gI_uL, gI_uR, gL_uI, gL_uR, gR_uI, gR_uL, true_and, and_true, Nat.add_right_cancel_iff, Nat.add_left_cancel_iff, Nat.reduceEqDiff, Nat.left_eq_add, Nat.right_eq_add, Nat.add_eq_left, Nat.add_eq_right, Nat.reduceAdd, Nat.succ_ne_self, reduceCtorEq, false_and, and_false, if_false, if_true, ite_true, ite_false, ite_self, Nat.succ_ne_zero, Nat.add_one_ne_zero, not_false_eq_true, not_true_eq_false, Nat.one_ne_zero, Nat.zero_ne_one, e]
      exact hC.2 i hi
  · unfold ruT; rw [List.length_set]; exact h1
theorem TrAt.day {a r t : Nat} {T : List Row} {v : Int32} (h : TrAt A S a r T) (ht : t < T.length) : TrAt A (uI S (a + 3) t v) a r (dyT T t v) := by
  obtain ⟨hL, ⟨q0, q1, q2, q3, q4, q5, q6⟩, hC, h1, h2⟩ := h
  refine ⟨hL, ⟨?_, q1, q2, q3, q4, q5, q6⟩, ⟨?_, fun i hi => ?_⟩, ?_, h2⟩
  · simp only [gI_uI, gL_uL, gR_uR, gI_uL, gI_uR, gL_uI, gL_uR, gR_uI, gR_uL, true_and, and_true, Nat.add_right_cancel_iff, Nat.add_left_cancel_iff, Nat.reduceEqDiff, Nat.left_eq_add, Nat.right_eq_add, Nat.add_eq_left, Nat.add_eq_right, Nat.reduceAdd, Nat.succ_ne_self, reduceCtorEq, false_and, and_false, if_false, if_true, ite_true, ite_false, ite_self, Nat.succ_ne_zero, Nat.add_one_ne_zero, not_false_eq_true, not_true_eq_false, Nat.one_ne_zero, Nat.zero_ne_one]; exact q0
  · unfold dyT; simp only [gI_uI, gL_uL, gR_uR, gI_uL, gI_uR, gL_uI, gL_uR, gR_uI, gR_uL, true_and, and_true, Nat.add_right_cancel_iff, Nat.add_left_cancel_iff, Nat.reduceEqDiff, Nat.left_eq_add, Nat.right_eq_add, Nat.add_eq_left, Nat.add_eq_right, Nat.reduceAdd, Nat.succ_ne_self, reduceCtorEq, false_and, and_false, if_false, if_true, ite_true, ite_false, ite_self, Nat.succ_ne_zero, Nat.add_one_ne_zero, not_false_eq_true, not_true_eq_false, Nat.one_ne_zero, Nat.zero_ne_one, List.length_set]; exact hC.1
  · unfold dyT at hi ⊢
    rw [List.length_set] at hi
    rw [tr_set ht]
    by_cases e : i = t
    · subst e
      simp only [gI_uI, gL_uL, gR_uR, gI_uL, gI_uR, gL_uI, gL_uR, gR_uI, gR_uL, true_and, and_true, Nat.add_right_cancel_iff, Nat.add_left_cancel_iff, Nat.reduceEqDiff, Nat.left_eq_add, Nat.right_eq_add, Nat.add_eq_left, Nat.add_eq_right, Nat.reduceAdd, Nat.succ_ne_self, reduceCtorEq, false_and, and_false, if_false, if_true, ite_true, ite_false, ite_self, Nat.succ_ne_zero, Nat.add_one_ne_zero, not_false_eq_true, not_true_eq_false, Nat.one_ne_zero, Nat.zero_ne_one, rwD]
      obtain ⟨g1, g2, g3, g4, g5, g6⟩ := hC.2 i hi
      exact ⟨g1, g2, g4, g5, g6⟩
    · simp only [gI_uI, gL_uL, gR_uR, gI_uL, gI_uR, gL_uI, gL_uR, gR_uI, gR_uL, true_and, and_true, Nat.add_right_cancel_iff, Nat.add_left_cancel_iff, Nat.reduceEqDiff, Nat.left_eq_add, Nat.right_eq_add, Nat.add_eq_left, Nat.add_eq_right, Nat.reduceAdd, Nat.succ_ne_self, reduceCtorEq, false_and, and_false, if_false, if_true, ite_true, ite_false, ite_self, Nat.succ_ne_zero, Nat.add_one_ne_zero, not_false_eq_true, not_true_eq_false, Nat.one_ne_zero, Nat.zero_ne_one, e]
      exact hC.2 i hi
  · unfold dyT; rw [List.length_set]; exact h1
set_option maxRecDepth 20000 in
theorem ct_trialGains {w : Int32} {T : List Row} {f : Int64 → qS → Prop} (h : XP A S x V tA tB nA nB bA bB π) (hT : TrAt A S nB 24 T) (hv : vT T) (hf : ∀ S', XAt A S' x (setT V (if shortT w 999 T then 5 else 0)) → Fr S S' x (x + 467) → f (if shortT w 999 T then 0 else smA pGain w 999 T) S') : Run (d + 6) 98 [.ref x, .int w] A S (kL A f) := by
  refine Run.i (C := mX9_trialGains) rfl rfl rfl fun J hJ => ?_
  have hk := h.1.1
  obtain ⟨d1, d2, d3, d4, d5⟩ := h.2.2.1
  refine sX9_trialGains_0 hJ ⟨hk, bB, h.r9, hk, nB, h.r7, h.tb.k, wc rfl, ct_bookTrial h hT (by omega) hv fun S1 h1 h2 h3 f1 => ?_⟩
  cases c : shortT w 999 T
  · rw [c] at hf h2
    refine ⟨fun _ => ⟨hk, fun T e => ?_⟩, fun z => absurd z (by decide)⟩
    subst e
    have h5 := h1.set (t := 0) (by decide)
    have hb : BN A (uI S1 x 14 0) bB w 999 _ := (h2 rfl).cel (fun b b1 b2 k => ⟨by rw [gI_uI, if_neg (by omega)], rfl, rfl⟩) (lo := x) (hi := x + 467) fr14
    exact ⟨hk, bB, h5.r9, h5.tb.k, wc rfl, ct_allGainsT hb (kL_i (hf _ h5.at ((h.frB f1).trans fr14)))⟩
  · rw [c] at hf
    refine ⟨fun z => absurd rfl z, fun _ => ⟨hk, wc rfl, ct_refuse h1 (by decide) fun S2 h6 f6 => kL_i (hf S2 h6.at ((h.frB f1).trans f6))⟩⟩
set_option maxRecDepth 20000 in
theorem ct_byRule {t r : Int32} {f : Int64 → qS → Prop} (h : XAt A S x V) (hv : vOk V) (hf : ∀ S', XAt A S' x (setT V (aByRule V t r).1) → Fr S S' x (x + 467) → f (aByRule V t r).2 S') : Run (d + 10) 95 [.ref x, .int t, .int r] A S (kL A f) := by
  refine Run.i (C := mX9_byRule) rfl rfl rfl fun J hJ => ?_
  obtain ⟨tA, tB, nA, nB, bA, bB, π, h⟩ := h
  have hk := h.1.1
  have hl := hv.2.1.1.2.2
  obtain ⟨d1, d2, d3, d4, d5⟩ := h.2.2.1
  unfold aByRule at hf
  refine sX9_byRule_0 hJ ⟨hk, nA, h.r6, h.now.1.1, wc rfl, ct_isSell h.now (And.symm (q_eqb (fun c => ⟨hk, wc rfl, ct_refuse h (by decide) fun S1 h1 f1 => kL_i ?_⟩) (fun c => ⟨wc rfl, ct_isWithin (And.symm (q_eqb (fun c1 => ⟨hk, wc rfl, ct_refuse h (by decide) fun S1 h1 f1 => kL_i ?_⟩) (fun c1 => ?_)))⟩)))⟩
  · rw [c] at hf; exact hf S1 h1.at f1
  · rw [c, c1] at hf; exact hf S1 h1.at f1
  · obtain ⟨q, hq, rfl, hs⟩ := isSellT_i (by omega) c
    obtain ⟨u, hu, rfl⟩ := inB_i (n := 3) (by omega) rfl c1
    rw [c, c1, pN, cl_n (by omega)] at hf
    refine ⟨hk, nB, h.r7, hk, nA, h.r6, h.nk, wc rfl, ct_copyNow h hv fun S1 h1 t1 f1 => ⟨hk, nB, h1.r7, h1.nk, nB + 6, t1.2.1.2.2.2.2.2.2, 24, t1.1.2.2.2.2.2.2, vp_n (by omega) (by omega), fun T e => ?_⟩⟩
    rw [cl_n (by omega)] at e
    have t2 := t1.rule (v := nI u) hq
    rw [← e] at t2
    have f2 : Fr S1 T nB (nB + 7) := by rw [e]; exact Fr.rf.uI (by omega) (by omega)
    have h2 := h1.trN f2 t2
    refine ⟨hk, tA, h2.r4, h2.td.1.1, hk, wc rfl, ?_⟩
    rw [h2.tw]
    refine ct_trialGains h2 t2 (vT_ru hv.2.1.1 hq hs hu) fun S3 h3 f3 => kL_i ?_
    have fr := ((h.frN f1).trans (h1.frN f2)).trans f3
    cases c5 : shortT (lw (vLed V)) 999 (ruT (vNow V) q (nI u))
    · rw [c5] at hf h3; exact hf S3 h3 fr
    · rw [c5] at hf h3; exact hf S3 h3 fr
set_option maxRecDepth 20000 in
theorem ct_byWindow {w : Int32} {f : Int64 → qS → Prop} (h : XAt A S x V) (hv : vOk V) (hf : ∀ S', XAt A S' x (setT V (aByWin V w).1) → Fr S S' x (x + 467) → f (aByWin V w).2 S') : Run (d + 10) 97 [.ref x, .int w] A S (kL A f) := by
  refine Run.i (C := mX9_byWindow) rfl rfl rfl fun J hJ => ?_
  obtain ⟨tA, tB, nA, nB, bA, bB, π, h⟩ := h
  have hk := h.1.1
  have hl := hv.2.1.1.2.2
  unfold aByWin at hf
  refine sX9_byWindow_0 hJ ⟨hk, ?_⟩
  rw [h.2.2.2.1.2.2.1]
  refine And.symm (q_eqb (fun c => ⟨hk, wc rfl, ct_refuse h (by decide) fun S1 h1 f1 => kL_i ?_⟩) (fun c => ⟨wc rfl, ct_isWithin (And.symm (q_eqb (fun c1 => ⟨hk, wc rfl, ct_refuse h (by decide) fun S1 h1 f1 => kL_i ?_⟩) (fun c1 => ?_)))⟩))
  · rw [c] at hf; exact hf S1 h1.at f1
  · rw [c, c1] at hf; exact hf S1 h1.at f1
  · rw [c, c1] at hf
    refine ⟨hk, nB, h.r7, hk, nA, h.r6, h.nk, wc rfl, ct_copyNow h hv fun S1 h1 t1 f1 => ⟨hk, wc rfl, ct_trialGains h1 t1 hv.2.1.1 fun S3 h3 f3 => kL_i ?_⟩⟩
    have fr := (h.frN f1).trans f3
    cases c5 : shortT w 999 (vNow V)
    · rw [c5] at hf h3; exact hf S3 h3 fr
    · rw [c5] at hf h3; exact hf S3 h3 fr
end
