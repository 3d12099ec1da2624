/-! Book.replace -/
theorem LoC.set {S S' : qS} {a i : Nat} {π : Nat → Nat} {L : List Lot} {x : Lot} (h : LoC S a π L) (hi : i < L.length) (hs : ∀ b, a ≤ b → b < a + 42 → b ≠ a + 2 + π i → ∀ k, gI S' b k = gI S b k ∧ gL S' b k = gL S b k ∧ gR S' b k = gR S b k) (hx : lotIs S' (a + 2 + π i) x) : LoC S' a π (L.set i x) := by
  obtain ⟨h1, h2, h3, ⟨h4, h5⟩, h6⟩ := h
  refine ⟨((hs a (by omega) (by omega) (by omega) 0).2.2).trans h1, ?_, by rw [List.length_set]; exact h3, ⟨fun j hj => ⟨(h4 j hj).1, ((hs (a + 1) (by omega) (by omega) (by omega) j).2.2).trans (h4 j hj).2⟩, h5⟩, fun j hj => ?_⟩
  · rw [List.length_set]; exact ((hs a (by omega) (by omega) (by omega) 1).1).trans h2
  · rw [List.length_set] at hj
    rw [lt_set hi]
    by_cases e : j = i
    · subst e; rw [if_pos rfl]; exact hx
    · rw [if_neg e]
      have hne : π j ≠ π i := fun z => e (h5 j i (by omega) (by omega) z)
      have pj := (h4 j (by omega)).1
      have e := hs (a + 2 + π j) (by omega) (by omega) (by omega)
      obtain ⟨z0, z1, z2, z3, z4, z5⟩ := h6 j hj
      exact ⟨(e _).1.trans z0, (e _).2.1.trans z1, (e _).1.trans z2, (e _).1.trans z3, (e _).1.trans z4, (e _).1.trans z5⟩
theorem LoC.same {S S' : qS} {a : Nat} {π : Nat → Nat} {L : List Lot} (h : LoC S a π L) (hs : ∀ b, a ≤ b → b < a + 42 → ∀ k, gI S' b k = gI S b k ∧ gL S' b k = gL S b k ∧ gR S' b k = gR S b k) : LoC S' a π L := by
  obtain ⟨h1, h2, h3, ⟨h4, h5⟩, h6⟩ := h
  refine ⟨((hs a (by omega) (by omega) 0).2.2).trans h1, ((hs a (by omega) (by omega) 1).1).trans h2, h3, ⟨fun j hj => ⟨(h4 j hj).1, ((hs (a + 1) (by omega) (by omega) j).2.2).trans (h4 j hj).2⟩, h5⟩, fun j hj => ?_⟩
  have pj := (h4 j (by omega)).1
  have e := hs (a + 2 + π j) (by omega) (by omega)
  obtain ⟨z0, z1, z2, z3, z4, z5⟩ := h6 j hj
  exact ⟨(e _).1.trans z0, (e _).2.1.trans z1, (e _).1.trans z2, (e _).1.trans z3, (e _).1.trans z4, (e _).1.trans z5⟩
theorem pt_sets {G : List CPie} {k : Nat} (h : k < G.length) : G.set k (pt G k) = G := by
  refine pt_ext (by simp) fun i hi => ?_
  rw [pt_set h]
  split
  · rename_i e; rw [e]
  · rfl
theorem upH_s {H : Nat → List Lot} {p : Nat} : upH H p (H p) = H := by
  funext q
  unfold upH
  split
  · rename_i e; rw [e]
  · rfl
theorem partIf_len {L : List Lot} {t : Nat} {sh : Int32} (h : t < L.length) : t < (partIf L t sh).length ∧ (partIf L t sh).length ≤ L.length + 1 := by
  unfold partIf
  split
  · rw [partL_len h]; omega
  · omega
section
variable {d : Nat} {A : qA} {S : qS} {B : Nat} {H : Nat → List Lot} {G : List CPie} {O : List Nat} {z : Int64} {E : BkE}
set_option maxRecDepth 20000 in
set_option maxHeartbeats 4000000 in
theorem ct_replace {k pa i : Nat} {f : qS → Prop} (h : BkAt A S B H G O z E) (hk : k < G.length) (hp : pa < 3) (hi : i < (H pa).length) (hn : (H pa).length < 40) (hf : ∀ S', BkAt A S' B (upH H pa (repL (pt G k).2 (H pa) i).2) (G.set k ((pt G k).1, (repL (pt G k).2 (H pa) i).1)) O z E → Fr S S' B (B + 144) → f S') : Run (d + 2) 7 [.ref B, .int (nI k), .ref (B + 18 + 42 * pa), .int (nI i)] A S (kV A f) := by
  refine Run.i (C := mX0_replace) rfl rfl rfl fun J hJ => ?_
  have h0 := h
  obtain ⟨⟨l0, l1, l13, l14, l15, l16, l17⟩, hR, hG, hH, ⟨o1, o2, o3⟩, ⟨x1, x2, x3, x4, x5, x6⟩, hO⟩ := h
  have hR' := hR
  obtain ⟨q0, q1, q2, q3, q4, q5, q6, q7⟩ := hR
  have hG' := hG
  obtain ⟨⟨m0, m1, m2, m3, m4, m5, m6, m7, m8, m9, m10⟩, ⟨g0, g1, g2, g3, g4, g5, g6, g7, g8, g9⟩, hC, g10⟩ := hG
  refine sX0_replace_0 hJ ?_
  obtain ⟨y0, y1, y2, y3, y4, y5, y6, y7, y8, y9⟩ := hC.2 k hk
  have ll := (hH pa hp).1.1
  have vk := vp_n (show k < 666 by omega) (show 666 ≤ 100000 by omega)
  simp only [l0, q1, m0, g7, m8, cl_n (show k ≤ 100000 by omega), vk, y7, ll, Option.some.injEq, Prod.mk.injEq, exists_eq_left', exists_eq_left, true_and, and_true, and_self, true_or, or_true, forall_const, exists_const, exists_and_left, wcat, Nat.zero_le, Nat.reduceLeDiff, Int32.lt_irrefl, not_false_eq_true, Nat.zero_add, forall_eq]
  refine ⟨fun c => ct_part (hH pa hp) hi hn fun S1 hL hr => ?_, fun c => kV_i (hf S ?_ Fr.rf)⟩
  · have hL' := hL
    obtain ⟨⟨n0, n1, n2⟩, π, hLC⟩ := hL
    have hLC' := hLC
    obtain ⟨w1, w2, w3, ⟨w4, w5⟩, w6⟩ := hLC
    have pl := partIf_len (sh := pLeft (pt G k).2) hi
    obtain ⟨wl, wr⟩ := w4 i (by omega)
    obtain ⟨z0, z1, z2, z3, z4, z5⟩ := w6 i pl.1
    have fI : ∀ b, b < B + 18 → ∀ k, gI S1 b k = gI S b k := fun b hb k => (hr b (by omega) k).1
    have fL : ∀ b, b < B + 18 → ∀ k, gL S1 b k = gL S b k := fun b hb k => (hr b (by omega) k).2.1
    have fR : ∀ b, b < B + 18 → ∀ k, gR S1 b k = gR S b k := fun b hb k => (hr b (by omega) k).2.2
    have nz : ¬ ((pt G k).2.2.2.2.2.2.2.1).toInt64 = 0 := i64_0 (fun e => by rw [e] at c; exact absurd c (by decide))
    have o10 : ((1 : Int32) = 0) = False := by decide
    have r1 := fun j => fR B (by omega) j
    have r2 := fun j => fR (B + 2) (by omega) j
    have i8 := fun j => fI (B + 2 + 8) (by omega) j
    have i4 := fun j => fI (B + 2 + 4) (by omega) j
    have i9 := fun j => fL (B + 2 + 9) (by omega) j
    have i10 := fun j => fL (B + 2 + 10) (by omega) j
    have ql : B + 18 + 42 * pa + 2 ≤ B + 18 + 42 * pa + 2 + π i := by omega
    have qu : B + 18 + 42 * pa + 2 + π i < B + 18 + 42 * pa + 42 := by omega
    have qk := n2 _ wl
    generalize hq : B + 18 + 42 * pa + 2 + π i = q at wr z0 z1 z2 z3 z4 z5 ql qu qk
    have e4 : (B + 2 + 4 = q) = False := by simp only [eq_iff_iff, iff_false]; omega
    have e8 : (B + 2 + 8 = q) = False := by simp only [eq_iff_iff, iff_false]; omega
    have e9 : (B + 2 + 9 = q) = False := by simp only [eq_iff_iff, iff_false]; omega
    have e10 : (B + 2 + 10 = q) = False := by simp only [eq_iff_iff, iff_false]; omega
    have e4' : (q = B + 2 + 4) = False := by simp only [eq_iff_iff, iff_false]; omega
    have e8' : (q = B + 2 + 8) = False := by simp only [eq_iff_iff, iff_false]; omega
    have e9' : (q = B + 2 + 9) = False := by simp only [eq_iff_iff, iff_false]; omega
    have e10' : (q = B + 2 + 10) = False := by simp only [eq_iff_iff, iff_false]; omega
    simp only [w1, n1, qk, wr, cl_n (show i ≤ 100000 by omega), cl_n (show k ≤ 100000 by omega), vp_n (show i < 40 by omega) (show 40 ≤ 100000 by omega), vk, r1, r2, i4, i8, i9, i10, q1, m0, g3, g7, g8, g9, m4, m8, m9, m10, y3, y7, y8, y9, z0, z1, z5, nz, o10, e4, e8, e9, e10, e4', e8', e9', e10', Option.some.injEq, Prod.mk.injEq, exists_eq_left', exists_eq_left, true_and, and_true, and_self, true_or, or_true, forall_const, exists_const, exists_and_left, wcat, Nat.zero_le, Nat.reduceLeDiff, Int32.lt_irrefl, not_false_eq_true, Nat.zero_add, forall_eq, gI_uI, gL_uL, gR_uR, gI_uL, gI_uR, gL_uI, gL_uR, gR_uI, gR_uL, true_and, and_true, Nat.add_right_cancel_iff, Nat.add_left_cancel_iff, Nat.reduceEqDiff, Nat.left_eq_add, Nat.right_eq_add, Nat.add_eq_left, Nat.add_eq_right, Nat.reduceAdd, Nat.succ_ne_self, reduceCtorEq, false_and, and_false, if_false, if_true, ite_true, ite_false, ite_self, Nat.succ_ne_zero, Nat.add_one_ne_zero, not_false_eq_true, not_true_eq_false, Nat.one_ne_zero, Nat.zero_ne_one]
    have hL1 : repL (pt G k).2 (H pa) i = (repP (pt G k).2 (lt (partIf (H pa) i (pLeft (pt G k).2)) i), (partIf (H pa) i (pLeft (pt G k).2)).set i (repO (pt G k).2 (lt (partIf (H pa) i (pLeft (pt G k).2)) i))) := by rw [repL, if_pos (show 0 < pLeft (pt G k).2 from c)]
    rw [hL1] at hf
    generalize hl : lt (partIf (H pa) i (pLeft (pt G k).2)) i = l at hf
    have hl' : lt (partIf (H pa) i (pt G k).2.2.2.2.2.2.2.1) i = l := hl
    simp only [hl'] at z0 z1 z2 z3 z4 z5 ⊢
    change kV A f none A (uI (uL (uL (uI (uI (uL S1 q 1 (repO (pt G k).2 l).2.1) q 4 1) q 5 (repO (pt G k).2 l).2.2.2.2.2) (B + 2 + 10) k (repP (pt G k).2 l).2.2.2.2.2.2.2.2) (B + 2 + 9) k (repP (pt G k).2 l).2.2.2.2.2.2.2.1) (B + 2 + 8) k (repP (pt G k).2 l).2.2.2.2.2.2.1)
    have u : ∀ b, ¬ b = q → ¬ b = B + 2 + 8 → ¬ b = B + 2 + 9 → ¬ b = B + 2 + 10 → ∀ j, gI (uI (uL (uL (uI (uI (uL S1 q 1 (repO (pt G k).2 l).2.1) q 4 1) q 5 (repO (pt G k).2 l).2.2.2.2.2) (B + 2 + 10) k (repP (pt G k).2 l).2.2.2.2.2.2.2.2) (B + 2 + 9) k (repP (pt G k).2 l).2.2.2.2.2.2.2.1) (B + 2 + 8) k (repP (pt G k).2 l).2.2.2.2.2.2.1) b j = gI S1 b j ∧ gL (uI (uL (uL (uI (uI (uL S1 q 1 (repO (pt G k).2 l).2.1) q 4 1) q 5 (repO (pt G k).2 l).2.2.2.2.2) (B + 2 + 10) k (repP (pt G k).2 l).2.2.2.2.2.2.2.2) (B + 2 + 9) k (repP (pt G k).2 l).2.2.2.2.2.2.2.1) (B + 2 + 8) k (repP (pt G k).2 l).2.2.2.2.2.2.1) b j = gL S1 b j ∧ gR (uI (uL (uL (uI (uI (uL S1 q 1 (repO (pt G k).2 l).2.1) q 4 1) q 5 (repO (pt G k).2 l).2.2.2.2.2) (B + 2 + 10) k (repP (pt G k).2 l).2.2.2.2.2.2.2.2) (B + 2 + 9) k (repP (pt G k).2 l).2.2.2.2.2.2.2.1) (B + 2 + 8) k (repP (pt G k).2 l).2.2.2.2.2.2.1) b j = gR S1 b j := by
      intro b c1 c2 c3 c4 j
      simp only [gI_uI, gL_uL, gR_uR, gI_uL, gI_uR, gL_uI, gL_uR, gR_uI, gR_uL, true_and, and_true, Nat.add_right_cancel_iff, Nat.add_left_cancel_iff, Nat.reduceEqDiff, Nat.left_eq_add, Nat.right_eq_add, Nat.add_eq_left, Nat.add_eq_right, Nat.reduceAdd, Nat.succ_ne_self, reduceCtorEq, false_and, and_false, if_false, if_true, ite_true, ite_false, ite_self, Nat.succ_ne_zero, Nat.add_one_ne_zero, not_false_eq_true, not_true_eq_false, Nat.one_ne_zero, Nat.zero_ne_one, c1, c2, c3, c4, and_self]
    have hx : lotIs (uI (uL (uL (uI (uI (uL S1 q 1 (repO (pt G k).2 l).2.1) q 4 1) q 5 (repO (pt G k).2 l).2.2.2.2.2) (B + 2 + 10) k (repP (pt G k).2 l).2.2.2.2.2.2.2.2) (B + 2 + 9) k (repP (pt G k).2 l).2.2.2.2.2.2.2.1) (B + 2 + 8) k (repP (pt G k).2 l).2.2.2.2.2.2.1) q (repO (pt G k).2 l) := by
      refine ⟨?_, ?_, ?_, ?_, ?_, ?_⟩
      all_goals simp only [gI_uI, gL_uL, gR_uR, gI_uL, gI_uR, gL_uI, gL_uR, gR_uI, gR_uL, true_and, and_true, Nat.add_right_cancel_iff, Nat.add_left_cancel_iff, Nat.reduceEqDiff, Nat.left_eq_add, Nat.right_eq_add, Nat.add_eq_left, Nat.add_eq_right, Nat.reduceAdd, Nat.succ_ne_self, reduceCtorEq, false_and, and_false, if_false, if_true, ite_true, ite_false, ite_self, Nat.succ_ne_zero, Nat.add_one_ne_zero, not_false_eq_true, not_true_eq_false, Nat.one_ne_zero, Nat.zero_ne_one, e8', e9', e10']
      · exact z0
      · exact z2
      · exact z3
      · rfl
    have hg : PiC (uI (uL (uL (uI (uI (uL S1 q 1 (repO (pt G k).2 l).2.1) q 4 1) q 5 (repO (pt G k).2 l).2.2.2.2.2) (B + 2 + 10) k (repP (pt G k).2 l).2.2.2.2.2.2.2.2) (B + 2 + 9) k (repP (pt G k).2 l).2.2.2.2.2.2.2.1) (B + 2 + 8) k (repP (pt G k).2 l).2.2.2.2.2.2.1) (B + 2) (G.set k ((pt G k).1, repP (pt G k).2 l)) := by
      refine ⟨?_, fun j hj => ?_⟩
      · rw [List.length_set, (u (B + 2) (by omega) (by omega) (by omega) (by omega) 10).1, fI _ (by omega)]
        exact hC.1
      · rw [List.length_set] at hj
        rw [pt_set hk]
        rw [(u (B + 2 + 1) (by omega) (by omega) (by omega) (by omega) j).1, (u (B + 2 + 2) (by omega) (by omega) (by omega) (by omega) j).1, (u (B + 2 + 3) (by omega) (by omega) (by omega) (by omega) j).1, (u (B + 2 + 4) (by omega) (by omega) (by omega) (by omega) j).1, (u (B + 2 + 5) (by omega) (by omega) (by omega) (by omega) j).1, (u (B + 2 + 6) (by omega) (by omega) (by omega) (by omega) j).2.1, (u (B + 2 + 7) (by omega) (by omega) (by omega) (by omega) j).2.1, fI (B + 2 + 1) (by omega), fI (B + 2 + 2) (by omega), fI (B + 2 + 3) (by omega), fI (B + 2 + 4) (by omega), fI (B + 2 + 5) (by omega), fL (B + 2 + 6) (by omega), fL (B + 2 + 7) (by omega)]
        by_cases ej : j = k
        · subst ej
          simp only [gI_uI, gL_uL, gR_uR, gI_uL, gI_uR, gL_uI, gL_uR, gR_uI, gR_uL, true_and, and_true, Nat.add_right_cancel_iff, Nat.add_left_cancel_iff, Nat.reduceEqDiff, Nat.left_eq_add, Nat.right_eq_add, Nat.add_eq_left, Nat.add_eq_right, Nat.reduceAdd, Nat.succ_ne_self, reduceCtorEq, false_and, and_false, if_false, if_true, ite_true, ite_false, ite_self, Nat.succ_ne_zero, Nat.add_one_ne_zero, not_false_eq_true, not_true_eq_false, Nat.one_ne_zero, Nat.zero_ne_one, e8, e9, e10]
          exact ⟨y0, y1, y2, y3, y4, y5, y6⟩
        · simp only [gI_uI, gL_uL, gR_uR, gI_uL, gI_uR, gL_uI, gL_uR, gR_uI, gR_uL, true_and, and_true, Nat.add_right_cancel_iff, Nat.add_left_cancel_iff, Nat.reduceEqDiff, Nat.left_eq_add, Nat.right_eq_add, Nat.add_eq_left, Nat.add_eq_right, Nat.reduceAdd, Nat.succ_ne_self, reduceCtorEq, false_and, and_false, if_false, if_true, ite_true, ite_false, ite_self, Nat.succ_ne_zero, Nat.add_one_ne_zero, not_false_eq_true, not_true_eq_false, Nat.one_ne_zero, Nat.zero_ne_one, e8, e9, e10, ej, i8, i9, i10]
          exact hC.2 j hj
    have hF : Fr S (uI (uL (uL (uI (uI (uL S1 q 1 (repO (pt G k).2 l).2.1) q 4 1) q 5 (repO (pt G k).2 l).2.2.2.2.2) (B + 2 + 10) k (repP (pt G k).2 l).2.2.2.2.2.2.2.2) (B + 2 + 9) k (repP (pt G k).2 l).2.2.2.2.2.2.2.1) (B + 2 + 8) k (repP (pt G k).2 l).2.2.2.2.2.2.1) B (B + 144) := ((((((hr.wide (by omega) (by omega)).uL (by omega) (by omega)).uI (by omega) (by omega)).uI (by omega) (by omega)).uL (by omega) (by omega)).uL (by omega) (by omega)).uI (by omega) (by omega)
    refine kV_i (hf _ ?_ hF)
    generalize uI (uL (uL (uI (uI (uL S1 q 1 (repO (pt G k).2 l).2.1) q 4 1) q 5 (repO (pt G k).2 l).2.2.2.2.2) (B + 2 + 10) k (repP (pt G k).2 l).2.2.2.2.2.2.2.2) (B + 2 + 9) k (repP (pt G k).2 l).2.2.2.2.2.2.2.1) (B + 2 + 8) k (repP (pt G k).2 l).2.2.2.2.2.2.1 = Sf at u hx hg
    have v : ∀ b, ¬ b = q → ¬ b = B + 2 + 8 → ¬ b = B + 2 + 9 → ¬ b = B + 2 + 10 → (b < B + 18 + 42 * pa ∨ B + 18 + 42 * pa + 42 ≤ b) → ∀ j, gI Sf b j = gI S b j ∧ gL Sf b j = gL S b j ∧ gR Sf b j = gR S b j := fun b c1 c2 c3 c4 c5 j => ⟨(u b c1 c2 c3 c4 j).1.trans (hr b c5 j).1, (u b c1 c2 c3 c4 j).2.1.trans (hr b c5 j).2.1, (u b c1 c2 c3 c4 j).2.2.trans (hr b c5 j).2.2⟩
    refine ⟨⟨l0, l1, l13, l14, l15, l16, l17⟩, hR'.fr (fun j => (v B (by omega) (by omega) (by omega) (by omega) (by omega) j).2.2) (fun j => (v (B + 1) (by omega) (by omega) (by omega) (by omega) (by omega) j).2.2), ⟨hG'.1, ?_, hg, by rw [List.length_set]; exact g10⟩, fun p' hp' => ?_, ⟨(v B (by omega) (by omega) (by omega) (by omega) (by omega) 7).1.trans o1, o2, fun j hj => (v (B + 17) (by omega) (by omega) (by omega) (by omega) (by omega) j).1.trans (o3 j hj)⟩, ⟨(v B (by omega) (by omega) (by omega) (by omega) (by omega) 8).2.1.trans x1, (v B (by omega) (by omega) (by omega) (by omega) (by omega) 9).1.trans x2, fun t ht => (v (B + 13) (by omega) (by omega) (by omega) (by omega) (by omega) t).1.trans (x3 t ht), fun t ht => (v (B + 14) (by omega) (by omega) (by omega) (by omega) (by omega) t).1.trans (x4 t ht), fun t ht => (v (B + 15) (by omega) (by omega) (by omega) (by omega) (by omega) t).1.trans (x5 t ht), fun t ht => (v (B + 16) (by omega) (by omega) (by omega) (by omega) (by omega) t).1.trans (x6 t ht)⟩, fun j hj => by rw [List.length_set]; exact hO j hj⟩
    · have er : ∀ j, gR Sf (B + 2) j = gR S (B + 2) j := fun j => (v (B + 2) (by omega) (by omega) (by omega) (by omega) (by omega) j).2.2
      exact ⟨(er _).trans g0, (er _).trans g1, (er _).trans g2, (er _).trans g3, (er _).trans g4, (er _).trans g5, (er _).trans g6, (er _).trans g7, (er _).trans g8, (er _).trans g9⟩
    · by_cases ep : p' = pa
      · subst ep
        simp only [upH, if_true]
        refine ⟨⟨n0, n1, n2⟩, π, LoC.set hLC' pl.1 (fun b b1 b2 b3 j => u b (by omega) (by omega) (by omega) (by omega) j) ?_⟩
        rw [hq]
        exact hx
      · simp only [upH, if_neg ep]
        obtain ⟨tL, tπ, tC⟩ := hH p' hp'
        exact ⟨tL, tπ, tC.same fun b b1 b2 j => v b (by omega) (by omega) (by omega) (by omega) (by omega) j⟩
  · have c' : ¬ 0 < pLeft (pt G k).2 := c
    rw [repL, if_neg c']
    simp only [upH_s]
    rw [show ((pt G k).1, (pt G k).2) = pt G k from rfl, pt_sets hk]
    exact h0
end
