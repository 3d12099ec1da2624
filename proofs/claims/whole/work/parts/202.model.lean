/-! the reference: replaces, replacedByElder -/
theorem uI_same {S : qS} {a k : Nat} {v : Int32} (h : gI S a k = v) : uI S a k v = S := by
  refine qS_ext (fun b j => ?_) (fun b j => rfl) (fun b j => rfl)
  rw [gI_uI]
  split
  · rename_i e; rw [e.1, e.2, h]
  · rfl
theorem partIf_min {i x s : Nat} {L : List Lot} (hs : (lt L i).1 = nI s) (hx : x ≤ 1000000000) (hsb : s ≤ 1000000000) : partIf L i (nI (min x s)) = partIf L i (nI x) := by
  by_cases c : x < s
  · rw [Nat.min_eq_left (by omega)]
  · unfold partIf
    rw [Nat.min_eq_right (by omega), hs, if_neg (fun z => by have := (nIltB hsb hsb).mp z.2; omega), if_neg (fun z => c ((nIltB hx hsb).mp z.2))]
/-- lots and pieces change, no row of first pieces -/
def Fq (S S' : qS) (m : Nat) : Prop := Fm S S' m 8 26 41 41 ∧ ∀ j, gI S' (m + 15) j = gI S (m + 15) j ∧ gI S' (m + 16) j = gI S (m + 16) j
theorem Fq.rf {S : qS} {m : Nat} : Fq S S m := ⟨Fm.rf, fun _ => ⟨rfl, rfl⟩⟩
theorem Fq.trans {S S' S'' : qS} {m : Nat} (h : Fq S S' m) (h' : Fq S' S'' m) : Fq S S'' m := ⟨h.1.trans h'.1, fun j => ⟨(h'.2 j).1.trans (h.2 j).1, (h'.2 j).2.trans (h.2 j).2⟩⟩
theorem Fm.q {S S' : qS} {m : Nat} (h : Fm S S' m 8 15 41 41) : Fq S S' m := ⟨h.wide (by omega), fun j => ⟨(h.1 (m + 15) (by omega) j (by omega)).1, (h.1 (m + 16) (by omega) j (by omega)).1⟩⟩
section
variable {d : Nat} {A : qA} {S : qS} {m : Nat} {H : Nat → List Lot}
set_option maxRecDepth 20000 in
set_option maxHeartbeats 4000000 in
theorem cm_replaces {p i k base b c : Nat} {P : List Pie} {f : qS → Prop} (h : mI A S m) (hH : MH S m H) (hp : p < 3) (hi : i < (H p).length) (hn : (H p).length < 40) (hP : MPie S m base P) (hk : k < P.length) (hb : b ≤ mxN) (hc : c ≤ mxN) (hokL : ∀ l, l ∈ H p → okL b (c + 1) l) (hokP : okP b c (pp P k)) (ho : ¬ pLeft (pp P k) ≤ 0) (hf : ∀ S', MH S' m (upH H p (repL (pp P k) (H p) i).2) → MPie S' m base (P.set k (repL (pp P k) (H p) i).1) → Fq S S' m → f S') : Run (d + 3) 190 [.ref m, .int (nI p), .int (nI (p * 40 + i)), .int (nI (base + k))] A S (kV A f) := by
  refine Run.i (C := mX11_replaces) rfl rfl rfl fun J hJ => ?_
  have hI := h
  obtain ⟨hm, hl, hrow⟩ := hH p hp
  obtain ⟨p1, p2, p3⟩ := hP
  obtain ⟨⟨x, x1, x2⟩, ch, ch1, ch2⟩ := hokP
  have hcl := (hokL _ (lt_mem hi)).cl hb
  have hb' := hb
  unfold mxN at hb hc
  generalize hs : (lt (H p) i).1.toNatClampNeg = s at hcl
  have x0 : 1 ≤ x := by
    rcases Nat.eq_zero_or_pos x with e | e
    · rw [x2, e] at ho; exact absurd (by decide) ho
    · exact e
  obtain ⟨⟨k0, k1, k2, k3, k4, k5, k6, k7, k8, k9, k10, k11, k12, k13, k14, k15, k16, k17, k18, k19, k20, k21, k22, k23, k24, k25, k26⟩, ⟨r5, r15, r16, r17, r18, r21, r22, r23, r24, r25, r26, r27, r28, r29, r30, r31, r32, r33, r34, r35, r36, r37, r38, r39, r40, r48⟩⟩ := h
  refine sX11_replaces_0 hJ ?_
  have vi := vp_n (show p * 40 + i < 120 by omega) (show 120 ≤ 100000 by omega)
  have vk := vp_n (show base + k < 640 by omega) (show 640 ≤ 100000 by omega)
  have ei := cl_n (show p * 40 + i ≤ 100000 by omega)
  have ek := cl_n (show base + k ≤ 100000 by omega)
  have hleft : gI S (m + 21) (base + k) = nI x := (p3 k hk).2.2.2.2.2.2.1.trans x2
  have hsh : gI S (m + 9) (p * 40 + i) = nI s := (hrow i hi).1.trans hcl.1
  have hpm := partIf_min (L := H p) (i := i) (x := x) hcl.1 (by omega) (by omega)
  have hown := partIf_sh hb' hi hokL hcl.1 hcl.2.2 x0 (show x ≤ 1000000000 by omega)
  have hr : repL (pp P k) (H p) i = (repP (pp P k) (lt (partIf (H p) i (nI x)) i), (partIf (H p) i (nI x)).set i (repO (pp P k) (lt (partIf (H p) i (nI x)) i))) := by
    rw [repL, if_pos (Int32.not_le.mp ho), x2]
  rw [hr] at hf
  have okown := partIf_ok (sh := nI x) hb' hi hokL
  have plen := partIf_len (sh := nI x) hi
  generalize hL1 : partIf (H p) i (nI x) = L1 at hf hown okown plen hpm
  obtain ⟨-, c', c1', c2'⟩ := okown _ (lt_mem plen.1)
  generalize hO : lt L1 i = own at hf hown c2'
  have post : ∀ S1, MH S1 m (upH H p L1) → Fm S S1 m 8 15 41 41 → f (uI (uL (uL (uI (uI (uL S1 (m + 14) (p * 40 + i) (repO (pp P k) own).2.1) (m + 13) (p * 40 + i) 1) (m + 12) (p * 40 + i) (repO (pp P k) own).2.2.2.2.2) (m + 24) (base + k) (repP (pp P k) own).2.2.2.2.2.2.2.1) (m + 25) (base + k) (repP (pp P k) own).2.2.2.2.2.2.2.2) (m + 21) (base + k) (repP (pp P k) own).2.2.2.2.2.2.1) ∧ mI A S1 m ∧ mlot S1 m (p * 40 + i) own ∧ mpie S1 m (base + k) (pp P k) := by
    intro S1 hH1 hr1
    have hP1 : MPie S1 m base P := MPie.fm ⟨p1, p2, p3⟩ hr1 (by omega)
    obtain ⟨m1, m2, m3⟩ := hH1 p hp
    rw [upH_at] at m1 m2 m3
    have hml := m3 i plen.1
    rw [hO] at hml
    refine ⟨?_, hI.fm hr1, hml, hP1.2.2 k hk⟩
    obtain ⟨t1, t2, t3⟩ := hP1
    refine hf _ ?_ ⟨?_, by rw [List.length_set]; exact t2, fun j hj => ?_⟩ ⟨(((((((hr1.wide (by omega)).uL (by omega)).uI (by omega)).uI (by omega)).uL (by omega)).uL (by omega)).uI (by omega)), fun j => by simp only [gI_uI, gL_uL, gR_uR, gI_uL, gI_uR, gL_uI, gL_uR, gR_uI, gR_uL, true_and, and_true, Nat.add_right_cancel_iff, Nat.add_left_cancel_iff, Nat.reduceEqDiff, Nat.left_eq_add, Nat.right_eq_add, Nat.add_eq_left, Nat.add_eq_right, Nat.reduceAdd, Nat.succ_ne_self, reduceCtorEq, false_and, and_false, if_false, if_true, ite_true, ite_false, ite_self, Nat.succ_ne_zero, Nat.add_one_ne_zero, not_false_eq_true, not_true_eq_false, Nat.one_ne_zero, Nat.zero_ne_one]; exact ⟨(hr1.1 (m + 15) (by omega) j (by omega)).1, (hr1.1 (m + 16) (by omega) j (by omega)).1⟩⟩
    · have := hH1.set (S' := uI (uL (uL (uI (uI (uL S1 (m + 14) (p * 40 + i) (repO (pp P k) own).2.1) (m + 13) (p * 40 + i) 1) (m + 12) (p * 40 + i) (repO (pp P k) own).2.2.2.2.2) (m + 24) (base + k) (repP (pp P k) own).2.2.2.2.2.2.2.1) (m + 25) (base + k) (repP (pp P k) own).2.2.2.2.2.2.2.2) (m + 21) (base + k) (repP (pp P k) own).2.2.2.2.2.2.1) (L := L1.set i (repO (pp P k) own)) hp ?_ (fun q hq => ?_) ?_ (fun j hj => ?_) (fun j hj => ?_)
      · rwa [upH_up] at this
      · simp only [gI_uI, gL_uL, gR_uR, gI_uL, gI_uR, gL_uI, gL_uR, gR_uI, gR_uL, true_and, and_true, Nat.add_right_cancel_iff, Nat.add_left_cancel_iff, Nat.reduceEqDiff, Nat.left_eq_add, Nat.right_eq_add, Nat.add_eq_left, Nat.add_eq_right, Nat.reduceAdd, Nat.succ_ne_self, reduceCtorEq, false_and, and_false, if_false, if_true, ite_true, ite_false, ite_self, Nat.succ_ne_zero, Nat.add_one_ne_zero, not_false_eq_true, not_true_eq_false, Nat.one_ne_zero, Nat.zero_ne_one, List.length_set]; exact m1
      · simp only [gI_uI, gL_uL, gR_uR, gI_uL, gI_uR, gL_uI, gL_uR, gR_uI, gR_uL, true_and, and_true, Nat.add_right_cancel_iff, Nat.add_left_cancel_iff, Nat.reduceEqDiff, Nat.left_eq_add, Nat.right_eq_add, Nat.add_eq_left, Nat.add_eq_right, Nat.reduceAdd, Nat.succ_ne_self, reduceCtorEq, false_and, and_false, if_false, if_true, ite_true, ite_false, ite_self, Nat.succ_ne_zero, Nat.add_one_ne_zero, not_false_eq_true, not_true_eq_false, Nat.one_ne_zero, Nat.zero_ne_one]
      · rw [List.length_set]; exact m2
      · rw [List.length_set] at hj
        rw [lt_set plen.1]
        by_cases e : j = i
        · subst e
          rw [if_pos rfl]
          obtain ⟨z0, z1, z2, z3, z4, z5⟩ := hml
          unfold mlot
          simp only [gI_uI, gL_uL, gR_uR, gI_uL, gI_uR, gL_uI, gL_uR, gR_uI, gR_uL, true_and, and_true, Nat.add_right_cancel_iff, Nat.add_left_cancel_iff, Nat.reduceEqDiff, Nat.left_eq_add, Nat.right_eq_add, Nat.add_eq_left, Nat.add_eq_right, Nat.reduceAdd, Nat.succ_ne_self, reduceCtorEq, false_and, and_false, if_false, if_true, ite_true, ite_false, ite_self, Nat.succ_ne_zero, Nat.add_one_ne_zero, not_false_eq_true, not_true_eq_false, Nat.one_ne_zero, Nat.zero_ne_one]
          exact ⟨z0, z2, z3, rfl⟩
        · rw [if_neg e]
          have e1 : (p * 40 + j = p * 40 + i) = False := by simp only [eq_iff_iff, iff_false]; omega
          have := m3 j hj
          unfold mlot at this ⊢
          simp only [gI_uI, gL_uL, gR_uR, gI_uL, gI_uR, gL_uI, gL_uR, gR_uI, gR_uL, true_and, and_true, Nat.add_right_cancel_iff, Nat.add_left_cancel_iff, Nat.reduceEqDiff, Nat.left_eq_add, Nat.right_eq_add, Nat.add_eq_left, Nat.add_eq_right, Nat.reduceAdd, Nat.succ_ne_self, reduceCtorEq, false_and, and_false, if_false, if_true, ite_true, ite_false, ite_self, Nat.succ_ne_zero, Nat.add_one_ne_zero, not_false_eq_true, not_true_eq_false, Nat.one_ne_zero, Nat.zero_ne_one, e1, e]
          exact this
      · have e1 : (j = p * 40 + i) = False := by simp only [eq_iff_iff, iff_false]; omega
        refine ⟨fun b' b1 b2 => ?_, ?_⟩
        · have eb : (b' = m + 21) = False := by simp only [eq_iff_iff, iff_false]; omega
          simp only [gI_uI, gL_uL, gR_uR, gI_uL, gI_uR, gL_uI, gL_uR, gR_uI, gR_uL, true_and, and_true, Nat.add_right_cancel_iff, Nat.add_left_cancel_iff, Nat.reduceEqDiff, Nat.left_eq_add, Nat.right_eq_add, Nat.add_eq_left, Nat.add_eq_right, Nat.reduceAdd, Nat.succ_ne_self, reduceCtorEq, false_and, and_false, if_false, if_true, ite_true, ite_false, ite_self, Nat.succ_ne_zero, Nat.add_one_ne_zero, not_false_eq_true, not_true_eq_false, Nat.one_ne_zero, Nat.zero_ne_one, e1, eb]
        · simp only [gI_uI, gL_uL, gR_uR, gI_uL, gI_uR, gL_uI, gL_uR, gR_uI, gR_uL, true_and, and_true, Nat.add_right_cancel_iff, Nat.add_left_cancel_iff, Nat.reduceEqDiff, Nat.left_eq_add, Nat.right_eq_add, Nat.add_eq_left, Nat.add_eq_right, Nat.reduceAdd, Nat.succ_ne_self, reduceCtorEq, false_and, and_false, if_false, if_true, ite_true, ite_false, ite_self, Nat.succ_ne_zero, Nat.add_one_ne_zero, not_false_eq_true, not_true_eq_false, Nat.one_ne_zero, Nat.zero_ne_one, e1]
    · simp only [gI_uI, gL_uL, gR_uR, gI_uL, gI_uR, gL_uI, gL_uR, gR_uI, gR_uL, true_and, and_true, Nat.add_right_cancel_iff, Nat.add_left_cancel_iff, Nat.reduceEqDiff, Nat.left_eq_add, Nat.right_eq_add, Nat.add_eq_left, Nat.add_eq_right, Nat.reduceAdd, Nat.succ_ne_self, reduceCtorEq, false_and, and_false, if_false, if_true, ite_true, ite_false, ite_self, Nat.succ_ne_zero, Nat.add_one_ne_zero, not_false_eq_true, not_true_eq_false, Nat.one_ne_zero, Nat.zero_ne_one, List.length_set]; exact t1
    · rw [List.length_set] at hj
      rw [pp_set hk]
      have := t3 j hj
      by_cases e : j = k
      · subst e
        rw [if_pos rfl]
        unfold mpie at this ⊢
        simp only [gI_uI, gL_uL, gR_uR, gI_uL, gI_uR, gL_uI, gL_uR, gR_uI, gR_uL, true_and, and_true, Nat.add_right_cancel_iff, Nat.add_left_cancel_iff, Nat.reduceEqDiff, Nat.left_eq_add, Nat.right_eq_add, Nat.add_eq_left, Nat.add_eq_right, Nat.reduceAdd, Nat.succ_ne_self, reduceCtorEq, false_and, and_false, if_false, if_true, ite_true, ite_false, ite_self, Nat.succ_ne_zero, Nat.add_one_ne_zero, not_false_eq_true, not_true_eq_false, Nat.one_ne_zero, Nat.zero_ne_one]
        exact ⟨this.1, this.2.1, this.2.2.1, this.2.2.2.1, this.2.2.2.2.1, this.2.2.2.2.2.1⟩
      · rw [if_neg e]
        have e1 : (base + j = base + k) = False := by simp only [eq_iff_iff, iff_false]; omega
        unfold mpie at this ⊢
        simp only [gI_uI, gL_uL, gR_uR, gI_uL, gI_uR, gL_uI, gL_uR, gR_uI, gR_uL, true_and, and_true, Nat.add_right_cancel_iff, Nat.add_left_cancel_iff, Nat.reduceEqDiff, Nat.left_eq_add, Nat.right_eq_add, Nat.add_eq_left, Nat.add_eq_right, Nat.reduceAdd, Nat.succ_ne_self, reduceCtorEq, false_and, and_false, if_false, if_true, ite_true, ite_false, ite_self, Nat.succ_ne_zero, Nat.add_one_ne_zero, not_false_eq_true, not_true_eq_false, Nat.one_ne_zero, Nat.zero_ne_one, e1, e]
        exact this
  have nz : ¬ ((pp P k).2.2.2.2.2.2.1).toInt64 = 0 := i64_0 (fun z => ho (by show (pp P k).2.2.2.2.2.2.1 ≤ 0; rw [z]; decide))
  have o10 : ((1 : Int32) = 0) = False := by decide
  have fin : ∀ y, y = min x s → ∀ S1, MH S1 m (upH H p L1) → Fm S S1 m 8 15 41 41 → (((pp P k).2.2.1 < own.2.2.2.2.2 → kV A f none A (uI (uL (uL (uI (uL S1 (m + 14) (p * 40 + i) (own.2.1 + (pp P k).2.2.2.2.2.2.2.1 * (nI y).toInt64 / ((pp P k).2.2.2.2.2.2.1).toInt64)) (m + 13) (p * 40 + i) 1) (m + 24) (base + k) ((pp P k).2.2.2.2.2.2.2.1 - (pp P k).2.2.2.2.2.2.2.1 * (nI y).toInt64 / ((pp P k).2.2.2.2.2.2.1).toInt64)) (m + 25) (base + k) ((pp P k).2.2.2.2.2.2.2.2 + (pp P k).2.2.2.2.2.2.2.1 * (nI y).toInt64 / ((pp P k).2.2.2.2.2.2.1).toInt64)) (m + 21) (base + k) ((pp P k).2.2.2.2.2.2.1 - nI y))) ∧ (¬ (pp P k).2.2.1 < own.2.2.2.2.2 → kV A f none A (uI (uL (uL (uI (uI (uL S1 (m + 14) (p * 40 + i) (own.2.1 + (pp P k).2.2.2.2.2.2.2.1 * (nI y).toInt64 / ((pp P k).2.2.2.2.2.2.1).toInt64)) (m + 13) (p * 40 + i) 1) (m + 12) (p * 40 + i) ((pp P k).2.2.1 + 1)) (m + 24) (base + k) ((pp P k).2.2.2.2.2.2.2.1 - (pp P k).2.2.2.2.2.2.2.1 * (nI y).toInt64 / ((pp P k).2.2.2.2.2.2.1).toInt64)) (m + 25) (base + k) ((pp P k).2.2.2.2.2.2.2.2 + (pp P k).2.2.2.2.2.2.2.1 * (nI y).toInt64 / ((pp P k).2.2.2.2.2.2.1).toInt64)) (m + 21) (base + k) ((pp P k).2.2.2.2.2.2.1 - nI y)))) := by
    intro y hy S1 hH1 hr1
    obtain ⟨hfin, -, hml, -⟩ := post S1 hH1 hr1
    have emv : mvOf (pp P k) own = (pp P k).2.2.2.2.2.2.2.1 * (nI y).toInt64 / ((pp P k).2.2.2.2.2.2.1).toInt64 := by
      unfold mvOf
      rw [hown, hy]
    have e14 : (repO (pp P k) own).2.1 = own.2.1 + (pp P k).2.2.2.2.2.2.2.1 * (nI y).toInt64 / ((pp P k).2.2.2.2.2.2.1).toInt64 := by show own.2.1 + mvOf _ _ = _; rw [emv]
    have e24 : (repP (pp P k) own).2.2.2.2.2.2.2.1 = (pp P k).2.2.2.2.2.2.2.1 - (pp P k).2.2.2.2.2.2.2.1 * (nI y).toInt64 / ((pp P k).2.2.2.2.2.2.1).toInt64 := by show _ - mvOf _ _ = _; rw [emv]
    have e25 : (repP (pp P k) own).2.2.2.2.2.2.2.2 = (pp P k).2.2.2.2.2.2.2.2 + (pp P k).2.2.2.2.2.2.2.1 * (nI y).toInt64 / ((pp P k).2.2.2.2.2.2.1).toInt64 := by show _ + mvOf _ _ = _; rw [emv]
    have e21 : (repP (pp P k) own).2.2.2.2.2.2.1 = (pp P k).2.2.2.2.2.2.1 - nI y := by show _ - own.1 = _; rw [hown, hy]
    rw [e14, e24, e25, e21] at hfin
    have ech : (repO (pp P k) own).2.2.2.2.2 = if own.2.2.2.2.2 < (pp P k).2.2.1 + 1 then (pp P k).2.2.1 + 1 else own.2.2.2.2.2 := rfl
    refine ⟨fun z => kV_i ?_, fun z => kV_i ?_⟩
    · rw [ch2, c2', nIltB (by omega) (by omega)] at z
      rw [ch2, c2', nI_1, if_neg (by rw [nIltB (by omega) (by omega)]; omega)] at ech
      rw [ech] at hfin
      rwa [uI_same (a := m + 12) (k := p * 40 + i) (v := nI c') (by simp only [gI_uI, gL_uL, gR_uR, gI_uL, gI_uR, gL_uI, gL_uR, gR_uI, gR_uL, true_and, and_true, Nat.add_right_cancel_iff, Nat.add_left_cancel_iff, Nat.reduceEqDiff, Nat.left_eq_add, Nat.right_eq_add, Nat.add_eq_left, Nat.add_eq_right, Nat.reduceAdd, Nat.succ_ne_self, reduceCtorEq, false_and, and_false, if_false, if_true, ite_true, ite_false, ite_self, Nat.succ_ne_zero, Nat.add_one_ne_zero, not_false_eq_true, not_true_eq_false, Nat.one_ne_zero, Nat.zero_ne_one]; rw [hml.2.2.2.2.2]; exact c2')] at hfin
    · rw [ch2, c2', nIltB (by omega) (by omega)] at z
      have ech' : (repO (pp P k) own).2.2.2.2.2 = (pp P k).2.2.1 + 1 := by rw [ech, if_pos (by rw [ch2, c2', nI_1, nIltB (by omega) (by omega)]; omega)]
      rwa [ech'] at hfin
  simp only [k0, k9, k21, r24, r36, vi, vk, ei, ek, hleft, hsh, nIleB (show x ≤ 1000000000 by omega) (show s ≤ 1000000000 by omega), Option.some.injEq, Prod.mk.injEq, exists_eq_left', exists_eq_left, true_and, and_true, and_self, true_or, or_true, forall_const, exists_const, exists_and_left, wcat, Nat.zero_le, Nat.reduceLeDiff, Int32.lt_irrefl, not_false_eq_true, Nat.zero_add, forall_eq]
  refine ⟨fun z => cm_parts hI hH hp hi hn hcl.1 x0 z (by unfold mxN; omega) fun S1 hH1 hr1 => ?_, fun z => cm_parts hI hH hp hi hn hcl.1 hcl.2.1 (Nat.le_refl _) (by unfold mxN; omega) fun S1 hH1 hr1 => ?_⟩
  · rw [hL1] at hH1
    have hf2 := fin x (Nat.min_eq_left z).symm S1 hH1 hr1
    obtain ⟨-, ⟨-, ⟨r5, r15, r16, r17, r18, r21, r22, r23, r24, r25, r26, r27, r28, r29, r30, r31, r32, r33, r34, r35, r36, r37, r38, r39, r40, r48⟩⟩, ⟨y0, y1, y2, y3, y4, y5⟩, ⟨g0, g1, g2, g3, g4, g5, g6, g7, g8⟩⟩ := post S1 hH1 hr1
    simp only [k12, k13, k14, k20, k21, k24, k25, r27, r28, r29, r35, r36, r39, r40, vi, vk, ei, ek, y1, y5, g2, g6, g7, g8, nz, o10, or_true, Option.some.injEq, Prod.mk.injEq, exists_eq_left', exists_eq_left, true_and, and_true, and_self, true_or, or_true, forall_const, exists_const, exists_and_left, wcat, Nat.zero_le, Nat.reduceLeDiff, Int32.lt_irrefl, not_false_eq_true, Nat.zero_add, forall_eq, gI_uI, gL_uL, gR_uR, gI_uL, gI_uR, gL_uI, gL_uR, gR_uI, gR_uL, true_and, and_true, Nat.add_right_cancel_iff, Nat.add_left_cancel_iff, Nat.reduceEqDiff, Nat.left_eq_add, Nat.right_eq_add, Nat.add_eq_left, Nat.add_eq_right, Nat.reduceAdd, Nat.succ_ne_self, reduceCtorEq, false_and, and_false, if_false, if_true, ite_true, ite_false, ite_self, Nat.succ_ne_zero, Nat.add_one_ne_zero, not_false_eq_true, not_true_eq_false, Nat.one_ne_zero, Nat.zero_ne_one]
    exact hf2
  · rw [← Nat.min_eq_right (show s ≤ x by omega), hpm] at hH1
    have hf2 := fin s (Nat.min_eq_right (by omega)).symm S1 hH1 hr1
    obtain ⟨-, ⟨-, ⟨r5, r15, r16, r17, r18, r21, r22, r23, r24, r25, r26, r27, r28, r29, r30, r31, r32, r33, r34, r35, r36, r37, r38, r39, r40, r48⟩⟩, ⟨y0, y1, y2, y3, y4, y5⟩, ⟨g0, g1, g2, g3, g4, g5, g6, g7, g8⟩⟩ := post S1 hH1 hr1
    simp only [k12, k13, k14, k20, k21, k24, k25, r27, r28, r29, r35, r36, r39, r40, vi, vk, ei, ek, y1, y5, g2, g6, g7, g8, nz, o10, or_true, Option.some.injEq, Prod.mk.injEq, exists_eq_left', exists_eq_left, true_and, and_true, and_self, true_or, or_true, forall_const, exists_const, exists_and_left, wcat, Nat.zero_le, Nat.reduceLeDiff, Int32.lt_irrefl, not_false_eq_true, Nat.zero_add, forall_eq, gI_uI, gL_uL, gR_uR, gI_uL, gI_uR, gL_uI, gL_uR, gR_uI, gR_uL, true_and, and_true, Nat.add_right_cancel_iff, Nat.add_left_cancel_iff, Nat.reduceEqDiff, Nat.left_eq_add, Nat.right_eq_add, Nat.add_eq_left, Nat.add_eq_right, Nat.reduceAdd, Nat.succ_ne_self, reduceCtorEq, false_and, and_false, if_false, if_true, ite_true, ite_false, ite_self, Nat.succ_ne_zero, Nat.add_one_ne_zero, not_false_eq_true, not_true_eq_false, Nat.one_ne_zero, Nat.zero_ne_one]
    exact hf2
end
