/-! the reference: one trade, one paper -/
/-- the first piece of trade t, how many -/
def fpr (S : qS) (m base : Nat) (s : PSt) (t : Nat) : Prop := (∃ g, g ≤ 640 ∧ gI S (m + 15) t = nI g ∧ (0 < s.2.2.2.2.2 t → g = base + s.2.2.2.2.1 t)) ∧ gI S (m + 16) t = nI (s.2.2.2.2.2 t)
def rw56 (S S' : qS) (m t : Nat) : Prop := gI S' (m + 15) t = gI S (m + 15) t ∧ gI S' (m + 16) t = gI S (m + 16) t
theorem fpr.same {S S' : qS} {m base t : Nat} {s s' : PSt} (h : fpr S m base s t) (e : rw56 S S' m t) (e1 : s'.2.2.2.2.1 t = s.2.2.2.2.1 t) (e2 : s'.2.2.2.2.2 t = s.2.2.2.2.2 t) : fpr S' m base s' t := by
  obtain ⟨⟨g, g1, g2, g3⟩, g4⟩ := h
  unfold fpr
  rw [e1, e2]
  exact ⟨⟨g, g1, e.1.trans g2, g3⟩, e.2.trans g4⟩
def MBs (A : qA) (S : qS) (m : Nat) (T : List Row) (w : Int32) (H : Nat → List Lot) (P0 : List Pie) (s : PSt) (zp : Int64) (shp : Bool) : Prop := mI A S m ∧ RwAt S (m + 3) T ∧ gI S m 44 = w ∧ MH S m H ∧ MPie S m 0 (P0 ++ s.2.1) ∧ gL S m 42 = s.2.2.1 + zp ∧ gI S m 43 = bI (s.2.2.2.1 || shp)
theorem Fm.x {S S' : qS} {m lo hi u v : Nat} (h : Fm S S' m lo hi u v) (h1 : 3 < lo) : ∀ k, gI S' (m + 3) k = gI S (m + 3) k := fun k => (h.1 (m + 3) (by omega) k (by omega)).1
section
variable {d : Nat} {A : qA} {S : qS} {m : Nat} {H : Nat → List Lot}
set_option maxRecDepth 20000 in
set_option maxHeartbeats 4000000 in
theorem cm_booksOne {p t b n : Nat} {T : List Row} {w : Int32} {P0 : List Pie} {s : PSt} {zp : Int64} {shp : Bool} {f : qS → Prop} (h : MBs A S m T w H P0 s zp shp) (hT : T.length ≤ 36) (ht : t < T.length) (hv : vRow (tr T t)) (hp : p < 3) (hHp : H p = s.1) (hi : PInv b n s) (hb : b ≤ mxN) (hb9 : 999 ≤ b) (hn : n ≤ 38) (hroom : P0.length + s.2.1.length + s.1.length ≤ 640) (hf : ∀ S', MBs A S' m T w (upH H p (aStep w T t s).1) P0 (aStep w T t s) zp shp → (∀ t', (fpr S m P0.length s t' → fpr S' m P0.length (aStep w T t s) t') ∧ (¬ t' = t → rw56 S S' m t')) → Fm S S' m 8 26 41 44 → f S') : Run (d + 6) 193 [.ref m, .int (nI p), .int (nI t), .int (nI P0.length)] A S (kV A f) := by
  refine Run.i (C := mX11_booksOne) rfl rfl rfl fun J hJ => ?_
  obtain ⟨hI, hx, hw, hH, hP, hz, hs⟩ := h
  obtain ⟨i1, i2, i3, i4⟩ := hi
  have hI0 := hI
  obtain ⟨⟨k0, k1, k2, k3, k4, k5, k6, k7, k8, k9, k10, k11, k12, k13, k14, k15, k16, k17, k18, k19, k20, k21, k22, k23, k24, k25, k26⟩, ⟨r5, r15, r16, r17, r18, r21, r22, r23, r24, r25, r26, r27, r28, r29, r30, r31, r32, r33, r34, r35, r36, r37, r38, r39, r40, r48⟩⟩ := hI
  have hx0 := hx
  obtain ⟨x0, xr⟩ := hx
  obtain ⟨c1, c2, c3, c4, c5, c6⟩ := xr t ht
  have hnm : n ≤ mxN := by unfold mxN; omega
  refine sX11_booksOne_0 hJ ?_
  simp only [k0, r16, Option.some.injEq, Prod.mk.injEq, exists_eq_left', exists_eq_left, true_and, and_true, and_self, true_or, or_true, forall_const, exists_const, exists_and_left, wcat, Nat.zero_le, Nat.reduceLeDiff, Int32.lt_irrefl, not_false_eq_true, Nat.zero_add, forall_eq]
  refine cm_of (c := 1) rfl k3 (by omega) (by omega) ?_
  rw [c1]
  have v1 := hv.2.2.2.2.1
  have v2 := hv.2.2.2.1
  have z0' : 0 + P0.length = P0.length := Nat.zero_add _
  refine ⟨fun s0 => ?_, fun s0 => ⟨fun s1 => ?_, fun s1 => ?_⟩⟩
  · have n2 : ¬ (tr T t).1 = 2 := fun z => by rw [s0] at z; exact absurd z (by decide)
    obtain ⟨⟨x, x1, x2, x3⟩, -⟩ := v1 n2
    have ea : aStep w T t s = aBuy w t (tr T t).2.2.1 (tr T t).2.2.2.1 (tr T t).2.2.2.2.1 s := by rw [aStep, if_pos s0]
    rw [ea] at hf
    rw [← z0']
    refine cm_buys (b := b) (c := n) hI0 hx0 hT ht hw hH hp hP hb hnm (fun l hl => ?_) i2 (by rw [hHp]; omega) fun S' hH' hP' hr' => kV_i ?_
    · rcases List.mem_append.mp hl with e | e
      · rw [hHp] at e; exact (i1 l e).up (Nat.le_refl _) (by omega)
      · rw [List.mem_singleton] at e; subst e
        exact ⟨⟨x, x1, by omega, x3⟩, 0, by omega, rfl⟩
    · rw [hHp] at hH' hP'
      refine hf S' ⟨hI0.fm hr'.1, hx0.same (hr'.1.x (by omega)), (hr'.1.w (by omega) (by omega)).trans hw, hH', hP', ((hr'.1.1 m (by omega) 42 (by omega)).2).trans hz, ((hr'.1.1 m (by omega) 43 (by omega)).1).trans hs⟩ (fun t' => ⟨fun g => g.same (hr'.2 t') rfl rfl, fun _ => hr'.2 t'⟩) (hr'.1.wide (by omega))
  · have n0 : ¬ (tr T t).1 = 0 := s0
    have n2 : ¬ (tr T t).1 = 2 := fun z => by rw [s1] at z; exact absurd z (by decide)
    obtain ⟨⟨x, x1, x2, x3⟩, -⟩ := v1 n2
    have ea : aStep w T t s = aSell w t (tr T t).2.2.1 (tr T t).2.2.2.1 (tr T t).2.2.2.2.1 (tr T t).2.2.2.2.2 s := by rw [aStep, if_neg n0, if_neg n2]
    rw [ea] at hf
    refine cm_sells (b := b) (c := n) hI0 hx0 hT ht hw hH hp hP hb hnm x3 x2 (by rw [hHp]; exact i1) (by rw [hHp]; omega) (by rw [hHp, List.length_append]; omega) (fun z => kV_i ?_) (fun z S' hH' hP' e15 e16 hfp hr' => kV_i ?_)
    · rw [hHp] at z
      have es : aSell w t (tr T t).2.2.1 (tr T t).2.2.2.1 (tr T t).2.2.2.2.1 (tr T t).2.2.2.2.2 s = (s.1, s.2.1, s.2.2.1, true, s.2.2.2.2) := by rw [aSell, if_neg z]
      rw [es] at hf
      have hu : Fm S (uI S m 43 1) m 8 8 43 44 := Fm.rf.uI (by omega)
      refine hf _ ⟨hI0.fm hu, hx0.same (hu.x (by omega)), (hu.w (by omega) (by omega)).trans hw, ?_, hP.fm hu (by omega), hz, ?_⟩ (fun t' => ⟨fun g => g.same ⟨by simp only [gI_uI, gL_uL, gR_uR, gI_uL, gI_uR, gL_uI, gL_uR, gR_uI, gR_uL, true_and, and_true, Nat.add_right_cancel_iff, Nat.add_left_cancel_iff, Nat.reduceEqDiff, Nat.left_eq_add, Nat.right_eq_add, Nat.add_eq_left, Nat.add_eq_right, Nat.reduceAdd, Nat.succ_ne_self, reduceCtorEq, false_and, and_false, if_false, if_true, ite_true, ite_false, ite_self, Nat.succ_ne_zero, Nat.add_one_ne_zero, not_false_eq_true, not_true_eq_false, Nat.one_ne_zero, Nat.zero_ne_one], by simp only [gI_uI, gL_uL, gR_uR, gI_uL, gI_uR, gL_uI, gL_uR, gR_uI, gR_uL, true_and, and_true, Nat.add_right_cancel_iff, Nat.add_left_cancel_iff, Nat.reduceEqDiff, Nat.left_eq_add, Nat.right_eq_add, Nat.add_eq_left, Nat.add_eq_right, Nat.reduceAdd, Nat.succ_ne_self, reduceCtorEq, false_and, and_false, if_false, if_true, ite_true, ite_false, ite_self, Nat.succ_ne_zero, Nat.add_one_ne_zero, not_false_eq_true, not_true_eq_false, Nat.one_ne_zero, Nat.zero_ne_one]⟩ rfl rfl, fun _ => ⟨by simp only [gI_uI, gL_uL, gR_uR, gI_uL, gI_uR, gL_uI, gL_uR, gR_uI, gR_uL, true_and, and_true, Nat.add_right_cancel_iff, Nat.add_left_cancel_iff, Nat.reduceEqDiff, Nat.left_eq_add, Nat.right_eq_add, Nat.add_eq_left, Nat.add_eq_right, Nat.reduceAdd, Nat.succ_ne_self, reduceCtorEq, false_and, and_false, if_false, if_true, ite_true, ite_false, ite_self, Nat.succ_ne_zero, Nat.add_one_ne_zero, not_false_eq_true, not_true_eq_false, Nat.one_ne_zero, Nat.zero_ne_one], by simp only [gI_uI, gL_uL, gR_uR, gI_uL, gI_uR, gL_uI, gL_uR, gR_uI, gR_uL, true_and, and_true, Nat.add_right_cancel_iff, Nat.add_left_cancel_iff, Nat.reduceEqDiff, Nat.left_eq_add, Nat.right_eq_add, Nat.add_eq_left, Nat.add_eq_right, Nat.reduceAdd, Nat.succ_ne_self, reduceCtorEq, false_and, and_false, if_false, if_true, ite_true, ite_false, ite_self, Nat.succ_ne_zero, Nat.add_one_ne_zero, not_false_eq_true, not_true_eq_false, Nat.one_ne_zero, Nat.zero_ne_one]⟩⟩) (hu.wide (by omega))
      · show MH _ m (upH H p s.1)
        rw [← hHp, upH_s]
        exact hH.fm hu (by omega)
      · simp only [gI_uI, gL_uL, gR_uR, gI_uL, gI_uR, gL_uI, gL_uR, gR_uI, gR_uL, true_and, and_true, Nat.add_right_cancel_iff, Nat.add_left_cancel_iff, Nat.reduceEqDiff, Nat.left_eq_add, Nat.right_eq_add, Nat.add_eq_left, Nat.add_eq_right, Nat.reduceAdd, Nat.succ_ne_self, reduceCtorEq, false_and, and_false, if_false, if_true, ite_true, ite_false, ite_self, Nat.succ_ne_zero, Nat.add_one_ne_zero, not_false_eq_true, not_true_eq_false, Nat.one_ne_zero, Nat.zero_ne_one, Bool.true_or, bI]
    · rw [hHp] at z hH' hP' e16
      have es : aSell w t (tr T t).2.2.1 (tr T t).2.2.2.1 (tr T t).2.2.2.2.1 (tr T t).2.2.2.2.2 s = ((repAll w (tr T t).2.2.1 (soldL (tr T t).2.2.1 (tr T t).2.2.2.2.1 (tr T t).2.2.2.2.2 (tr T t).2.2.2.1 s.1) (sellGo (tr T t).2.2.2.2.2 40 (tr T t).2.2.2.1 s.1).2).2, s.2.1 ++ (repAll w (tr T t).2.2.1 (soldL (tr T t).2.2.1 (tr T t).2.2.2.2.1 (tr T t).2.2.2.2.2 (tr T t).2.2.2.1 s.1) (sellGo (tr T t).2.2.2.2.2 40 (tr T t).2.2.2.1 s.1).2).1, s.2.2.1, s.2.2.2.1, upN s.2.2.2.2.1 t s.2.1.length, upN s.2.2.2.2.2 t (sellGo (tr T t).2.2.2.2.2 40 (tr T t).2.2.2.1 s.1).1.length) := by rw [aSell, if_pos z]
      rw [es] at hf
      rw [List.append_assoc] at hP'
      refine hf S' ⟨hI0.fm hr', hx0.same (hr'.x (by omega)), (hr'.w (by omega) (by omega)).trans hw, hH', hP', ((hr'.1 m (by omega) 42 (by omega)).2).trans hz, ((hr'.1 m (by omega) 43 (by omega)).1).trans hs⟩ (fun t' => ⟨fun g => ?_, fun e => hfp t' e⟩) (hr'.wide (by omega))
      by_cases e : t' = t
      · subst e
        refine ⟨⟨P0.length + s.2.1.length, by omega, by rw [e15, List.length_append, Nat.zero_add], fun _ => ?_⟩, ?_⟩
        · show _ = P0.length + upN _ t' _ t'
          rw [upN, if_pos rfl]
        · show _ = nI (upN _ t' _ t')
          rw [e16, upN, if_pos rfl]
      · refine g.same (hfp t' e) ?_ ?_
        · show upN _ t _ t' = _
          rw [upN, if_neg e]
        · show upN _ t _ t' = _
          rw [upN, if_neg e]
  · have n0 : ¬ (tr T t).1 = 0 := s0
    have n2 : (tr T t).1 = 2 := by
      rcases hv.1 with e | e | e
      · exact absurd e s0
      · exact absurd e s1
      · exact e
    obtain ⟨-, y, y1, y2, y3⟩ := v2 n2
    have ea : aStep w T t s = aSplit (tr T t).2.2.2.1 (tr T t).2.2.2.2.1 s := by rw [aStep, if_neg n0, if_pos n2]
    rw [ea] at hf
    simp only [r16, Option.some.injEq, Prod.mk.injEq, exists_eq_left', exists_eq_left, true_and, and_true, and_self, true_or, or_true, forall_const, exists_const, exists_and_left, wcat, Nat.zero_le, Nat.reduceLeDiff, Int32.lt_irrefl, not_false_eq_true, Nat.zero_add, forall_eq]
    refine cm_of (c := 4) rfl k3 (by omega) (by omega) ?_
    simp only [r16, Option.some.injEq, Prod.mk.injEq, exists_eq_left', exists_eq_left, true_and, and_true, and_self, true_or, or_true, forall_const, exists_const, exists_and_left, wcat, Nat.zero_le, Nat.reduceLeDiff, Int32.lt_irrefl, not_false_eq_true, Nat.zero_add, forall_eq]
    refine cm_of (c := 5) rfl k3 (by omega) (by omega) ?_
    rw [c4, c5, ← z0']
    have nb : ¬ (tr T t).2.2.2.2.1 = 0 := by rw [y3]; exact nI_ne0 (by omega) (by omega)
    refine cm_splits hI0 hH hp hP nb fun S' hH' hP' hz' h15 hr' => kV_i ?_
    rw [hHp] at hH' hz'
    refine hf S' ⟨hI0.fm hr', hx0.same (hr'.x (by omega)), (hr'.w (by omega) (by omega)).trans hw, hH', hP', ?_, ((hr'.1 m (by omega) 43 (by omega)).1).trans hs⟩ (fun t' => ⟨fun g => g.same (h15 t') rfl rfl, fun _ => h15 t'⟩) (hr'.wide (by omega))
    rw [hz', hz, spZ_add]
    rfl
/-- trades of a paper among Q -/
def cq (T : List Row) (p : Nat) : List Nat → Nat
  | [] => 0
  | t :: Q => (if paF (tr T t) = p then 1 else 0) + cq T p Q
theorem cq_all {T : List Row} : ∀ Q : List Nat, cq T 0 Q + cq T 1 Q + cq T 2 Q ≤ Q.length
  | [] => Nat.le_refl _
  | t :: Q => by
    have ih := cq_all (T := T) Q
    simp only [cq, List.length_cons]
    repeat' split
    all_goals omega
theorem sq35 {n c : Nat} (h : n < c) (hc : c ≤ 36) : n * n + n ≤ 35 * c := by
  have h1 : n * n ≤ 35 * n := Nat.mul_le_mul_right n (by omega)
  omega
set_option maxRecDepth 20000 in
set_option maxHeartbeats 4000000 in
theorem cm_booksPaper {p cp : Nat} {T : List Row} {w last : Int32} {Q : List Nat} {P0 : List Pie} {zp : Int64} {shp : Bool} {f : qS → Prop} (h : mI A S m) (hx : RwAt S (m + 3) T) (hw : gI S m 44 = w) (hH : MH S m H) (hP : MPie S m 0 P0) (hz : gL S m 42 = zp) (hs : gI S m 43 = bI shp) (hT : T.length ≤ 36) (hp : p < 3) (hQl : Q.length = T.length) (hQ : ∀ t, t ∈ Q → t < T.length ∧ vRow (tr T t)) (hord : ∀ j, j < T.length → gI S (m + 6) j = nI (ot Q j)) (hsp : spQ T Q ≤ 4) (hcp : cq T p Q = cp) (hcp36 : cp ≤ 36) (hroom : 2 * P0.length + 35 * cp ≤ 1260)
    (hf : ∀ S' n, MBs A S' m T w (upH H p (aGo w last T p Q p0).1) P0 (aGo w last T p Q p0) zp shp → PInv (999 * 9 ^ 4) n (aGo w last T p Q p0) → n ≤ cp → (∀ t', (fpr S m P0.length p0 t' → fpr S' m P0.length (aGo w last T p Q p0) t') ∧ (¬ paF (tr T t') = p → rw56 S S' m t')) → Fm S S' m 8 26 41 44 → f S') : Run (d + 7) 192 [.ref m, .int (nI p), .int last] A S (kV A f) := by
  refine Run.i (C := mX11_booksPaper) rfl rfl rfl fun J hJ => ?_
  generalize hR : aGo w last T p Q p0 = R at hf
  have c0 : (0 : Int32).toNatClampNeg = 0 := rfl
  have v0 : vp_in 0 217 := vp_n (i := 0) (by omega) (by omega)
  have loop : ∀ (Q' Pd : List Nat) (s : PSt) (k n : Nat) (Sj : qS) (w5 : Option Value), Q = Pd ++ Q' → MBs A Sj m T w (upH H p s.1) P0 s zp shp → PInv (999 * 9 ^ k) n s → k + spQ T Q' ≤ 4 → n + cq T p Q' ≤ cp → (∀ t', (fpr S m P0.length p0 t' → fpr Sj m P0.length s t') ∧ (¬ paF (tr T t') = p → rw56 S Sj m t')) → Fm S Sj m 8 26 41 44 → aGo w last T p Q' s = R → J 15 [some (.ref m), some (.int (nI p)), some (.int last), some (.int (nI P0.length)), some (.int (nI Pd.length)), w5] [] A Sj := by
    intro Q'
    induction Q' with
    | nil =>
      intro Pd s k n Sj w5 hQ' hB hi hk hn hfp hr he
      refine sX11_booksPaper_15 hJ ?_
      obtain ⟨⟨⟨k0, k1, k2, k3, k4, k5, k6, k7, k8, k9, k10, k11, k12, k13, k14, k15, k16, k17, k18, k19, k20, k21, k22, k23, k24, k25, k26⟩, ⟨r5, r15, r16, r17, r18, r21, r22, r23, r24, r25, r26, r27, r28, r29, r30, r31, r32, r33, r34, r35, r36, r37, r38, r39, r40, r48⟩⟩, hxj, -⟩ := id hB
      have hl : Pd.length = T.length := by rw [← hQl, hQ', List.append_nil]
      simp only [k0, k3, r16, c0, v0, hxj.1, hl, nIle (show T.length ≤ 100000 by omega) (show T.length ≤ 100000 by omega), Nat.le_refl, not_true_eq_false, false_imp_iff, true_imp_iff, Option.some.injEq, Prod.mk.injEq, exists_eq_left', exists_eq_left, true_and, and_true, and_self, true_or, or_true, forall_const, exists_const, exists_and_left, wcat, Nat.zero_le, Nat.reduceLeDiff, Int32.lt_irrefl, not_false_eq_true, Nat.zero_add, forall_eq]
      rw [aGo] at he
      subst he
      exact kV_i (hf Sj n hB (hi.up (Nat.mul_le_mul_left _ (Nat.pow_le_pow_right (by omega) (by omega)))) (by rw [cq] at hn; omega) hfp hr)
    | cons t Q' ih =>
      intro Pd s k n Sj w5 hQ' hB hi hk hn hfp hr he
      refine sX11_booksPaper_15 hJ ?_
      obtain ⟨⟨⟨k0, k1, k2, k3, k4, k5, k6, k7, k8, k9, k10, k11, k12, k13, k14, k15, k16, k17, k18, k19, k20, k21, k22, k23, k24, k25, k26⟩, ⟨r5, r15, r16, r17, r18, r21, r22, r23, r24, r25, r26, r27, r28, r29, r30, r31, r32, r33, r34, r35, r36, r37, r38, r39, r40, r48⟩⟩, hxj, -⟩ := id hB
      have hl : T.length = Pd.length + 1 + Q'.length := by rw [← hQl, hQ', List.length_append, List.length_cons]; omega
      have ko : ot Q Pd.length = t := by rw [hQ']; exact ot_mid
      obtain ⟨htT, hv⟩ := hQ t (by rw [hQ']; exact List.mem_append_right _ (List.mem_cons_self ..))
      have eo : gI Sj (m + 6) Pd.length = nI t := by rw [(hr.1 (m + 6) (by omega) _ (by omega)).1, hord _ (by omega), ko]
      obtain ⟨hp3, epa⟩ := hv.pa
      obtain ⟨c1, c2, c3, c4, c5, c6⟩ := hxj.2 t htT
      simp only [k0, k3, k6, r16, r21, c0, v0, hxj.1, nIle (show T.length ≤ 100000 by omega) (show Pd.length ≤ 100000 by omega), cl_n (show Pd.length ≤ 100000 by omega), vp_n (show Pd.length < 36 by omega) (show 36 ≤ 100000 by omega), eo, nI_1, Option.some.injEq, Prod.mk.injEq, exists_eq_left', exists_eq_left, true_and, and_true, and_self, true_or, or_true, forall_const, exists_const, exists_and_left, wcat, Nat.zero_le, Nat.reduceLeDiff, Int32.lt_irrefl, not_false_eq_true, Nat.zero_add, forall_eq]
      refine ⟨fun z => absurd z (by omega), fun _ => cm_of (c := 2) rfl k3 (by omega) (by omega) ?_⟩
      rw [c2, epa, nIeq (by omega) (by omega)]
      rw [spQ] at hk
      rw [cq] at hn
      have on : ∀ (s' : PSt) (k' n' : Nat) (S' : qS) (w5 : Option Value), MBs A S' m T w (upH H p s'.1) P0 s' zp shp → PInv (999 * 9 ^ k') n' s' → k' + spQ T Q' ≤ 4 → n' + cq T p Q' ≤ cp → (∀ t', (fpr S m P0.length p0 t' → fpr S' m P0.length s' t') ∧ (¬ paF (tr T t') = p → rw56 S S' m t')) → Fm S S' m 8 26 41 44 → aGo w last T p Q' s' = R → J 15 [some (.ref m), some (.int (nI p)), some (.int last), some (.int (nI P0.length)), some (.int (nI (Pd.length + 1))), w5] [] A S' := by
        intro s' k' n' S' w5 a1 a2 a3 a4 a5 a6 a7
        have := ih (Pd ++ [t]) s' k' n' S' w5 (by rw [hQ', List.append_assoc]; rfl) a1 a2 a3 a4 a5 a6 a7
        rwa [List.length_append, List.length_singleton] at this
      refine ⟨fun z => ?_, fun z => ?_⟩
      · rw [aGo, if_neg (fun y => z y.1)] at he
        rw [if_neg z] at hn
        exact on s k n Sj _ hB hi (by omega) (by omega) hfp hr he
      · rw [if_pos z] at hn
        simp only [r16, Option.some.injEq, Prod.mk.injEq, exists_eq_left', exists_eq_left, true_and, and_true, and_self, true_or, or_true, forall_const, exists_const, exists_and_left, wcat, Nat.zero_le, Nat.reduceLeDiff, Int32.lt_irrefl, not_false_eq_true, Nat.zero_add, forall_eq]
        refine cm_of (c := 3) rfl k3 (by omega) (by omega) ?_
        rw [c3]
        refine ⟨fun y => ?_, fun y => ?_⟩
        · rw [aGo, if_pos ⟨z, y⟩] at he
          have h4 := hi.2.2.2
          have h3 := hi.2.2.1
          have hq := sq35 (n := n) (c := cp) (by omega) hcp36
          refine cm_booksOne (b := 999 * 9 ^ k) (n := n) hB hT htT hv hp upH_at hi (pow9 (by omega)).2 (pow9 (by omega)).1 (by omega) (by omega) fun S' hB' hfp' hr' => ?_
          rw [upH_up] at hB'
          refine on (aStep w T t s) (k + isSpl T t) (n + 1) S' _ hB' (aStep_inv hv (by omega) (by omega) hi) (by omega) (by omega) (fun t' => ⟨fun g => (hfp' t').1 ((hfp t').1 g), fun e => ?_⟩) (hr.trans hr') he
          have e1 := (hfp' t').2 (fun e' => by rw [e'] at e; exact e z)
          have e2 := (hfp t').2 e
          exact ⟨e1.1.trans e2.1, e1.2.trans e2.2⟩
        · rw [aGo, if_neg (fun z' => y z'.2)] at he
          exact on s k n Sj _ hB hi (by omega) (by omega) hfp hr he
  refine sX11_booksPaper_0 hJ ?_
  have hI0 := h
  obtain ⟨⟨k0, k1, k2, k3, k4, k5, k6, k7, k8, k9, k10, k11, k12, k13, k14, k15, k16, k17, k18, k19, k20, k21, k22, k23, k24, k25, k26⟩, ⟨r5, r15, r16, r17, r18, r21, r22, r23, r24, r25, r26, r27, r28, r29, r30, r31, r32, r33, r34, r35, r36, r37, r38, r39, r40, r48⟩⟩ := h
  have hu : Fm S (uI S (m + 8) p 0) m 8 9 41 41 := Fm.rf.uI (by omega)
  have e41 : gI (uI S (m + 8) p 0) m 41 = nI P0.length := by simp only [gI_uI, gL_uL, gR_uR, gI_uL, gI_uR, gL_uI, gL_uR, gR_uI, gR_uL, true_and, and_true, Nat.add_right_cancel_iff, Nat.add_left_cancel_iff, Nat.reduceEqDiff, Nat.left_eq_add, Nat.right_eq_add, Nat.add_eq_left, Nat.add_eq_right, Nat.reduceAdd, Nat.succ_ne_self, reduceCtorEq, false_and, and_false, if_false, if_true, ite_true, ite_false, ite_self, Nat.succ_ne_zero, Nat.add_one_ne_zero, not_false_eq_true, not_true_eq_false, Nat.one_ne_zero, Nat.zero_ne_one]; rw [hP.1, Nat.zero_add]
  simp only [k0, k8, r23, cl_n (show p ≤ 100000 by omega), vp_n hp (show 3 ≤ 100000 by omega), e41, Option.some.injEq, Prod.mk.injEq, exists_eq_left', exists_eq_left, true_and, and_true, and_self, true_or, or_true, forall_const, exists_const, exists_and_left, wcat, Nat.zero_le, Nat.reduceLeDiff, Int32.lt_irrefl, not_false_eq_true, Nat.zero_add, forall_eq]
  refine loop Q [] p0 0 0 _ _ rfl ⟨hI0.fm hu, hx.same (hu.x (by omega)), (hu.w (by omega) (by omega)).trans hw, ?_, ?_, ?_, ?_⟩ PInv.z (by omega) (by omega) (fun t' => ⟨fun g => g.same ⟨by simp only [gI_uI, gL_uL, gR_uR, gI_uL, gI_uR, gL_uI, gL_uR, gR_uI, gR_uL, true_and, and_true, Nat.add_right_cancel_iff, Nat.add_left_cancel_iff, Nat.reduceEqDiff, Nat.left_eq_add, Nat.right_eq_add, Nat.add_eq_left, Nat.add_eq_right, Nat.reduceAdd, Nat.succ_ne_self, reduceCtorEq, false_and, and_false, if_false, if_true, ite_true, ite_false, ite_self, Nat.succ_ne_zero, Nat.add_one_ne_zero, not_false_eq_true, not_true_eq_false, Nat.one_ne_zero, Nat.zero_ne_one], by simp only [gI_uI, gL_uL, gR_uR, gI_uL, gI_uR, gL_uI, gL_uR, gR_uI, gR_uL, true_and, and_true, Nat.add_right_cancel_iff, Nat.add_left_cancel_iff, Nat.reduceEqDiff, Nat.left_eq_add, Nat.right_eq_add, Nat.add_eq_left, Nat.add_eq_right, Nat.reduceAdd, Nat.succ_ne_self, reduceCtorEq, false_and, and_false, if_false, if_true, ite_true, ite_false, ite_self, Nat.succ_ne_zero, Nat.add_one_ne_zero, not_false_eq_true, not_true_eq_false, Nat.one_ne_zero, Nat.zero_ne_one]⟩ rfl rfl, fun _ => ⟨by simp only [gI_uI, gL_uL, gR_uR, gI_uL, gI_uR, gL_uI, gL_uR, gR_uI, gR_uL, true_and, and_true, Nat.add_right_cancel_iff, Nat.add_left_cancel_iff, Nat.reduceEqDiff, Nat.left_eq_add, Nat.right_eq_add, Nat.add_eq_left, Nat.add_eq_right, Nat.reduceAdd, Nat.succ_ne_self, reduceCtorEq, false_and, and_false, if_false, if_true, ite_true, ite_false, ite_self, Nat.succ_ne_zero, Nat.add_one_ne_zero, not_false_eq_true, not_true_eq_false, Nat.one_ne_zero, Nat.zero_ne_one], by simp only [gI_uI, gL_uL, gR_uR, gI_uL, gI_uR, gL_uI, gL_uR, gR_uI, gR_uL, true_and, and_true, Nat.add_right_cancel_iff, Nat.add_left_cancel_iff, Nat.reduceEqDiff, Nat.left_eq_add, Nat.right_eq_add, Nat.add_eq_left, Nat.add_eq_right, Nat.reduceAdd, Nat.succ_ne_self, reduceCtorEq, false_and, and_false, if_false, if_true, ite_true, ite_false, ite_self, Nat.succ_ne_zero, Nat.add_one_ne_zero, not_false_eq_true, not_true_eq_false, Nat.one_ne_zero, Nat.zero_ne_one]⟩⟩) (hu.wide (by omega)) hR
  · refine hH.set hp (by simp only [gI_uI, gL_uL, gR_uR, gI_uL, gI_uR, gL_uI, gL_uR, gR_uI, gR_uL, true_and, and_true, Nat.add_right_cancel_iff, Nat.add_left_cancel_iff, Nat.reduceEqDiff, Nat.left_eq_add, Nat.right_eq_add, Nat.add_eq_left, Nat.add_eq_right, Nat.reduceAdd, Nat.succ_ne_self, reduceCtorEq, false_and, and_false, if_false, if_true, ite_true, ite_false, ite_self, Nat.succ_ne_zero, Nat.add_one_ne_zero, not_false_eq_true, not_true_eq_false, Nat.one_ne_zero, Nat.zero_ne_one]; rfl) (fun q hq => by simp only [gI_uI, gL_uL, gR_uR, gI_uL, gI_uR, gL_uI, gL_uR, gR_uI, gR_uL, hq, and_false, if_false]) (Nat.zero_le _) (fun i hi => absurd hi (Nat.not_lt_zero _)) (fun j hj => ?_)
    exact rowE.u8 ⟨fun _ _ _ => rfl, rfl⟩
  · have : P0 ++ p0.2.1 = P0 := List.append_nil _
    rw [this]
    exact hP.fm hu (by omega)
  · simp only [gI_uI, gL_uL, gR_uR, gI_uL, gI_uR, gL_uI, gL_uR, gR_uI, gR_uL]
    rw [hz]
    exact (Int64.zero_add _).symm
  · simp only [gI_uI, gL_uL, gR_uR, gI_uL, gI_uR, gL_uI, gL_uR, gR_uI, gR_uL, true_and, and_true, Nat.add_right_cancel_iff, Nat.add_left_cancel_iff, Nat.reduceEqDiff, Nat.left_eq_add, Nat.right_eq_add, Nat.add_eq_left, Nat.add_eq_right, Nat.reduceAdd, Nat.succ_ne_self, reduceCtorEq, false_and, and_false, if_false, if_true, ite_true, ite_false, ite_self, Nat.succ_ne_zero, Nat.add_one_ne_zero, not_false_eq_true, not_true_eq_false, Nat.one_ne_zero, Nat.zero_ne_one]
    exact hs
end
