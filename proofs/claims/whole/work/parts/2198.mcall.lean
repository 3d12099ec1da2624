/-! the reference's calls: fits, fitAt, could, surely, ask, askLeaves -/
def onL (V : VSt) (F : Tld → Int32) : Int32 := match vLed V with
  | some td => F td
  | none => -1
def mstI (td : Tld) (u : Nat) : Int32 := nI (if cntL u (allS td) ≤ (allS td).length - cntL u (allS td) then (allS td).length - cntL u (allS td) else cntL u (allS td))
def akGo (td : Tld) : Nat → Int32 × Int32
  | 0 => (-2, -2)
  | u + 1 => if (akGo td u).1 = -2 ∨ mstI td u < (akGo td u).2 then (nI u, mstI td u) else akGo td u
def akT (td : Tld) : Int32 × Int32 := if (allS td).length = 0 then (-2, -2) else akGo td td.2.2.1.length
/-- behind fitAt: 1 if there is no such set -/
def fatB (V : VSt) (i : Int32) : Bool := match vLed V with
  | some td => decide (0 ≤ i) && decide (¬ fndG td i (2 ^ td.2.2.1.length) = -1)
  | none => false
section
variable {d : Nat} {A : qA} {S : qS} {m : Nat} {V : VSt}
theorem onL_n {F : Tld → Int32} (h : vLed V = none) : onL V F = -1 := by unfold onL; rw [h]
theorem onL_s {F : Tld → Int32} {td : Tld} (h : vLed V = some td) : onL V F = F td := by unfold onL; rw [h]
set_option maxRecDepth 20000 in
theorem cm_fits {f : Int32 → qS → Prop} (h : MAt A S m V) (hv : vOk V) (hf : ∀ S', MAt A S' m (qst (vLed V).isSome V) → Fr S S' m (m + 27) → f (onL V fun td => nI (allS td).length) S') : Run (d + 12) 239 [.ref m] A S (kI A f) := by
  refine Run.i (C := mX11_fits_) rfl rfl rfl fun J hJ => ?_
  refine sX11_fits__0 hJ ⟨h.1.1.1, fun T e => ?_⟩
  subst e
  refine ⟨h.1.1.1, fun z => ⟨h.1.1.1, wc rfl, cm_refused h.t0 fun S' h2 hr2 => kI_i ?_⟩, fun q z => ?_⟩
  · have hn := mLed_n h.t0.2.2.2 z
    have := hf S'
    rw [onL_n hn, hn] at this
    exact this h2 (frT0 hr2)
  · obtain ⟨td, hL, -⟩ := mLed_s h.t0.2.2.2 z
    refine ⟨h.1.1.1, wc rfl, cm_fitting h.t0 hv hL fun S2 h2 hr2 a1 a2 a3 a4 => ?_⟩
    rw [a1]
    refine ⟨h.1.1.1, h.1.1.1, wc rfl, cm_good h2 fun S' h3 hr3 => kI_i ?_⟩
    have := hf S'
    rw [onL_s hL, hL] at this
    exact this h3 (frT0 (hr2.fr.trans hr3))
set_option maxRecDepth 20000 in
theorem cm_could {f : Int32 → qS → Prop} (h : MAt A S m V) (hv : vOk V) (hf : ∀ S', MAt A S' m (qst (vLed V).isSome V) → Fr S S' m (m + 27) → f (onL V fun td => orL (allS td) 0) S') : Run (d + 12) 241 [.ref m] A S (kI A f) := by
  refine Run.i (C := mX11_could) rfl rfl rfl fun J hJ => ?_
  refine sX11_could_0 hJ ⟨h.1.1.1, fun T e => ?_⟩
  subst e
  refine ⟨h.1.1.1, fun z => ⟨h.1.1.1, wc rfl, cm_refused h.t0 fun S' h2 hr2 => kI_i ?_⟩, fun q z => ?_⟩
  · have hn := mLed_n h.t0.2.2.2 z
    have := hf S'
    rw [onL_n hn, hn] at this
    exact this h2 (frT0 hr2)
  · obtain ⟨td, hL, -⟩ := mLed_s h.t0.2.2.2 z
    refine ⟨h.1.1.1, wc rfl, cm_fitting h.t0 hv hL fun S2 h2 hr2 a1 a2 a3 a4 => ?_⟩
    rw [a2]
    refine ⟨h.1.1.1, h.1.1.1, wc rfl, cm_good h2 fun S' h3 hr3 => kI_i ?_⟩
    have := hf S'
    rw [onL_s hL, hL] at this
    exact this h3 (frT0 (hr2.fr.trans hr3))
set_option maxRecDepth 20000 in
theorem cm_surely {f : Int32 → qS → Prop} (h : MAt A S m V) (hv : vOk V) (hf : ∀ S', MAt A S' m (qst (vLed V).isSome V) → Fr S S' m (m + 27) → f (onL V evI) S') : Run (d + 12) 242 [.ref m] A S (kI A f) := by
  refine Run.i (C := mX11_surely) rfl rfl rfl fun J hJ => ?_
  refine sX11_surely_0 hJ ⟨h.1.1.1, fun T e => ?_⟩
  subst e
  refine ⟨h.1.1.1, fun z => ⟨h.1.1.1, wc rfl, cm_refused h.t0 fun S' h2 hr2 => kI_i ?_⟩, fun q z => ?_⟩
  · have hn := mLed_n h.t0.2.2.2 z
    have := hf S'
    rw [onL_n hn, hn] at this
    exact this h2 (frT0 hr2)
  · obtain ⟨td, hL, -⟩ := mLed_s h.t0.2.2.2 z
    refine ⟨h.1.1.1, wc rfl, cm_fitting h.t0 hv hL fun S2 h2 hr2 a1 a2 a3 a4 => ?_⟩
    rw [a3]
    refine ⟨h.1.1.1, h.1.1.1, wc rfl, cm_good h2 fun S' h3 hr3 => kI_i ?_⟩
    have := hf S'
    rw [onL_s hL, hL] at this
    exact this h3 (frT0 (hr2.fr.trans hr3))
set_option maxRecDepth 20000 in
theorem cm_fitAt {i : Int32} {f : Int32 → qS → Prop} (h : MAt A S m V) (hv : vOk V) (hf : ∀ S', MAt A S' m (qst (fatB V i) V) → Fr S S' m (m + 27) → f (if fatB V i then onL V (fun td => fndG td i (2 ^ td.2.2.1.length)) else -1) S') : Run (d + 12) 240 [.ref m, .int i] A S (kI A f) := by
  refine Run.i (C := mX11_fitAt) rfl rfl rfl fun J hJ => ?_
  refine sX11_fitAt_0 hJ ⟨h.1.1.1, fun T e => ?_⟩
  subst e
  have no : fatB V i = false → ∀ S1, MAt A S1 m V → Fr (uI S m 0 0) S1 m (m + 27) → Run (d + 11) 138 [.ref m, .int 1] A S1 (kI A fun r S' => kI A f (some (.int r)) A S') := by
    intro z S1 h1 hr1
    refine cm_refused h1 fun S' h2 hr2 => kI_i ?_
    have := hf S'
    rw [z] at this
    exact this h2 (frT0 (hr1.trans hr2))
  refine ⟨h.1.1.1, fun z => ⟨h.1.1.1, wc rfl, no ?_ _ h.t0 Fr.rf⟩, fun q z => ?_⟩
  · have hn := mLed_n h.t0.2.2.2 z
    unfold fatB; rw [hn]
  · obtain ⟨td, hL, -⟩ := mLed_s h.t0.2.2.2 z
    have eb : fatB V i = (decide (0 ≤ i) && decide (¬ fndG td i (2 ^ td.2.2.1.length) = -1)) := by unfold fatB; rw [hL]
    refine ⟨fun y => ⟨h.1.1.1, wc rfl, cm_fitting h.t0 hv hL fun S2 h2 hr2 a1 a2 a3 a4 => ⟨fun y1 => ⟨h.1.1.1, wc rfl, cm_good h2 fun S' h3 hr3 => kI_i ?_⟩, fun y1 => ⟨h.1.1.1, wc rfl, no ?_ _ h2 hr2.fr⟩⟩⟩, fun y => ⟨h.1.1.1, wc rfl, no ?_ _ h.t0 Fr.rf⟩⟩
    · have e1 : fatB V i = true := by rw [eb, decide_eq_true y, decide_eq_true y1]; rfl
      have := hf S'
      rw [e1, if_pos rfl, onL_s hL] at this
      exact this h3 (frT0 (hr2.fr.trans hr3))
    · rw [eb, show decide (¬ fndG td i (2 ^ td.2.2.1.length) = -1) = false from decide_eq_false (fun w => w y1), Bool.and_false]
    · rw [eb, decide_eq_false y]; rfl
set_option maxRecDepth 20000 in
set_option maxHeartbeats 1000000 in
theorem cm_asks {td : Tld} {f : Int32 → qS → Prop} (h : MAt A S m V) (hv : vOk V) (hL : vLed V = some td) (hf : ∀ S', MAt A S' m V → Fk S S' m → gI S' m 49 = (akT td).2 → f (akT td).1 S') : Run (d + 12) 243 [.ref m] A S (kI A f) := by
  refine Run.i (C := mX11_asks) rfl rfl rfl fun J hJ => ?_
  have hl4 := (hv.1 td hL).2.2.2.1
  have hp16 : 2 ^ td.2.2.1.length ≤ 16 := by
    rcases (show td.2.2.1.length = 0 ∨ td.2.2.1.length = 1 ∨ td.2.2.1.length = 2 ∨ td.2.2.1.length = 3 ∨ td.2.2.1.length = 4 by omega) with e | e | e | e | e <;> rw [e] <;> decide
  have hlen : (allS td).length ≤ 16 := Nat.le_trans (ftL_len td _) hp16
  have hL1 := h.2.2.2
  rw [hL] at hL1
  obtain ⟨q, e3, hq, hLg⟩ := hL1
  refine sX11_asks_0 hJ ⟨h.1.1.1, wc rfl, cm_fitting h hv hL fun S2 h2 hr2 a1 a2 a3 a4 => ⟨h.1.1.1, fun T e => ?_⟩⟩
  subst e
  obtain ⟨H2, hH2⟩ := h2.2.1
  have loop : ∀ n u (Sj : qS) (w3 : Option Value) (b l : Int32), u + n = td.2.2.1.length → MAt A Sj m V → Fk S Sj m → gI Sj m 45 = nI (allS td).length → gI Sj m 49 = l → (∀ u, u < td.2.2.1.length → gI Sj (m + 26) u = nI (cntL u (allS td))) → (b, l) = (if (allS td).length = 0 then (-2, -2) else akGo td u) → J 17 [some (.ref m), some (.int b), some (.int (nI u)), w3] [] A Sj := by
    intro n
    induction n with
    | zero =>
      intro u Sj w3 b l hn hj hrj b1 b2 b4 hbl
      refine sX11_asks_17 hJ ?_
      have e3' : gR Sj m 3 = some q := (hrj.2 m 3).trans e3
      obtain ⟨⟨l0, -⟩, -, -, w2, -⟩ := hLg.fk hrj hq
      simp only [h.1.1.1, e3', l0, w2, nIle (show td.2.2.1.length ≤ 100000 by omega) (show u ≤ 100000 by omega), Option.some.injEq, Prod.mk.injEq, exists_eq_left', exists_eq_left, true_and, and_true, and_self, true_or, or_true, forall_const, exists_const, exists_and_left, wcat, Nat.zero_le, Nat.reduceLeDiff, Int32.lt_irrefl, not_false_eq_true, Nat.zero_add, forall_eq]
      refine ⟨fun _ => kI_i ?_, fun z => absurd (by omega) z⟩
      have eu : u = td.2.2.1.length := by omega
      rw [eu] at hbl
      have := hf Sj hj hrj
      have e1 : (b, l) = akT td := hbl
      rw [← e1] at this
      exact this b2
    | succ n ih =>
      intro u Sj w3 b l hn hj hrj b1 b2 b4 hbl
      refine sX11_asks_17 hJ ?_
      have e3' : gR Sj m 3 = some q := (hrj.2 m 3).trans e3
      obtain ⟨⟨l0, -⟩, -, -, w2, -⟩ := hLg.fk hrj hq
      obtain ⟨⟨k0, k1, k2, k3, k4, k5, k6, k7, k8, k9, k10, k11, k12, k13, k14, k15, k16, k17, k18, k19, k20, k21, k22, k23, k24, k25, k26⟩, ⟨r5, r15, r16, r17, r18, r21, r22, r23, r24, r25, r26, r27, r28, r29, r30, r31, r32, r33, r34, r35, r36, r37, r38, r39, r40, r48⟩⟩ := hj.1
      obtain ⟨Hj, hHj⟩ := hj.2.1
      have b5 := b4 u (by omega)
      have hcl := cntL_le u (allS td)
      simp only [k0, k26, r48, e3', l0, w2, b1, b2, b5, cl_n (show u ≤ 100000 by omega), vp_n (show u < 4 by omega) (show 4 ≤ 100000 by omega), nI_sub hcl, nIle (show cntL u (allS td) ≤ 100000 by omega) (show (allS td).length - cntL u (allS td) ≤ 100000 by omega), nIle (show td.2.2.1.length ≤ 100000 by omega) (show u ≤ 100000 by omega), not_le_0 (show (allS td).length ≤ 1000000000 by omega), nI_1, Option.some.injEq, Prod.mk.injEq, exists_eq_left', exists_eq_left, true_and, and_true, and_self, true_or, or_true, forall_const, exists_const, exists_and_left, wcat, Nat.zero_le, Nat.reduceLeDiff, Int32.lt_irrefl, not_false_eq_true, Nat.zero_add, forall_eq]
      refine ⟨fun z => absurd z (by omega), fun _ => ⟨fun z0 => kI_i ?_, fun z0 => ?_⟩⟩
      · rw [if_pos z0] at hbl
        have e1 : (b, l) = akT td := by rw [hbl, akT, if_pos z0]
        have := hf Sj hj hrj
        rw [← e1] at this
        exact this b2
      · rw [if_neg z0] at hbl
        have hb : (akGo td u).1 = b := by rw [← hbl]
        have hl' : (akGo td u).2 = l := by rw [← hbl]
        have set : ∀ x w3, x = mstI td u → (b = -2 ∨ x < l) → J 17 [some (.ref m), some (.int (nI u)), some (.int (nI (u + 1))), w3] [] A (uI Sj m 49 x) := by
          intro x w3 ex hor
          refine ih (u + 1) _ _ (nI u) x (by omega) (hj.fk (Fk.rf.uI (by unfold scr; omega)) hHj.one) (hrj.uI (by unfold scr; omega)) (by simp only [gI_uI, gL_uL, gR_uR, gI_uL, gI_uR, gL_uI, gL_uR, gR_uI, gR_uL, true_and, and_true, Nat.add_right_cancel_iff, Nat.add_left_cancel_iff, Nat.reduceEqDiff, Nat.left_eq_add, Nat.right_eq_add, Nat.add_eq_left, Nat.add_eq_right, Nat.reduceAdd, Nat.succ_ne_self, reduceCtorEq, false_and, and_false, if_false, if_true, ite_true, ite_false, ite_self, Nat.succ_ne_zero, Nat.add_one_ne_zero, not_false_eq_true, not_true_eq_false, Nat.one_ne_zero, Nat.zero_ne_one]; exact b1) (by simp only [gI_uI, gL_uL, gR_uR, gI_uL, gI_uR, gL_uI, gL_uR, gR_uI, gR_uL, true_and, and_true, Nat.add_right_cancel_iff, Nat.add_left_cancel_iff, Nat.reduceEqDiff, Nat.left_eq_add, Nat.right_eq_add, Nat.add_eq_left, Nat.add_eq_right, Nat.reduceAdd, Nat.succ_ne_self, reduceCtorEq, false_and, and_false, if_false, if_true, ite_true, ite_false, ite_self, Nat.succ_ne_zero, Nat.add_one_ne_zero, not_false_eq_true, not_true_eq_false, Nat.one_ne_zero, Nat.zero_ne_one]) (fun u' hu' => by simp only [gI_uI, gL_uL, gR_uR, gI_uL, gI_uR, gL_uI, gL_uR, gR_uI, gR_uL, true_and, and_true, Nat.add_right_cancel_iff, Nat.add_left_cancel_iff, Nat.reduceEqDiff, Nat.left_eq_add, Nat.right_eq_add, Nat.add_eq_left, Nat.add_eq_right, Nat.reduceAdd, Nat.succ_ne_self, reduceCtorEq, false_and, and_false, if_false, if_true, ite_true, ite_false, ite_self, Nat.succ_ne_zero, Nat.add_one_ne_zero, not_false_eq_true, not_true_eq_false, Nat.one_ne_zero, Nat.zero_ne_one]; exact b4 u' hu') ?_
          rw [if_neg z0, akGo, hb, hl', ← ex, if_pos hor]
        have skip : ∀ x w3, x = mstI td u → ¬ b = -2 → ¬ x < l → J 17 [some (.ref m), some (.int b), some (.int (nI (u + 1))), w3] [] A Sj := by
          intro x w3 ex h1 h2
          refine ih (u + 1) Sj _ b l (by omega) hj hrj b1 b2 b4 ?_
          rw [if_neg z0, akGo, hb, hl', ← ex, if_neg (fun w => by rcases w with w | w; exact h1 w; exact h2 w), ← hbl]
        refine ⟨fun y => ?_, fun y => ?_⟩
        · have ex : nI ((allS td).length - cntL u (allS td)) = mstI td u := by unfold mstI; rw [if_pos y]
          exact ⟨fun y1 => set _ _ ex (Or.inl y1), fun y1 => ⟨fun y2 => set _ _ ex (Or.inr y2), fun y2 => skip _ _ ex y1 y2⟩⟩
        · have ex : nI (cntL u (allS td)) = mstI td u := by unfold mstI; rw [if_neg y]
          exact ⟨fun y1 => set _ _ ex (Or.inl y1), fun y1 => ⟨fun y2 => set _ _ ex (Or.inr y2), fun y2 => skip _ _ ex y1 y2⟩⟩
  refine loop td.2.2.1.length 0 _ _ (-2) (-2) (by omega) (h2.fk (Fk.rf.uI (by unfold scr; omega)) hH2.one) (hr2.uI (by unfold scr; omega)) (by simp only [gI_uI, gL_uL, gR_uR, gI_uL, gI_uR, gL_uI, gL_uR, gR_uI, gR_uL, true_and, and_true, Nat.add_right_cancel_iff, Nat.add_left_cancel_iff, Nat.reduceEqDiff, Nat.left_eq_add, Nat.right_eq_add, Nat.add_eq_left, Nat.add_eq_right, Nat.reduceAdd, Nat.succ_ne_self, reduceCtorEq, false_and, and_false, if_false, if_true, ite_true, ite_false, ite_self, Nat.succ_ne_zero, Nat.add_one_ne_zero, not_false_eq_true, not_true_eq_false, Nat.one_ne_zero, Nat.zero_ne_one]; exact a1) (by simp only [gI_uI, gL_uL, gR_uR, gI_uL, gI_uR, gL_uI, gL_uR, gR_uI, gR_uL, true_and, and_true, Nat.add_right_cancel_iff, Nat.add_left_cancel_iff, Nat.reduceEqDiff, Nat.left_eq_add, Nat.right_eq_add, Nat.add_eq_left, Nat.add_eq_right, Nat.reduceAdd, Nat.succ_ne_self, reduceCtorEq, false_and, and_false, if_false, if_true, ite_true, ite_false, ite_self, Nat.succ_ne_zero, Nat.add_one_ne_zero, not_false_eq_true, not_true_eq_false, Nat.one_ne_zero, Nat.zero_ne_one]) (fun u hu => by simp only [gI_uI, gL_uL, gR_uR, gI_uL, gI_uR, gL_uI, gL_uR, gR_uI, gR_uL, true_and, and_true, Nat.add_right_cancel_iff, Nat.add_left_cancel_iff, Nat.reduceEqDiff, Nat.left_eq_add, Nat.right_eq_add, Nat.add_eq_left, Nat.add_eq_right, Nat.reduceAdd, Nat.succ_ne_self, reduceCtorEq, false_and, and_false, if_false, if_true, ite_true, ite_false, ite_self, Nat.succ_ne_zero, Nat.add_one_ne_zero, not_false_eq_true, not_true_eq_false, Nat.one_ne_zero, Nat.zero_ne_one]; exact a4 u hu) ?_
  split <;> rfl
set_option maxRecDepth 20000 in
theorem cm_ask {f : Int32 → qS → Prop} (h : MAt A S m V) (hv : vOk V) (hf : ∀ S', MAt A S' m (qst (vLed V).isSome V) → Fr S S' m (m + 27) → f (onL V fun td => (akT td).1) S') : Run (d + 13) 244 [.ref m] A S (kI A f) := by
  refine Run.i (C := mX11_ask) rfl rfl rfl fun J hJ => ?_
  refine sX11_ask_0 hJ ⟨h.1.1.1, fun T e => ?_⟩
  subst e
  refine ⟨h.1.1.1, fun z => ⟨h.1.1.1, wc rfl, cm_refused h.t0 fun S' h2 hr2 => kI_i ?_⟩, fun q z => ?_⟩
  · have hn := mLed_n h.t0.2.2.2 z
    have := hf S'
    rw [onL_n hn, hn] at this
    exact this h2 (frT0 hr2)
  · obtain ⟨td, hL, -⟩ := mLed_s h.t0.2.2.2 z
    refine ⟨h.1.1.1, wc rfl, cm_asks h.t0 hv hL fun S2 h2 hr2 a1 => ⟨h.1.1.1, wc rfl, cm_good h2 fun S' h3 hr3 => kI_i ?_⟩⟩
    have := hf S'
    rw [onL_s hL, hL] at this
    exact this h3 (frT0 (hr2.fr.trans hr3))
set_option maxRecDepth 20000 in
theorem cm_askLeaves {f : Int32 → qS → Prop} (h : MAt A S m V) (hv : vOk V) (hf : ∀ S', MAt A S' m (qst (vLed V).isSome V) → Fr S S' m (m + 27) → f (onL V fun td => (akT td).2) S') : Run (d + 13) 245 [.ref m] A S (kI A f) := by
  refine Run.i (C := mX11_askLeaves) rfl rfl rfl fun J hJ => ?_
  refine sX11_askLeaves_0 hJ ⟨h.1.1.1, fun T e => ?_⟩
  subst e
  refine ⟨h.1.1.1, fun z => ⟨h.1.1.1, wc rfl, cm_refused h.t0 fun S' h2 hr2 => kI_i ?_⟩, fun q z => ?_⟩
  · have hn := mLed_n h.t0.2.2.2 z
    have := hf S'
    rw [onL_n hn, hn] at this
    exact this h2 (frT0 hr2)
  · obtain ⟨td, hL, -⟩ := mLed_s h.t0.2.2.2 z
    refine ⟨h.1.1.1, wc rfl, cm_asks h.t0 hv hL fun S2 h2 hr2 a1 => ?_⟩
    rw [a1]
    refine ⟨h.1.1.1, h.1.1.1, wc rfl, cm_good h2 fun S' h3 hr3 => kI_i ?_⟩
    have := hf S'
    rw [onL_s hL, hL] at this
    exact this h3 (frT0 (hr2.fr.trans hr3))
end
