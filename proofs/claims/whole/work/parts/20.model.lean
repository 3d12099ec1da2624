/-! THE REFERENCE: its cells; lots -/
def mK (A : qA) (m : Nat) : Prop := A.1 m = some (11, 0) ∧ A.1 (m + 1) = some (12, 900) ∧ A.1 (m + 2) = some (13, 145) ∧ A.1 (m + 3) = some (13, 217) ∧ A.1 (m + 4) = some (13, 2320) ∧ A.1 (m + 5) = some (13, 435) ∧ A.1 (m + 6) = some (13, 36) ∧ A.1 (m + 7) = some (13, 36) ∧ A.1 (m + 8) = some (13, 3) ∧ A.1 (m + 9) = some (13, 120) ∧ A.1 (m + 10) = some (13, 120) ∧ A.1 (m + 11) = some (13, 120) ∧ A.1 (m + 12) = some (13, 120) ∧ A.1 (m + 13) = some (15, 120) ∧ A.1 (m + 14) = some (14, 120) ∧ A.1 (m + 15) = some (13, 36) ∧ A.1 (m + 16) = some (13, 36) ∧ A.1 (m + 17) = some (13, 640) ∧ A.1 (m + 18) = some (13, 640) ∧ A.1 (m + 19) = some (13, 640) ∧ A.1 (m + 20) = some (13, 640) ∧ A.1 (m + 21) = some (13, 640) ∧ A.1 (m + 22) = some (14, 640) ∧ A.1 (m + 23) = some (14, 640) ∧ A.1 (m + 24) = some (14, 640) ∧ A.1 (m + 25) = some (14, 640) ∧ A.1 (m + 26) = some (13, 4)
def mR (S : qS) (m : Nat) : Prop := gR S m 5 = some (m + 1) ∧ gR S m 15 = some (m + 2) ∧ gR S m 16 = some (m + 3) ∧ gR S m 17 = some (m + 4) ∧ gR S m 18 = some (m + 5) ∧ gR S m 21 = some (m + 6) ∧ gR S m 22 = some (m + 7) ∧ gR S m 23 = some (m + 8) ∧ gR S m 24 = some (m + 9) ∧ gR S m 25 = some (m + 10) ∧ gR S m 26 = some (m + 11) ∧ gR S m 27 = some (m + 12) ∧ gR S m 28 = some (m + 13) ∧ gR S m 29 = some (m + 14) ∧ gR S m 30 = some (m + 15) ∧ gR S m 31 = some (m + 16) ∧ gR S m 32 = some (m + 17) ∧ gR S m 33 = some (m + 18) ∧ gR S m 34 = some (m + 19) ∧ gR S m 35 = some (m + 20) ∧ gR S m 36 = some (m + 21) ∧ gR S m 37 = some (m + 22) ∧ gR S m 38 = some (m + 23) ∧ gR S m 39 = some (m + 24) ∧ gR S m 40 = some (m + 25) ∧ gR S m 48 = some (m + 26)
def mI (A : qA) (S : qS) (m : Nat) : Prop := mK A m ∧ mR S m
theorem mR.fr {S S' : qS} {m : Nat} (h : mR S m) (e : ∀ k, gR S' m k = gR S m k) : mR S' m := by
  obtain ⟨r5, r15, r16, r17, r18, r21, r22, r23, r24, r25, r26, r27, r28, r29, r30, r31, r32, r33, r34, r35, r36, r37, r38, r39, r40, r48⟩ := h
  exact ⟨(e _).trans r5, (e _).trans r15, (e _).trans r16, (e _).trans r17, (e _).trans r18, (e _).trans r21, (e _).trans r22, (e _).trans r23, (e _).trans r24, (e _).trans r25, (e _).trans r26, (e _).trans r27, (e _).trans r28, (e _).trans r29, (e _).trans r30, (e _).trans r31, (e _).trans r32, (e _).trans r33, (e _).trans r34, (e _).trans r35, (e _).trans r36, (e _).trans r37, (e _).trans r38, (e _).trans r39, (e _).trans r40, (e _).trans r48⟩
/-- what booking may change: rows lo .. hi, the fields u .. v -/
def Fm (S S' : qS) (m lo hi u v : Nat) : Prop := (∀ b, (b < m + lo ∨ m + hi ≤ b) → ∀ k, ¬ (b = m ∧ u ≤ k ∧ k < v) → gI S' b k = gI S b k ∧ gL S' b k = gL S b k) ∧ ∀ b k, gR S' b k = gR S b k
theorem Fm.rf {S : qS} {m lo hi u v : Nat} : Fm S S m lo hi u v := ⟨fun _ _ _ _ => ⟨rfl, rfl⟩, fun _ _ => rfl⟩
theorem Fm.trans {S S' S'' : qS} {m lo hi u v : Nat} (h : Fm S S' m lo hi u v) (h' : Fm S' S'' m lo hi u v) : Fm S S'' m lo hi u v := ⟨fun b z k n => ⟨(h'.1 b z k n).1.trans (h.1 b z k n).1, (h'.1 b z k n).2.trans (h.1 b z k n).2⟩, fun b k => (h'.2 b k).trans (h.2 b k)⟩
theorem Fm.wide {S S' : qS} {m lo hi u v lo' hi' u' v' : Nat} (h : Fm S S' m lo hi u v) (h1 : lo' ≤ lo ∧ hi ≤ hi' ∧ (v ≤ u ∨ u' ≤ u ∧ v ≤ v')) : Fm S S' m lo' hi' u' v' := ⟨fun b z k n => h.1 b (by omega) k (by omega), h.2⟩
theorem Fm.uI {S S' : qS} {m lo hi u v a k : Nat} {x : Int32} (h : Fm S S' m lo hi u v) (h1 : m + lo ≤ a ∧ a < m + hi ∨ a = m ∧ u ≤ k ∧ k < v) : Fm S (uI S' a k x) m lo hi u v := ⟨fun b z j n => ⟨by rw [gI_uI, if_neg (by omega)]; exact (h.1 b z j n).1, (h.1 b z j n).2⟩, h.2⟩
theorem Fm.uL {S S' : qS} {m lo hi u v a k : Nat} {x : Int64} (h : Fm S S' m lo hi u v) (h1 : m + lo ≤ a ∧ a < m + hi ∨ a = m ∧ u ≤ k ∧ k < v) : Fm S (uL S' a k x) m lo hi u v := ⟨fun b z j n => ⟨(h.1 b z j n).1, by rw [gL_uL, if_neg (by omega)]; exact (h.1 b z j n).2⟩, h.2⟩
theorem mI.fm {A : qA} {S S' : qS} {m lo hi u v : Nat} (h : mI A S m) (hf : Fm S S' m lo hi u v) : mI A S' m := ⟨h.1, h.2.fr (fun k => hf.2 m k)⟩
/-- the lot's row j -/
def mlot (S : qS) (m j : Nat) (l : Lot) : Prop := gI S (m + 9) j = l.1 ∧ gL S (m + 14) j = l.2.1 ∧ gI S (m + 10) j = l.2.2.1 ∧ gI S (m + 11) j = l.2.2.2.1 ∧ gI S (m + 13) j = bI l.2.2.2.2.1 ∧ gI S (m + 12) j = l.2.2.2.2.2
def MLot (S : qS) (m p : Nat) (L : List Lot) : Prop := gI S (m + 8) p = nI L.length ∧ L.length ≤ 40 ∧ ∀ i, i < L.length → mlot S m (p * 40 + i) (lt L i)
def MH (S : qS) (m : Nat) (H : Nat → List Lot) : Prop := ∀ q, q < 3 → MLot S m q (H q)
def rowE (S S' : qS) (m j j' : Nat) : Prop := (∀ b, m + 9 ≤ b → b < m + 14 → gI S' b j' = gI S b j) ∧ gL S' (m + 14) j' = gL S (m + 14) j
theorem rowE.lot {S S' : qS} {m j j' : Nat} {l : Lot} (h : rowE S S' m j j') (hl : mlot S m j l) : mlot S' m j' l := by
  obtain ⟨h1, h2⟩ := h
  obtain ⟨z0, z1, z2, z3, z4, z5⟩ := hl
  exact ⟨(h1 _ (by omega) (by omega)).trans z0, h2.trans z1, (h1 _ (by omega) (by omega)).trans z2, (h1 _ (by omega) (by omega)).trans z3, (h1 _ (by omega) (by omega)).trans z4, (h1 _ (by omega) (by omega)).trans z5⟩
theorem MH.set {S S' : qS} {m p : Nat} {H : Nat → List Lot} {L : List Lot} (h : MH S m H) (hp : p < 3) (hm : gI S' (m + 8) p = nI L.length) (hq : ∀ q, ¬ q = p → gI S' (m + 8) q = gI S (m + 8) q) (hL : L.length ≤ 40) (hr : ∀ i, i < L.length → mlot S' m (p * 40 + i) (lt L i)) (hs : ∀ j, (j < p * 40 ∨ p * 40 + 40 ≤ j) → rowE S S' m j j) : MH S' m (upH H p L) := by
  intro q hq3
  by_cases e : q = p
  · subst e; rw [upH_at]; exact ⟨hm, hL, hr⟩
  · rw [upH, if_neg e]
    obtain ⟨a1, a2, a3⟩ := h q hq3
    exact ⟨(hq q e).trans a1, a2, fun i hi => (hs _ (by omega)).lot (a3 i hi)⟩
theorem MH.fm {S S' : qS} {m lo hi u v : Nat} {H : Nat → List Lot} (h : MH S m H) (hf : Fm S S' m lo hi u v) (hd : hi ≤ 8 ∨ 15 ≤ lo) : MH S' m H := by
  intro q hq
  obtain ⟨a1, a2, a3⟩ := h q hq
  refine ⟨((hf.1 (m + 8) (by omega) q (by omega)).1).trans a1, a2, fun i hi => rowE.lot ⟨fun b b1 b2 => (hf.1 b (by omega) _ (by omega)).1, (hf.1 (m + 14) (by omega) _ (by omega)).2⟩ (a3 i hi)⟩
/-- rows are moved: row k is what row σ k was -/
def Mv (S S' : qS) (m : Nat) (σ : Nat → Nat) : Prop := (∀ b k, gI S' b k = if m + 9 ≤ b ∧ b < m + 14 then gI S b (σ k) else gI S b k) ∧ (∀ b k, gL S' b k = if b = m + 14 then gL S b (σ k) else gL S b k) ∧ ∀ b k, gR S' b k = gR S b k
theorem Mv.row {S S' : qS} {m : Nat} {σ : Nat → Nat} (h : Mv S S' m σ) (k : Nat) : rowE S S' m (σ k) k := ⟨fun b b1 b2 => by rw [h.1, if_pos ⟨b1, b2⟩], by rw [h.2.1, if_pos rfl]⟩
theorem Mv.fm {S S' : qS} {m : Nat} {σ : Nat → Nat} (h : Mv S S' m σ) : Fm S S' m 8 15 41 41 := ⟨fun b z k n => ⟨by rw [h.1, if_neg (by omega)], by rw [h.2.1, if_neg (by omega)]⟩, h.2.2⟩
theorem Mv.comp {S S' S'' : qS} {m : Nat} {σ τ : Nat → Nat} (h : Mv S S' m σ) (h' : Mv S' S'' m τ) : Mv S S'' m (fun k => σ (τ k)) := by
  refine ⟨fun b k => ?_, fun b k => ?_, fun b k => (h'.2.2 b k).trans (h.2.2 b k)⟩
  · rw [h'.1]
    split
    · rename_i z; rw [h.1, if_pos z]
    · rename_i z; rw [h.1, if_neg z]
  · rw [h'.2.1]
    split
    · rename_i z; rw [h.2.1, if_pos z]
    · rename_i z; rw [h.2.1, if_neg z]
theorem Mv.id {S : qS} {m : Nat} : Mv S S m (fun k => k) := ⟨fun b k => by split <;> rfl, fun b k => by split <;> rfl, fun _ _ => rfl⟩
theorem Mv.eq {S S' : qS} {m : Nat} {σ τ : Nat → Nat} (h : Mv S S' m σ) (e : ∀ k, σ k = τ k) : Mv S S' m τ := by
  rw [← show σ = τ from funext e]; exact h
theorem nI40 (p : Nat) : nI p * 40 = nI (p * 40) := nI_mul p 40
section
variable {d : Nat} {A : qA} {S : qS} {m : Nat} {H : Nat → List Lot}
set_option maxRecDepth 20000 in
theorem cm_of {a t c n : Nat} {x : Int32} {f : Int32 → qS → Prop} (hx : x = nI c) (hk : A.1 a = some (13, n)) (hc : 6 * t + c < n) (hn : n ≤ 100000) (hf : f (gI S a (6 * t + c)) S) : Run (d + 1) 146 [.ref a, .int (nI t), .int x] A S (kI A f) := by
  refine Run.i (C := mX11_of) rfl rfl rfl fun J hJ => ?_
  subst hx
  refine sX11_of_0 hJ ?_
  have e : (6 : Int32) * nI t + nI c = nI (6 * t + c) := by rw [show (6 : Int32) = nI 6 from rfl, nI_mul, nI_add]
  simp only [e, hk, cl_n (show 6 * t + c ≤ 100000 by omega), vp_n hc hn, Option.some.injEq, Prod.mk.injEq, exists_eq_left', exists_eq_left, true_and, and_true, and_self, true_or, or_true, forall_const, exists_const, exists_and_left, wcat, Nat.zero_le, Nat.reduceLeDiff, Int32.lt_irrefl, not_false_eq_true, Nat.zero_add, forall_eq]
  exact kI_i hf
set_option maxRecDepth 20000 in
theorem cm_lotEnd {p n : Nat} {f : Int32 → qS → Prop} (h : mI A S m) (hn : gI S (m + 8) p = nI n) (hp : p < 3) (hf : f (nI (p * 40 + n)) S) : Run (d + 1) 183 [.ref m, .int (nI p)] A S (kI A f) := by
  refine Run.i (C := mX11_lotEnd) rfl rfl rfl fun J hJ => ?_
  obtain ⟨⟨k0, k1, k2, k3, k4, k5, k6, k7, k8, k9, k10, k11, k12, k13, k14, k15, k16, k17, k18, k19, k20, k21, k22, k23, k24, k25, k26⟩, ⟨r5, r15, r16, r17, r18, r21, r22, r23, r24, r25, r26, r27, r28, r29, r30, r31, r32, r33, r34, r35, r36, r37, r38, r39, r40, r48⟩⟩ := h
  refine sX11_lotEnd_0 hJ ?_
  simp only [k0, k8, r23, cl_n (show p ≤ 100000 by omega), vp_n hp (show 3 ≤ 100000 by omega), hn, nI40, nI_add, Option.some.injEq, Prod.mk.injEq, exists_eq_left', exists_eq_left, true_and, and_true, and_self, true_or, or_true, forall_const, exists_const, exists_and_left, wcat, Nat.zero_le, Nat.reduceLeDiff, Int32.lt_irrefl, not_false_eq_true, Nat.zero_add, forall_eq]
  exact kI_i hf
set_option maxRecDepth 20000 in
set_option maxHeartbeats 2000000 in
theorem cm_moves {j j' : Nat} {f : qS → Prop} (h : mI A S m) (hj : j < 120) (hj' : j' < 120) (hw : gI S (m + 13) j = 0 ∨ gI S (m + 13) j = 1) (hf : ∀ S', Mv S S' m (fun k => if k = j' then j else k) → f S') : Run (d + 1) 182 [.ref m, .int (nI j), .int (nI j')] A S (kV A f) := by
  refine Run.i (C := mX11_moves) rfl rfl rfl fun J hJ => ?_
  obtain ⟨⟨k0, k1, k2, k3, k4, k5, k6, k7, k8, k9, k10, k11, k12, k13, k14, k15, k16, k17, k18, k19, k20, k21, k22, k23, k24, k25, k26⟩, ⟨r5, r15, r16, r17, r18, r21, r22, r23, r24, r25, r26, r27, r28, r29, r30, r31, r32, r33, r34, r35, r36, r37, r38, r39, r40, r48⟩⟩ := h
  refine sX11_moves_0 hJ ?_
  have hw' : (gI S (m + 13) j = 0 ∨ gI S (m + 13) j = 1) = True := by simp [hw]
  simp only [k0, k9, k10, k11, k12, k13, k14, r24, r25, r26, r27, r28, r29, cl_n (show j ≤ 100000 by omega), cl_n (show j' ≤ 100000 by omega), vp_n hj (show 120 ≤ 100000 by omega), vp_n hj' (show 120 ≤ 100000 by omega), hw', Option.some.injEq, Prod.mk.injEq, exists_eq_left', exists_eq_left, true_and, and_true, and_self, true_or, or_true, forall_const, exists_const, exists_and_left, wcat, Nat.zero_le, Nat.reduceLeDiff, Int32.lt_irrefl, not_false_eq_true, Nat.zero_add, forall_eq, gI_uI, gL_uL, gR_uR, gI_uL, gI_uR, gL_uI, gL_uR, gR_uI, gR_uL, true_and, and_true, Nat.add_right_cancel_iff, Nat.add_left_cancel_iff, Nat.reduceEqDiff, Nat.left_eq_add, Nat.right_eq_add, Nat.add_eq_left, Nat.add_eq_right, Nat.reduceAdd, Nat.succ_ne_self, reduceCtorEq, false_and, and_false, if_false, if_true, ite_true, ite_false, ite_self, Nat.succ_ne_zero, Nat.add_one_ne_zero, not_false_eq_true, not_true_eq_false, Nat.one_ne_zero, Nat.zero_ne_one]
  refine kV_i (hf _ ⟨fun b k => ?_, fun b k => ?_, fun b k => rfl⟩)
  · by_cases hb : m + 9 ≤ b ∧ b < m + 14
    · rw [if_pos hb]
      rcases (show b = m + 9 ∨ b = m + 10 ∨ b = m + 11 ∨ b = m + 12 ∨ b = m + 13 by omega) with e | e | e | e | e
      all_goals subst e
      all_goals simp only [gI_uI, gL_uL, gR_uR, gI_uL, gI_uR, gL_uI, gL_uR, gR_uI, gR_uL, true_and, and_true, Nat.add_right_cancel_iff, Nat.add_left_cancel_iff, Nat.reduceEqDiff, Nat.left_eq_add, Nat.right_eq_add, Nat.add_eq_left, Nat.add_eq_right, Nat.reduceAdd, Nat.succ_ne_self, reduceCtorEq, false_and, and_false, if_false, if_true, ite_true, ite_false, ite_self, Nat.succ_ne_zero, Nat.add_one_ne_zero, not_false_eq_true, not_true_eq_false, Nat.one_ne_zero, Nat.zero_ne_one]
      all_goals split <;> rfl
    · rw [if_neg hb]
      have e1 : (b = m + 9) = False := by simp only [eq_iff_iff, iff_false]; omega
      have e2 : (b = m + 10) = False := by simp only [eq_iff_iff, iff_false]; omega
      have e3 : (b = m + 11) = False := by simp only [eq_iff_iff, iff_false]; omega
      have e4 : (b = m + 12) = False := by simp only [eq_iff_iff, iff_false]; omega
      have e5 : (b = m + 13) = False := by simp only [eq_iff_iff, iff_false]; omega
      simp only [gI_uI, gL_uL, gR_uR, gI_uL, gI_uR, gL_uI, gL_uR, gR_uI, gR_uL, true_and, and_true, Nat.add_right_cancel_iff, Nat.add_left_cancel_iff, Nat.reduceEqDiff, Nat.left_eq_add, Nat.right_eq_add, Nat.add_eq_left, Nat.add_eq_right, Nat.reduceAdd, Nat.succ_ne_self, reduceCtorEq, false_and, and_false, if_false, if_true, ite_true, ite_false, ite_self, Nat.succ_ne_zero, Nat.add_one_ne_zero, not_false_eq_true, not_true_eq_false, Nat.one_ne_zero, Nat.zero_ne_one, e1, e2, e3, e4, e5]
  · simp only [gI_uI, gL_uL, gR_uR, gI_uL, gI_uR, gL_uI, gL_uR, gR_uI, gR_uL]
    by_cases hb : b = m + 14
    · subst hb
      rw [if_pos rfl]
      simp only [true_and, and_true, Nat.add_right_cancel_iff, Nat.add_left_cancel_iff, Nat.reduceEqDiff, Nat.left_eq_add, Nat.right_eq_add, Nat.add_eq_left, Nat.add_eq_right, Nat.reduceAdd, Nat.succ_ne_self, reduceCtorEq, false_and, and_false, if_false, if_true, ite_true, ite_false, ite_self, Nat.succ_ne_zero, Nat.add_one_ne_zero, not_false_eq_true, not_true_eq_false, Nat.one_ne_zero, Nat.zero_ne_one]
      split <;> rfl
    · rw [if_neg hb, if_neg (fun z => hb z.1)]
theorem rowE.u8 {S S' : qS} {m j j' k : Nat} {v : Int32} (h : rowE S S' m j j') : rowE S (uI S' (m + 8) k v) m j j' := ⟨fun b b1 b2 => by rw [gI_uI, if_neg (by omega)]; exact h.1 b b1 b2, h.2⟩
set_option maxRecDepth 20000 in
set_option maxHeartbeats 2000000 in
theorem cm_drops {p i : Nat} {f : qS → Prop} (h : mI A S m) (hH : MH S m H) (hp : p < 3) (hi : i < (H p).length) (hf : ∀ S', MH S' m (upH H p ((H p).eraseIdx i)) → Fm S S' m 8 15 41 41 → f S') : Run (d + 2) 184 [.ref m, .int (nI p), .int (nI (p * 40 + i))] A S (kV A f) := by
  refine Run.i (C := mX11_drops) rfl rfl rfl fun J hJ => ?_
  obtain ⟨hm, hl, hrow⟩ := hH p hp
  have loop : ∀ n k (Sj : qS) (w2 : Option Value), i + 1 ≤ k → k + n = (H p).length → Mv S Sj m (fun j => if p * 40 + i ≤ j ∧ j + 1 < p * 40 + k then j + 1 else j) → J 4 [some (.ref m), some (.int (nI p)), w2, some (.int (nI (p * 40 + k)))] [] A Sj := by
    intro n
    induction n with
    | zero =>
      intro k Sj w2 h1 h2 hv
      refine sX11_drops_4 hJ ?_
      have hI := h.fm hv.fm
      have hn : gI Sj (m + 8) p = nI (H p).length := by rw [hv.1, if_neg (by omega)]; exact hm
      simp only [hI.1.1, Option.some.injEq, Prod.mk.injEq, exists_eq_left', exists_eq_left, true_and, and_true, and_self, true_or, or_true, forall_const, exists_const, exists_and_left, wcat, Nat.zero_le, Nat.reduceLeDiff, Int32.lt_irrefl, not_false_eq_true, Nat.zero_add, forall_eq]
      refine cm_lotEnd hI hn hp ?_
      obtain ⟨⟨k0, k1, k2, k3, k4, k5, k6, k7, k8, k9, k10, k11, k12, k13, k14, k15, k16, k17, k18, k19, k20, k21, k22, k23, k24, k25, k26⟩, ⟨r5, r15, r16, r17, r18, r21, r22, r23, r24, r25, r26, r27, r28, r29, r30, r31, r32, r33, r34, r35, r36, r37, r38, r39, r40, r48⟩⟩ := hI
      simp only [k8, r23, hn, cl_n (show p ≤ 100000 by omega), vp_n hp (show 3 ≤ 100000 by omega), nIle (show p * 40 + (H p).length ≤ 100000 by omega) (show p * 40 + k ≤ 100000 by omega), Option.some.injEq, Prod.mk.injEq, exists_eq_left', exists_eq_left, true_and, and_true, and_self, true_or, or_true, forall_const, exists_const, exists_and_left, wcat, Nat.zero_le, Nat.reduceLeDiff, Int32.lt_irrefl, not_false_eq_true, Nat.zero_add, forall_eq]
      refine ⟨fun _ => kV_i (hf _ (hH.set hp ?_ (fun q hq => ?_) ?_ (fun j hj => ?_) (fun j hj => ?_)) (hv.fm.uI (by omega))), fun c => absurd (by omega) c⟩
      · rw [List.length_eraseIdx_of_lt hi]
        simp only [gI_uI, gL_uL, gR_uR, gI_uL, gI_uR, gL_uI, gL_uR, gR_uI, gR_uL, true_and, and_true, Nat.add_right_cancel_iff, Nat.add_left_cancel_iff, Nat.reduceEqDiff, Nat.left_eq_add, Nat.right_eq_add, Nat.add_eq_left, Nat.add_eq_right, Nat.reduceAdd, Nat.succ_ne_self, reduceCtorEq, false_and, and_false, if_false, if_true, ite_true, ite_false, ite_self, Nat.succ_ne_zero, Nat.add_one_ne_zero, not_false_eq_true, not_true_eq_false, Nat.one_ne_zero, Nat.zero_ne_one]
        rw [show (H p).length = (H p).length - 1 + 1 by omega, nI_pred, Nat.add_sub_cancel]
      · simp only [gI_uI, gL_uL, gR_uR, gI_uL, gI_uR, gL_uI, gL_uR, gR_uI, gR_uL, hq, and_false, if_false]
        rw [hv.1, if_neg (by omega)]
      · rw [List.length_eraseIdx_of_lt hi]; omega
      · rw [List.length_eraseIdx_of_lt hi] at hj
        rw [lt_del]
        have hr := (hv.row (p * 40 + j)).u8 (k := p) (v := nI (H p).length - 1)
        by_cases c : j < i
        · rw [if_pos c]
          rw [if_neg (by omega)] at hr
          exact hr.lot (hrow j (by omega))
        · rw [if_neg c]
          rw [if_pos (by omega)] at hr
          exact hr.lot (hrow (j + 1) (by omega))
      · have hr := (hv.row j).u8 (k := p) (v := nI (H p).length - 1)
        rw [if_neg (by omega)] at hr
        exact hr
    | succ n ih =>
      intro k Sj w2 h1 h2 hv
      refine sX11_drops_4 hJ ?_
      have hI := h.fm hv.fm
      have hn : gI Sj (m + 8) p = nI (H p).length := by rw [hv.1, if_neg (by omega)]; exact hm
      simp only [hI.1.1, Option.some.injEq, Prod.mk.injEq, exists_eq_left', exists_eq_left, true_and, and_true, and_self, true_or, or_true, forall_const, exists_const, exists_and_left, wcat, Nat.zero_le, Nat.reduceLeDiff, Int32.lt_irrefl, not_false_eq_true, Nat.zero_add, forall_eq]
      refine cm_lotEnd hI hn hp ?_
      have e1 : nI (p * 40 + k) - 1 = nI (p * 40 + (k - 1)) := by
        have := nI_pred (p * 40 + (k - 1))
        rwa [show p * 40 + (k - 1) + 1 = p * 40 + k by omega] at this
      simp only [nIle (show p * 40 + (H p).length ≤ 100000 by omega) (show p * 40 + k ≤ 100000 by omega), e1, nI_1]
      refine ⟨fun c => absurd c (by omega), fun _ => cm_moves hI (by omega) (by omega) ?_ fun S' hv' => ?_⟩
      · rw [hv.1, if_pos (by omega)]; dsimp only; rw [if_neg (by omega), (hrow k (by omega)).2.2.2.2.1]
        exact bI_z _
      · refine ih (k + 1) S' _ (by omega) (by omega) ((hv.comp hv').eq fun j => ?_)
        by_cases ej : j = p * 40 + (k - 1)
        · simp only [ej, if_true]
          repeat' split
          all_goals omega
        · simp only [ej, if_false]
          repeat' split
          all_goals omega
  refine sX11_drops_0 hJ ?_
  rw [nI_1]
  exact loop ((H p).length - (i + 1)) (i + 1) S _ (Nat.le_refl _) (by omega) (Mv.id.eq fun j => by split <;> omega)
theorem nI_m1lt {a : Nat} (h : a ≤ 100000) : nI a - 1 < nI a := by
  cases a with
  | zero => decide
  | succ a => rw [nI_pred, nIlt (by omega) (by omega)]; omega
set_option maxRecDepth 20000 in
set_option maxHeartbeats 4000000 in
theorem cm_parts {p i x s : Nat} {f : qS → Prop} (h : mI A S m) (hH : MH S m H) (hp : p < 3) (hi : i < (H p).length) (hn : (H p).length < 40) (hs : (lt (H p) i).1 = nI s) (hx : 1 ≤ x) (hxs : x ≤ s) (hsb : s ≤ mxN) (hf : ∀ S', MH S' m (upH H p (partIf (H p) i (nI x))) → Fm S S' m 8 15 41 41 → f S') : Run (d + 2) 185 [.ref m, .int (nI p), .int (nI (p * 40 + i)), .int (nI x)] A S (kV A f) := by
  refine Run.i (C := mX11_parts) rfl rfl rfl fun J hJ => ?_
  obtain ⟨hm, hl, hrow⟩ := hH p hp
  unfold mxN at hsb
  have loop : ∀ n k (Sj : qS), k = i + n → k ≤ (H p).length → x < s → Mv S Sj m (fun j => if p * 40 + k < j ∧ j ≤ p * 40 + (H p).length then j - 1 else j) → J 24 [some (.ref m), some (.int (nI p)), some (.int (nI (p * 40 + i))), some (.int (nI x)), some (.int (nI s)), some (.int (nI (p * 40 + k) - 1))] [] A Sj := by
    intro n
    induction n with
    | zero =>
      intro k Sj hk hkl hlt hv
      have hk : k = i := by omega
      rw [hk] at hv ⊢
      refine sX11_parts_24 hJ ?_
      obtain ⟨⟨k0, k1, k2, k3, k4, k5, k6, k7, k8, k9, k10, k11, k12, k13, k14, k15, k16, k17, k18, k19, k20, k21, k22, k23, k24, k25, k26⟩, ⟨r5, r15, r16, r17, r18, r21, r22, r23, r24, r25, r26, r27, r28, r29, r30, r31, r32, r33, r34, r35, r36, r37, r38, r39, r40, r48⟩⟩ := h.fm hv.fm
      have hm' : gI Sj (m + 8) p = nI (H p).length := by rw [hv.1, if_neg (by omega)]; exact hm
      have c1 : gL Sj (m + 14) (p * 40 + i) = (lt (H p) i).2.1 := by rw [hv.2.1, if_pos rfl]; dsimp only; rw [if_neg (by omega)]; exact (hrow i hi).2.1
      have c2 : gL Sj (m + 14) (p * 40 + i + 1) = (lt (H p) i).2.1 := by rw [hv.2.1, if_pos rfl]; dsimp only; rw [if_pos (by omega), Nat.add_sub_cancel]; exact (hrow i hi).2.1
      have lt1 : (nI (p * 40 + i) - 1 < nI (p * 40 + i)) = True := by simp only [eq_iff_iff, iff_true]; exact nI_m1lt (by omega)
      have nz : ¬ (nI s).toInt64 = 0 := i64_0 (nI_ne0 (by omega) (by omega))
      simp only [lt1, k0, k8, k9, k14, r23, r24, r29, hm', c1, c2, nz, nI_1, cl_n (show p ≤ 100000 by omega), vp_n hp (show 3 ≤ 100000 by omega), cl_n (show p * 40 + i ≤ 100000 by omega), cl_n (show p * 40 + i + 1 ≤ 100000 by omega), vp_n (show p * 40 + i < 120 by omega) (show 120 ≤ 100000 by omega), vp_n (show p * 40 + i + 1 < 120 by omega) (show 120 ≤ 100000 by omega), not_true_eq_false, false_imp_iff, true_imp_iff, Option.some.injEq, Prod.mk.injEq, exists_eq_left', exists_eq_left, true_and, and_true, and_self, true_or, or_true, forall_const, exists_const, exists_and_left, wcat, Nat.zero_le, Nat.reduceLeDiff, Int32.lt_irrefl, not_false_eq_true, Nat.zero_add, forall_eq, gI_uI, gL_uL, gR_uR, gI_uL, gI_uR, gL_uI, gL_uR, gR_uI, gR_uL, true_and, and_true, Nat.add_right_cancel_iff, Nat.add_left_cancel_iff, Nat.reduceEqDiff, Nat.left_eq_add, Nat.right_eq_add, Nat.add_eq_left, Nat.add_eq_right, Nat.reduceAdd, Nat.succ_ne_self, reduceCtorEq, false_and, and_false, if_false, if_true, ite_true, ite_false, ite_self, Nat.succ_ne_zero, Nat.add_one_ne_zero, not_false_eq_true, not_true_eq_false, Nat.one_ne_zero, Nat.zero_ne_one]
      have ep : partIf (H p) i (nI x) = partL (H p) i (nI x) := by
        unfold partIf
        rw [if_pos ⟨by rw [not_le_0 (by omega)]; omega, by rw [hs, nIltB (by omega) (by omega)]; exact hlt⟩]
      rw [ep] at hf
      refine kV_i (hf _ (hH.set hp ?_ (fun q hq => ?_) ?_ (fun j hj => ?_) (fun j hj => ?_)) (((((hv.fm.uI (by omega)).uI (by omega)).uL (by omega)).uI (by omega)).uL (by omega)))
      · simp only [gI_uI, gL_uL, gR_uR, gI_uL, gI_uR, gL_uI, gL_uR, gR_uI, gR_uL, true_and, and_true, Nat.add_right_cancel_iff, Nat.add_left_cancel_iff, Nat.reduceEqDiff, Nat.left_eq_add, Nat.right_eq_add, Nat.add_eq_left, Nat.add_eq_right, Nat.reduceAdd, Nat.succ_ne_self, reduceCtorEq, false_and, and_false, if_false, if_true, ite_true, ite_false, ite_self, Nat.succ_ne_zero, Nat.add_one_ne_zero, not_false_eq_true, not_true_eq_false, Nat.one_ne_zero, Nat.zero_ne_one, partL_len hi]
      · simp only [gI_uI, gL_uL, gR_uR, gI_uL, gI_uR, gL_uI, gL_uR, gR_uI, gR_uL, true_and, and_true, Nat.add_right_cancel_iff, Nat.add_left_cancel_iff, Nat.reduceEqDiff, Nat.left_eq_add, Nat.right_eq_add, Nat.add_eq_left, Nat.add_eq_right, Nat.reduceAdd, Nat.succ_ne_self, reduceCtorEq, false_and, and_false, if_false, if_true, ite_true, ite_false, ite_self, Nat.succ_ne_zero, Nat.add_one_ne_zero, not_false_eq_true, not_true_eq_false, Nat.one_ne_zero, Nat.zero_ne_one, hq]
        rw [hv.1, if_neg (by omega)]
      · rw [partL_len hi]; omega
      · rw [partL_len hi] at hj
        rw [lt_part hi]
        have hr := hv.row (p * 40 + j)
        by_cases j1 : j < i
        · rw [if_pos j1]
          rw [if_neg (by omega)] at hr
          have e1 : (p * 40 + j = p * 40 + i) = False := by simp only [eq_iff_iff, iff_false]; omega
          have e2 : (p * 40 + j = p * 40 + i + 1) = False := by simp only [eq_iff_iff, iff_false]; omega
          have := hr.lot (hrow j (by omega))
          unfold mlot at this ⊢
          simp only [gI_uI, gL_uL, gR_uR, gI_uL, gI_uR, gL_uI, gL_uR, gR_uI, gR_uL, true_and, and_true, Nat.add_right_cancel_iff, Nat.add_left_cancel_iff, Nat.reduceEqDiff, Nat.left_eq_add, Nat.right_eq_add, Nat.add_eq_left, Nat.add_eq_right, Nat.reduceAdd, Nat.succ_ne_self, reduceCtorEq, false_and, and_false, if_false, if_true, ite_true, ite_false, ite_self, Nat.succ_ne_zero, Nat.add_one_ne_zero, not_false_eq_true, not_true_eq_false, Nat.one_ne_zero, Nat.zero_ne_one, e1, e2]
          exact this
        · rw [if_neg j1]
          by_cases j2 : j = i
          · subst j2
            rw [if_pos rfl]
            rw [if_neg (by omega)] at hr
            have e2 : (p * 40 + j = p * 40 + j + 1) = False := by simp only [eq_iff_iff, iff_false]; omega
            obtain ⟨z0, z1, z2, z3, z4, z5⟩ := hr.lot (hrow j hi)
            unfold mlot partOwn
            simp only [gI_uI, gL_uL, gR_uR, gI_uL, gI_uR, gL_uI, gL_uR, gR_uI, gR_uL, true_and, and_true, Nat.add_right_cancel_iff, Nat.add_left_cancel_iff, Nat.reduceEqDiff, Nat.left_eq_add, Nat.right_eq_add, Nat.add_eq_left, Nat.add_eq_right, Nat.reduceAdd, Nat.succ_ne_self, reduceCtorEq, false_and, and_false, if_false, if_true, ite_true, ite_false, ite_self, Nat.succ_ne_zero, Nat.add_one_ne_zero, not_false_eq_true, not_true_eq_false, Nat.one_ne_zero, Nat.zero_ne_one, e2, hs]
            exact ⟨z2, z3, z4, z5⟩
          · rw [if_neg j2]
            by_cases j3 : j = i + 1
            · subst j3
              rw [if_pos rfl]
              rw [if_pos (by omega)] at hr
              have ea : p * 40 + (i + 1) = p * 40 + i + 1 := by omega
              have hrw := hrow i hi
              rw [ea, Nat.add_sub_cancel] at hr
              obtain ⟨z0, z1, z2, z3, z4, z5⟩ := hr.lot hrw
              unfold mlot partRest
              rw [ea]
              simp only [gI_uI, gL_uL, gR_uR, gI_uL, gI_uR, gL_uI, gL_uR, gR_uI, gR_uL, true_and, and_true, Nat.add_right_cancel_iff, Nat.add_left_cancel_iff, Nat.reduceEqDiff, Nat.left_eq_add, Nat.right_eq_add, Nat.add_eq_left, Nat.add_eq_right, Nat.reduceAdd, Nat.succ_ne_self, reduceCtorEq, false_and, and_false, if_false, if_true, ite_true, ite_false, ite_self, Nat.succ_ne_zero, Nat.add_one_ne_zero, not_false_eq_true, not_true_eq_false, Nat.one_ne_zero, Nat.zero_ne_one, hs]
              exact ⟨z2, z3, z4, z5⟩
            · rw [if_neg j3]
              rw [if_pos (by omega)] at hr
              have e1 : (p * 40 + j = p * 40 + i) = False := by simp only [eq_iff_iff, iff_false]; omega
              have e2 : (p * 40 + j = p * 40 + i + 1) = False := by simp only [eq_iff_iff, iff_false]; omega
              have ea : p * 40 + j - 1 = p * 40 + (j - 1) := by omega
              rw [ea] at hr
              have := hr.lot (hrow (j - 1) (by omega))
              unfold mlot at this ⊢
              simp only [gI_uI, gL_uL, gR_uR, gI_uL, gI_uR, gL_uI, gL_uR, gR_uI, gR_uL, true_and, and_true, Nat.add_right_cancel_iff, Nat.add_left_cancel_iff, Nat.reduceEqDiff, Nat.left_eq_add, Nat.right_eq_add, Nat.add_eq_left, Nat.add_eq_right, Nat.reduceAdd, Nat.succ_ne_self, reduceCtorEq, false_and, and_false, if_false, if_true, ite_true, ite_false, ite_self, Nat.succ_ne_zero, Nat.add_one_ne_zero, not_false_eq_true, not_true_eq_false, Nat.one_ne_zero, Nat.zero_ne_one, e1, e2]
              exact this
      · have hr := hv.row j
        rw [if_neg (by omega)] at hr
        have e1 : (j = p * 40 + i) = False := by simp only [eq_iff_iff, iff_false]; omega
        have e2 : (j = p * 40 + i + 1) = False := by simp only [eq_iff_iff, iff_false]; omega
        refine ⟨fun b b1 b2 => ?_, ?_⟩
        · have eb : (b = m + 8) = False := by simp only [eq_iff_iff, iff_false]; omega
          simp only [gI_uI, gL_uL, gR_uR, gI_uL, gI_uR, gL_uI, gL_uR, gR_uI, gR_uL, true_and, and_true, Nat.add_right_cancel_iff, Nat.add_left_cancel_iff, Nat.reduceEqDiff, Nat.left_eq_add, Nat.right_eq_add, Nat.add_eq_left, Nat.add_eq_right, Nat.reduceAdd, Nat.succ_ne_self, reduceCtorEq, false_and, and_false, if_false, if_true, ite_true, ite_false, ite_self, Nat.succ_ne_zero, Nat.add_one_ne_zero, not_false_eq_true, not_true_eq_false, Nat.one_ne_zero, Nat.zero_ne_one, e1, e2, eb]
          exact hr.1 b b1 b2
        · simp only [gI_uI, gL_uL, gR_uR, gI_uL, gI_uR, gL_uI, gL_uR, gR_uI, gR_uL, true_and, and_true, Nat.add_right_cancel_iff, Nat.add_left_cancel_iff, Nat.reduceEqDiff, Nat.left_eq_add, Nat.right_eq_add, Nat.add_eq_left, Nat.add_eq_right, Nat.reduceAdd, Nat.succ_ne_self, reduceCtorEq, false_and, and_false, if_false, if_true, ite_true, ite_false, ite_self, Nat.succ_ne_zero, Nat.add_one_ne_zero, not_false_eq_true, not_true_eq_false, Nat.one_ne_zero, Nat.zero_ne_one, e1, e2]
          exact hr.2
    | succ n ih =>
      intro k Sj hk hkl hlt hv
      have e1 : nI (p * 40 + k) - 1 = nI (p * 40 + (k - 1)) := by
        have := nI_pred (p * 40 + (k - 1))
        rwa [show p * 40 + (k - 1) + 1 = p * 40 + k by omega] at this
      rw [e1]
      refine sX11_parts_24 hJ ?_
      have hI := h.fm hv.fm
      have e2 : nI (p * 40 + (k - 1)) + -1 = nI (p * 40 + (k - 1)) - 1 := by rw [Int32.sub_eq_add_neg]
      simp only [nIlt (show p * 40 + (k - 1) ≤ 100000 by omega) (show p * 40 + i ≤ 100000 by omega), hI.1.1, nI_1, e2, Option.some.injEq, Prod.mk.injEq, exists_eq_left', exists_eq_left, true_and, and_true, and_self, true_or, or_true, forall_const, exists_const, exists_and_left, wcat, Nat.zero_le, Nat.reduceLeDiff, Int32.lt_irrefl, not_false_eq_true, Nat.zero_add, forall_eq]
      refine ⟨fun c => absurd c (by omega), fun _ => cm_moves hI (by omega) (by omega) ?_ fun S' hv' => ?_⟩
      · rw [hv.1, if_pos (by omega)]; dsimp only; rw [if_neg (by omega), (hrow (k - 1) (by omega)).2.2.2.2.1]
        exact bI_z _
      · refine ih (k - 1) S' (by omega) (by omega) hlt ((hv.comp hv').eq fun j => ?_)
        by_cases ej : j = p * 40 + (k - 1) + 1
        · simp only [ej, if_true]
          repeat' split
          all_goals omega
        · simp only [ej, if_false]
          repeat' split
          all_goals omega
  refine sX11_parts_0 hJ ?_
  have hI := h
  obtain ⟨⟨k0, k1, k2, k3, k4, k5, k6, k7, k8, k9, k10, k11, k12, k13, k14, k15, k16, k17, k18, k19, k20, k21, k22, k23, k24, k25, k26⟩, ⟨r5, r15, r16, r17, r18, r21, r22, r23, r24, r25, r26, r27, r28, r29, r30, r31, r32, r33, r34, r35, r36, r37, r38, r39, r40, r48⟩⟩ := h
  simp only [k0, k9, r24, cl_n (show p * 40 + i ≤ 100000 by omega), vp_n (show p * 40 + i < 120 by omega) (show 120 ≤ 100000 by omega), (hrow i hi).1, hs, nIeqB (show x ≤ 1000000000 by omega) (show s ≤ 1000000000 by omega), Option.some.injEq, Prod.mk.injEq, exists_eq_left', exists_eq_left, true_and, and_true, and_self, true_or, or_true, forall_const, exists_const, exists_and_left, wcat, Nat.zero_le, Nat.reduceLeDiff, Int32.lt_irrefl, not_false_eq_true, Nat.zero_add, forall_eq]
  refine ⟨fun c => cm_lotEnd hI hm hp ?_, fun c => kV_i (hf S ?_ Fm.rf)⟩
  · exact loop ((H p).length - i) (H p).length S (by omega) (Nat.le_refl _) (by omega) (Mv.id.eq fun j => by split <;> omega)
  · have ep : partIf (H p) i (nI x) = H p := by
      unfold partIf
      rw [if_neg (fun z => by have := z.2; rw [hs, nIltB (by omega) (by omega)] at this; omega)]
    rw [ep, upH_s]
    exact hH
end
