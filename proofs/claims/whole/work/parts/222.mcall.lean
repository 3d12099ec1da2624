/-! the reference's calls: feed -/
def byW (a b c d e : Int32) (k : Nat) : Int32 := if 16 ≤ k then e else if 12 ≤ k then d else if 8 ≤ k then c else if 4 ≤ k then b else a
def byV (v : Int32) (k : Nat) : Int32 := ((v >>> ((24 - (8 * (nI k - nI k / 4 * 4))) &&& 31)).toInt8.toInt32).toInt8.toInt32
/-- the tape with k bytes more -/
def tpF (V : VSt) (a b c d e : Int32) (k : Nat) : Nat → Int32 := fun j => if vN V ≤ j ∧ j < vN V + k then byV (byW a b c d e (j - vN V)) (j - vN V) else vTape V j
def setTp (V : VSt) (tp : Nat → Int32) (n : Nat) : VSt := (tp, n, V.2.2)
def uFeed (V : VSt) (a b c d e : Int32) : VSt × Int32 := if vN V + 20 ≤ 900 then (setTp V (tpF V a b c d e 20) (vN V + 20), nI (vN V + 20)) else (V, -1)
section
variable {dd : Nat} {A : qA} {S : qS} {m : Nat} {V : VSt}
set_option maxRecDepth 20000 in
set_option maxHeartbeats 2000000 in
theorem cm_feed {a b c d e : Int32} {f : Int32 → qS → Prop} (h : MAt A S m V) (hv : vOk V) (hf : ∀ S', MAt A S' m (uFeed V a b c d e).1 → Fr S S' m (m + 27) → f (uFeed V a b c d e).2 S') : Run (dd + 1) 174 [.ref m, .int a, .int b, .int c, .int d, .int e] A S (kI A f) := by
  refine Run.i (C := mX11_feed) rfl rfl rfl fun J hJ => ?_
  have hn9 := hv.2.2.2.2.2.2.2
  have h0 := h.t0 (x := 0)
  obtain ⟨c1, c2, c3, c4, c5, c6, c7, c8, c9, c10⟩ := h0.2.2.1
  obtain ⟨⟨k0, k1, k2, k3, k4, k5, k6, k7, k8, k9, k10, k11, k12, k13, k14, k15, k16, k17, k18, k19, k20, k21, k22, k23, k24, k25, k26⟩, ⟨r5, r15, r16, r17, r18, r21, r22, r23, r24, r25, r26, r27, r28, r29, r30, r31, r32, r33, r34, r35, r36, r37, r38, r39, r40, r48⟩⟩ := h0.1
  obtain ⟨H, hH⟩ := h0.2.1
  refine sX11_feed_0 hJ ⟨k0, fun T eT => ?_⟩
  subst eT
  have e20 : nI (vN V) + 20 = nI (vN V + 20) := nI_add _ 20
  rw [c2, e20, show (900 : Int32) = nI 900 from rfl, nIle (by omega) (by omega)]
  refine ⟨k0, fun z => ?_, fun z => kI_i ?_⟩
  · have hf' := hf
    rw [uFeed, if_pos z] at hf'
    have loop : ∀ n k (Sj : qS) (w7 : Option Value), k + n = 20 → (∀ x j, gI Sj x j = if x = m + 1 ∧ vN V ≤ j ∧ j < vN V + k then byV (byW a b c d e (j - vN V)) (j - vN V) else if x = m ∧ j = 6 then nI (vN V + k) else gI (uI S m 0 0) x j) → (∀ x j, gL Sj x j = gL S x j) → (∀ x j, gR Sj x j = gR S x j) → J 23 [some (.ref m), some (.int a), some (.int b), some (.int c), some (.int d), some (.int e), some (.int (nI k)), w7] [] A Sj := by
      intro n
      induction n with
      | zero =>
        intro k Sj w7 hk g1 g2 g3
        refine sX11_feed_23 hJ ?_
        have ek : k = 20 := by omega
        subst ek
        have q20 : ((20 : Int32) ≤ nI 20) = True := by decide
        have e6 : gI Sj m 6 = nI (vN V + 20) := by rw [g1, if_neg (by omega), if_pos ⟨rfl, rfl⟩]
        simp only [q20, k0, e6, not_true_eq_false, false_imp_iff, true_imp_iff, and_true, true_and]
        have g4 : ∀ x j, ¬ x = m + 1 → ¬ (x = m ∧ j = 6) → gI Sj x j = gI (uI S m 0 0) x j := fun x j h1 h2 => by rw [g1, if_neg (fun w => h1 w.1), if_neg h2]
        refine kI_i (hf' Sj ⟨⟨h0.1.1, h0.1.2.fr fun k => g3 m k⟩, ⟨H, ?_⟩, ⟨fun k hk => ?_, e6, c3.same fun k => g4 _ _ (by omega) (by omega), (g4 _ _ (by omega) (by omega)).trans c4, fun i hi => (c5 i hi).same (hv.2.2.2.1 _ (rg_mem hi)).1.2.2 fun k hk => g4 _ _ (by omega) (by omega), (g4 _ _ (by omega) (by omega)).trans c6, fun i hi => (c7 i hi).same (hv.2.2.2.2.2.1 _ (rg_mem hi)).1.2.2 fun k hk => g4 _ _ (by omega) (by omega), (g4 _ _ (by omega) (by omega)).trans c8, (g4 _ _ (by omega) (by omega)).trans c9, (g4 _ _ (by omega) (by omega)).trans c10⟩, h0.2.2.2.fr (g3 m 3) fun x hx k => ⟨g4 _ _ (by omega) (by omega), g3 x k⟩⟩ ?_)
        · intro q hq
          obtain ⟨a1, a2, a3⟩ := hH q hq
          exact ⟨(g4 _ _ (by omega) (by omega)).trans a1, a2, fun i hi => rowE.lot ⟨fun x x1 x2 => g4 _ _ (by omega) (by omega), g2 _ _⟩ (a3 i hi)⟩
        · show gI Sj (m + 1) k = tpF V a b c d e 20 k
          rw [g1]
          unfold tpF
          by_cases y : vN V ≤ k ∧ k < vN V + 20
          · rw [if_pos ⟨rfl, y⟩, if_pos y]
          · rw [if_neg (fun w => y w.2), if_neg (by omega), if_neg y]
            exact c1 k hk
        · intro x hx j
          refine ⟨?_, g2 x j, g3 x j⟩
          rw [g4 _ _ (by omega) (by omega), gI_uI, if_neg (by omega)]
      | succ n ih =>
        intro k Sj w7 hk g1 g2 g3
        refine sX11_feed_23 hJ ?_
        have e6 : gI Sj m 6 = nI (vN V + k) := by rw [g1, if_neg (by omega), if_pos ⟨rfl, rfl⟩]
        have r5' : gR Sj m 5 = some (m + 1) := (g3 m 5).trans r5
        have q20 : ((20 : Int32) ≤ nI k) = False := by rw [show (20 : Int32) = nI 20 from rfl, nIle (by omega) (by omega)]; simp; omega
        have q4 : ((4 : Int32) ≤ nI k) = (4 ≤ k) := by rw [show (4 : Int32) = nI 4 from rfl, nIle (by omega) (by omega)]
        have q8 : ((8 : Int32) ≤ nI k) = (8 ≤ k) := by rw [show (8 : Int32) = nI 8 from rfl, nIle (by omega) (by omega)]
        have q12 : ((12 : Int32) ≤ nI k) = (12 ≤ k) := by rw [show (12 : Int32) = nI 12 from rfl, nIle (by omega) (by omega)]
        have q16 : ((16 : Int32) ≤ nI k) = (16 ≤ k) := by rw [show (16 : Int32) = nI 16 from rfl, nIle (by omega) (by omega)]
        have n4 : ¬ (4 : Int32) = 0 := by decide
        simp only [q20, q4, q8, q12, q16, n4, k0, k1, r5', e6, cl_n (show vN V + k ≤ 100000 by omega), vp_n (show vN V + k < 900 by omega) (show 900 ≤ 100000 by omega), nI_1, not_false_eq_true, false_imp_iff, true_imp_iff, true_and, Option.some.injEq, Prod.mk.injEq, exists_eq_left', exists_eq_left, true_and, and_true, and_self, true_or, or_true, forall_const, exists_const, exists_and_left, wcat, Nat.zero_le, Nat.reduceLeDiff, Int32.lt_irrefl, not_false_eq_true, Nat.zero_add, forall_eq, gI_uI, gL_uL, gR_uR, gI_uL, gI_uR, gL_uI, gL_uR, gR_uI, gR_uL, true_and, and_true, Nat.add_right_cancel_iff, Nat.add_left_cancel_iff, Nat.reduceEqDiff, Nat.left_eq_add, Nat.right_eq_add, Nat.add_eq_left, Nat.add_eq_right, Nat.reduceAdd, Nat.succ_ne_self, reduceCtorEq, false_and, and_false, if_false, if_true, ite_true, ite_false, ite_self, Nat.succ_ne_zero, Nat.add_one_ne_zero, not_false_eq_true, not_true_eq_false, Nat.one_ne_zero, Nat.zero_ne_one]
        have go : ∀ (v : Int32) (w : Option Value), v = byW a b c d e k → J 23 [some (.ref m), some (.int a), some (.int b), some (.int c), some (.int d), some (.int e), some (.int (nI (k + 1))), w] [] A (uI (uI Sj (m + 1) (vN V + k) (byV v k)) m 6 (nI (vN V + k + 1))) := by
          intro v w ev
          refine ih (k + 1) _ _ (by omega) (fun x j => ?_) (fun x j => g2 x j) (fun x j => g3 x j)
          rw [gI_uI, gI_uI]
          by_cases y6 : x = m ∧ j = 6
          · rw [if_pos y6, if_neg (by omega), if_pos y6]; rfl
          · rw [if_neg y6]
            by_cases y1 : x = m + 1 ∧ j = vN V + k
            · rw [if_pos y1, if_pos ⟨y1.1, by omega, by omega⟩, y1.2, Nat.add_sub_cancel_left, ev]
            · rw [if_neg y1, g1, if_neg y6, if_neg y6]
              by_cases y2 : x = m + 1 ∧ vN V ≤ j ∧ j < vN V + k
              · rw [if_pos y2, if_pos ⟨y2.1, y2.2.1, by omega⟩]
              · rw [if_neg y2, if_neg (fun w => y2 ⟨w.1, w.2.1, by rcases Nat.lt_or_ge j (vN V + k) with qq | qq; exact qq; exact absurd ⟨w.1, by have := w.2.2; omega⟩ y1⟩)]
        refine ⟨fun y4 => ⟨fun y8 => ⟨fun y12 => ⟨fun y16 => go e _ ?_, fun y16 => go d _ ?_⟩, fun y12 => go c _ ?_⟩, fun y8 => go b _ ?_⟩, fun y4 => go a _ ?_⟩
        · rw [byW, if_pos y16]
        · rw [byW, if_neg y16, if_pos y12]
        · rw [byW, if_neg (by omega), if_neg y12, if_pos y8]
        · rw [byW, if_neg (by omega), if_neg (by omega), if_neg y8, if_pos y4]
        · rw [byW, if_neg (by omega), if_neg (by omega), if_neg (by omega), if_neg y4]
    refine loop 20 0 _ _ (by omega) (fun x j => ?_) (fun _ _ => rfl) (fun _ _ => rfl)
    rw [if_neg (by omega)]
    split
    · rename_i w
      rw [w.1, w.2]
      exact c2
    · rfl
  · have := hf (uI S m 0 0)
    rw [uFeed, if_neg z] at this
    exact this h0 (Fr.rf.uI (by omega) (by omega))
end
