/-! the reference's calls: of sells -/
theorem buyP_len {w day : Int32} : ∀ (P : List Pie) (L : List Lot), (buyP w day P L).1.length = P.length
  | [], _ => rfl
  | p :: P, L => by
    rw [buyP]
    split
    · rfl
    · split
      · rw [List.length_cons, List.length_cons, buyP_len P L]
      · rw [List.length_cons, List.length_cons, buyP_len P _]
theorem repAll_len {w day : Int32} : ∀ (P : List Pie) (L : List Lot), (repAll w day P L).1.length = P.length
  | [], _ => rfl
  | p :: P, L => by rw [repAll, List.length_cons, List.length_cons, repAll_len P _]
def fpB (s : PSt) : Prop := ∀ t, s.2.2.2.2.1 t + s.2.2.2.2.2 t ≤ s.2.1.length
theorem aStep_fp {w : Int32} {T : List Row} {t : Nat} {s : PSt} (h : fpB s) : fpB (aStep w T t s) := by
  intro t'
  unfold aStep
  split
  · show _ ≤ (buyP _ _ _ _).1.length
    rw [buyP_len]
    exact h t'
  · split
    · show _ ≤ (s.2.1.map _).length
      rw [List.length_map]
      exact h t'
    · unfold aSell
      split
      · show upN _ t _ t' + upN _ t _ t' ≤ (s.2.1 ++ (repAll _ _ _ _).1).length
        rw [List.length_append, repAll_len]
        unfold soldL upN
        rw [List.length_map]
        split
        · omega
        · have := h t'; omega
      · exact h t'
theorem aGo_fp {w last : Int32} {T : List Row} {p : Nat} : ∀ (Q : List Nat) (s : PSt), fpB s → fpB (aGo w last T p Q s)
  | [], _, h => h
  | t :: Q, s, h => by
    rw [aGo]
    split
    · exact aGo_fp Q _ (aStep_fp h)
    · exact aGo_fp Q _ h
theorem aRes_fp (w last : Int32) (T : List Row) (p : Nat) : fpB (aRes w last T p) := aGo_fp _ _ (fun _ => Nat.le_refl _)
theorem pp_app2 {P Q : List Pie} {k : Nat} : pp (P ++ Q) (P.length + k) = pp Q k := by
  unfold pp
  rw [List.getD_eq_getElem?_getD, List.getElem?_append_right (by omega), Nat.add_sub_cancel_left, List.getD_eq_getElem?_getD]
theorem pp_allP {w last : Int32} {T : List Row} {p k : Nat} (hp : p < 3) (hk : k < (aRes w last T p).2.1.length) : pp (allP w last T) (bsP w last T p + k) = pp (aRes w last T p).2.1 k ∧ bsP w last T p + k < (allP w last T).length := by
  unfold allP bsP
  rw [List.length_append, List.length_append]
  rcases (show p = 0 ∨ p = 1 ∨ p = 2 by omega) with e | e | e <;> subst e
  · rw [if_pos rfl, Nat.zero_add, List.append_assoc, pp_app hk]
    exact ⟨rfl, by omega⟩
  · rw [if_neg (by decide), if_pos rfl, pp_app (by rw [List.length_append]; omega), pp_app2]
    exact ⟨rfl, by omega⟩
  · rw [if_neg (by decide), if_neg (by decide), ← List.length_append, pp_app2]
    exact ⟨rfl, by rw [List.length_append]; omega⟩
/-- the paper of trade t -/
def pfT (T : List Row) (t : Nat) : Nat := paF (tr T t)
def fpT (w last : Int32) (T : List Row) (t : Nat) : Nat := (aRes w last T (pfT T t)).2.2.2.2.1 t
def pcT (w last : Int32) (T : List Row) (t : Nat) : Nat := (aRes w last T (pfT T t)).2.2.2.2.2 t
def ppT (w last : Int32) (T : List Row) (t k : Nat) : Pie := pp (aRes w last T (pfT T t)).2.1 (fpT w last T t + k)
/-- sums over the pieces of a sell -/
def smT (F : Pie → Int64) (w last : Int32) (T : List Row) (t : Nat) : Int64 := sumF (fun k => F (ppT w last T t k)) 0 (pcT w last T t)
def smA (F : Pie → Int64) (w last : Int32) (T : List Row) : Int64 := sumF (fun k => F (pp (allP w last T) k)) 0 (allP w last T).length
/-- the piece's row -/
theorem BkM.pie {A : qA} {S : qS} {m : Nat} {w last : Int32} {T : List Row} {t : Nat} (h : BkM A S m w last T) (hT : vB T) (ht : t < T.length) : ∃ g, g + pcT w last T t ≤ 1280 ∧ gI S (m + 15) t = nI g ∧ gI S (m + 16) t = nI (pcT w last T t) ∧ ∀ j, j < pcT w last T t → g + j < 640 ∧ mpie S m (g + j) (ppT w last T t j) := by
  obtain ⟨-, -, ⟨-, p2, p3⟩, -, -, hf, -⟩ := h
  obtain ⟨⟨g, g1, g2, g3⟩, g4⟩ := hf t ht
  have hp : pfT T t < 3 := ((hT.1 t ht).pa).1
  have hfp := aRes_fp w last T (pfT T t) t
  have hP : (aRes w last T (pfT T t)).2.1.length ≤ 640 := by
    rcases Nat.eq_zero_or_pos (aRes w last T (pfT T t)).2.1.length with z | z
    · omega
    · have := (pp_allP (w := w) (last := last) (T := T) (p := pfT T t) (k := (aRes w last T (pfT T t)).2.1.length - 1) hp (by omega)).2
      omega
  refine ⟨g, ?_, g2, g4, fun j hj => ?_⟩
  · unfold pcT; omega
  · have e : g = bsP w last T (pfT T t) + fpT w last T t := g3 (by unfold pcT pfT at hj; omega)
    have hk : fpT w last T t + j < (aRes w last T (pfT T t)).2.1.length := by unfold pcT at hj; unfold fpT; omega
    obtain ⟨a1, a2⟩ := pp_allP (w := w) (last := last) (T := T) (p := pfT T t) hp hk
    have := p3 _ a2
    rw [a1, Nat.zero_add, ← Nat.add_assoc, ← e] at this
    rw [← Nat.add_assoc, ← e] at a2
    exact ⟨by omega, this⟩
section
variable {d : Nat} {A : qA} {S : qS} {m : Nat} {V : VSt}
set_option maxRecDepth 20000 in
theorem cm_gainOf {w last : Int32} {T : List Row} {t : Nat} {f : Int64 → qS → Prop} (h : BkM A S m w last T) (hT : vB T) (ht : t < T.length) (hf : f (smT pGain w last T t) S) : Run (d + 1) 199 [.ref m, .int (nI t)] A S (kL A f) := by
  refine Run.i (C := mX11_gainOf) rfl rfl rfl fun J hJ => ?_
  obtain ⟨g, hg, e15, e16, hj⟩ := h.pie hT ht
  have hl := hT.2.2
  obtain ⟨⟨⟨k0, k1, k2, k3, k4, k5, k6, k7, k8, k9, k10, k11, k12, k13, k14, k15, k16, k17, k18, k19, k20, k21, k22, k23, k24, k25, k26⟩, ⟨r5, r15, r16, r17, r18, r21, r22, r23, r24, r25, r26, r27, r28, r29, r30, r31, r32, r33, r34, r35, r36, r37, r38, r39, r40, r48⟩⟩, -⟩ := h
  have loop : ∀ n j (w3 : Option Value), j + n = pcT w last T t → J 10 [some (.ref m), some (.int (nI t)), some (.long (sumF (fun k => pGain (ppT w last T t k)) 0 j)), w3, some (.int (nI (g + j)))] [] A S := by
    intro n
    induction n with
    | zero =>
      intro j w3 hn
      refine sX11_gainOf_10 hJ ?_
      simp only [k0, k15, k16, r30, r31, e15, e16, nI_add, cl_n (show t ≤ 100000 by omega), vp_n (show t < 36 by omega) (show 36 ≤ 100000 by omega), nIle (show g + pcT w last T t ≤ 100000 by omega) (show g + j ≤ 100000 by omega), Option.some.injEq, Prod.mk.injEq, exists_eq_left', exists_eq_left, true_and, and_true, and_self, true_or, or_true, forall_const, exists_const, exists_and_left, wcat, Nat.zero_le, Nat.reduceLeDiff, Int32.lt_irrefl, not_false_eq_true, Nat.zero_add, forall_eq]
      refine ⟨fun _ => kL_i ?_, fun z => absurd (by omega) z⟩
      unfold smT at hf
      rwa [show pcT w last T t = j by omega] at hf
    | succ n ih =>
      intro j w3 hn
      refine sX11_gainOf_10 hJ ?_
      obtain ⟨hb, y0, y1, y2, y3, y4, y5, y6, y7, y8⟩ := hj j (by omega)
      simp only [k0, k15, k16, k22, k23, k25, r30, r31, r37, r38, r40, e15, e16, nI_add, nI_1, cl_n (show t ≤ 100000 by omega), vp_n (show t < 36 by omega) (show 36 ≤ 100000 by omega), cl_n (show g + j ≤ 100000 by omega), vp_n hb (show 640 ≤ 100000 by omega), y4, y5, y8, nIle (show g + pcT w last T t ≤ 100000 by omega) (show g + j ≤ 100000 by omega), Option.some.injEq, Prod.mk.injEq, exists_eq_left', exists_eq_left, true_and, and_true, and_self, true_or, or_true, forall_const, exists_const, exists_and_left, wcat, Nat.zero_le, Nat.reduceLeDiff, Int32.lt_irrefl, not_false_eq_true, Nat.zero_add, forall_eq]
      refine ⟨fun z => absurd z (by omega), fun _ => ?_⟩
      have := ih (j + 1) none (by omega)
      rw [sumF, Nat.zero_add] at this
      exact this
  refine sX11_gainOf_0 hJ ?_
  simp only [k0, k15, r30, e15, cl_n (show t ≤ 100000 by omega), vp_n (show t < 36 by omega) (show 36 ≤ 100000 by omega), Option.some.injEq, Prod.mk.injEq, exists_eq_left', exists_eq_left, true_and, and_true, and_self, true_or, or_true, forall_const, exists_const, exists_and_left, wcat, Nat.zero_le, Nat.reduceLeDiff, Int32.lt_irrefl, not_false_eq_true, Nat.zero_add, forall_eq]
  exact loop (pcT w last T t) 0 _ (by omega)
set_option maxRecDepth 20000 in
theorem cm_ledOf {w last : Int32} {T : List Row} {t : Nat} {f : Int64 → qS → Prop} (h : BkM A S m w last T) (hT : vB T) (ht : t < T.length) (hf : f (smT pMoved w last T t) S) : Run (d + 1) 200 [.ref m, .int (nI t)] A S (kL A f) := by
  refine Run.i (C := mX11_ledOf) rfl rfl rfl fun J hJ => ?_
  obtain ⟨g, hg, e15, e16, hj⟩ := h.pie hT ht
  have hl := hT.2.2
  obtain ⟨⟨⟨k0, k1, k2, k3, k4, k5, k6, k7, k8, k9, k10, k11, k12, k13, k14, k15, k16, k17, k18, k19, k20, k21, k22, k23, k24, k25, k26⟩, ⟨r5, r15, r16, r17, r18, r21, r22, r23, r24, r25, r26, r27, r28, r29, r30, r31, r32, r33, r34, r35, r36, r37, r38, r39, r40, r48⟩⟩, -⟩ := h
  have loop : ∀ n j (w3 : Option Value), j + n = pcT w last T t → J 10 [some (.ref m), some (.int (nI t)), some (.long (sumF (fun k => pMoved (ppT w last T t k)) 0 j)), w3, some (.int (nI (g + j)))] [] A S := by
    intro n
    induction n with
    | zero =>
      intro j w3 hn
      refine sX11_ledOf_10 hJ ?_
      simp only [k0, k15, k16, r30, r31, e15, e16, nI_add, cl_n (show t ≤ 100000 by omega), vp_n (show t < 36 by omega) (show 36 ≤ 100000 by omega), nIle (show g + pcT w last T t ≤ 100000 by omega) (show g + j ≤ 100000 by omega), Option.some.injEq, Prod.mk.injEq, exists_eq_left', exists_eq_left, true_and, and_true, and_self, true_or, or_true, forall_const, exists_const, exists_and_left, wcat, Nat.zero_le, Nat.reduceLeDiff, Int32.lt_irrefl, not_false_eq_true, Nat.zero_add, forall_eq]
      refine ⟨fun _ => kL_i ?_, fun z => absurd (by omega) z⟩
      unfold smT at hf
      rwa [show pcT w last T t = j by omega] at hf
    | succ n ih =>
      intro j w3 hn
      refine sX11_ledOf_10 hJ ?_
      obtain ⟨hb, y0, y1, y2, y3, y4, y5, y6, y7, y8⟩ := hj j (by omega)
      simp only [k0, k15, k16, k25, r30, r31, r40, e15, e16, nI_add, nI_1, cl_n (show t ≤ 100000 by omega), vp_n (show t < 36 by omega) (show 36 ≤ 100000 by omega), cl_n (show g + j ≤ 100000 by omega), vp_n hb (show 640 ≤ 100000 by omega), y8, nIle (show g + pcT w last T t ≤ 100000 by omega) (show g + j ≤ 100000 by omega), Option.some.injEq, Prod.mk.injEq, exists_eq_left', exists_eq_left, true_and, and_true, and_self, true_or, or_true, forall_const, exists_const, exists_and_left, wcat, Nat.zero_le, Nat.reduceLeDiff, Int32.lt_irrefl, not_false_eq_true, Nat.zero_add, forall_eq]
      refine ⟨fun z => absurd z (by omega), fun _ => ?_⟩
      have := ih (j + 1) none (by omega)
      rw [sumF, Nat.zero_add] at this
      exact this
  refine sX11_ledOf_0 hJ ?_
  simp only [k0, k15, r30, e15, cl_n (show t ≤ 100000 by omega), vp_n (show t < 36 by omega) (show 36 ≤ 100000 by omega), Option.some.injEq, Prod.mk.injEq, exists_eq_left', exists_eq_left, true_and, and_true, and_self, true_or, or_true, forall_const, exists_const, exists_and_left, wcat, Nat.zero_le, Nat.reduceLeDiff, Int32.lt_irrefl, not_false_eq_true, Nat.zero_add, forall_eq]
  exact loop (pcT w last T t) 0 _ (by omega)
set_option maxRecDepth 20000 in
theorem cm_allGains {w last : Int32} {T : List Row} {f : Int64 → qS → Prop} (h : BkM A S m w last T) (hf : f (smA pGain w last T) S) : Run (d + 1) 201 [.ref m] A S (kL A f) := by
  refine Run.i (C := mX11_allGains) rfl rfl rfl fun J hJ => ?_
  obtain ⟨⟨⟨k0, k1, k2, k3, k4, k5, k6, k7, k8, k9, k10, k11, k12, k13, k14, k15, k16, k17, k18, k19, k20, k21, k22, k23, k24, k25, k26⟩, ⟨r5, r15, r16, r17, r18, r21, r22, r23, r24, r25, r26, r27, r28, r29, r30, r31, r32, r33, r34, r35, r36, r37, r38, r39, r40, r48⟩⟩, -, ⟨p1, p2, p3⟩, -⟩ := h
  rw [Nat.zero_add] at p1 p2
  have loop : ∀ n j (w2 : Option Value), j + n = (allP w last T).length → J 4 [some (.ref m), some (.long (sumF (fun k => pGain (pp (allP w last T) k)) 0 j)), w2, some (.int (nI j))] [] A S := by
    intro n
    induction n with
    | zero =>
      intro j w2 hn
      refine sX11_allGains_4 hJ ?_
      simp only [k0, p1, nIle (show (allP w last T).length ≤ 100000 by omega) (show j ≤ 100000 by omega), Option.some.injEq, Prod.mk.injEq, exists_eq_left', exists_eq_left, true_and, and_true, and_self, true_or, or_true, forall_const, exists_const, exists_and_left, wcat, Nat.zero_le, Nat.reduceLeDiff, Int32.lt_irrefl, not_false_eq_true, Nat.zero_add, forall_eq]
      refine ⟨fun _ => kL_i ?_, fun z => absurd (by omega) z⟩
      unfold smA at hf
      rwa [show (allP w last T).length = j by omega] at hf
    | succ n ih =>
      intro j w2 hn
      refine sX11_allGains_4 hJ ?_
      have hp := p3 j (by omega)
      rw [Nat.zero_add] at hp
      obtain ⟨y0, y1, y2, y3, y4, y5, y6, y7, y8⟩ := hp
      simp only [k0, k22, k23, k25, r37, r38, r40, p1, nIle (show (allP w last T).length ≤ 100000 by omega) (show j ≤ 100000 by omega), cl_n (show j ≤ 100000 by omega), vp_n (show j < 640 by omega) (show 640 ≤ 100000 by omega), y4, y5, y8, nI_1, Option.some.injEq, Prod.mk.injEq, exists_eq_left', exists_eq_left, true_and, and_true, and_self, true_or, or_true, forall_const, exists_const, exists_and_left, wcat, Nat.zero_le, Nat.reduceLeDiff, Int32.lt_irrefl, not_false_eq_true, Nat.zero_add, forall_eq]
      refine ⟨fun z => absurd z (by omega), fun _ => ?_⟩
      have := ih (j + 1) none (by omega)
      rw [sumF, Nat.zero_add] at this
      exact this
  exact sX11_allGains_0 hJ (loop (allP w last T).length 0 _ (by omega))
end
