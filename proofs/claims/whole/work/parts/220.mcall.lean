/-! the reference's calls: size, drawn -/
def nxD (s : Nat) : Nat := (75 * s + 74) % 65537
theorem nxD_lt (s : Nat) : nxD s < 65537 := Nat.mod_lt _ (by omega)
/-- the trade that is drawn by seed s -/
def dwR (s : Nat) (day : Int32) : Row := (if nxD (nxD s) % 3 = 0 then 1 else 0, nI (nxD s % 3), day, nI (nxD (nxD (nxD s)) % 20 + 1), nI (nxD (nxD (nxD (nxD s))) % 100), 0)
def dwL (day : Int32) : Nat → Nat → List Row
  | 0, _ => []
  | n + 1, s => dwR s day :: dwL day n (nxD (nxD (nxD (nxD s))))
theorem dwR_v {s dd : Nat} (h : dd ≤ 999) : vRow (dwR s (nI dd)) ∧ ¬ (dwR s (nI dd)).1 = 2 := by
  have h3 : nxD s % 3 < 3 := Nat.mod_lt _ (by omega)
  have h20 : nxD (nxD (nxD s)) % 20 < 20 := Nat.mod_lt _ (by omega)
  have h100 : nxD (nxD (nxD (nxD s))) % 100 < 100 := Nat.mod_lt _ (by omega)
  have ns : ¬ (dwR s (nI dd)).1 = 2 := by
    show ¬ (if nxD (nxD s) % 3 = 0 then (1 : Int32) else 0) = 2
    split <;> decide
  refine ⟨⟨?_, ⟨_, h3, rfl⟩, ⟨dd, h, rfl⟩, fun z => absurd z ns, fun _ => ⟨⟨_, by omega, by omega, rfl⟩, _, by omega, rfl⟩, fun _ => ⟨0, by omega, rfl⟩⟩, ns⟩
  show (if nxD (nxD s) % 3 = 0 then (1 : Int32) else 0) = 0 ∨ (if nxD (nxD s) % 3 = 0 then (1 : Int32) else 0) = 1 ∨ _
  split
  · exact Or.inr (Or.inl rfl)
  · exact Or.inl rfl
theorem vB_add {T : List Row} {x : Row} (h : vB T) (hx : vRow x) (hl : T.length < 36) (hs : ¬ x.1 = 2) : vB (T ++ [x]) := by
  refine ⟨fun i hi => ?_, ?_, by rw [List.length_append, List.length_singleton]; omega⟩
  · rw [List.length_append, List.length_singleton] at hi
    by_cases e : i = T.length
    · rw [e, tr_end]; exact hx
    · rw [tr_app (by omega)]; exact h.1 i (by omega)
  · rw [List.length_append, List.length_singleton, spl, spl_app _ (Nat.le_refl _), tr_end, if_neg hs]
    exact h.2.1
section
variable {d : Nat} {A : qA} {S : qS} {m : Nat} {V : VSt}
set_option maxRecDepth 20000 in
theorem cm_draws {k s : Nat} {x : Int32} {f : Int32 → qS → Prop} (h : mI A S m) (hs : gI S m 50 = nI s) (hsb : s < 65537) (hx : x = nI k) (hk : 0 < k) (hk2 : k ≤ 1000) (hf : f (nI (nxD s % k)) (uI S m 50 (nI (nxD s)))) : Run (d + 1) 247 [.ref m, .int x] A S (kI A f) := by
  refine Run.i (C := mX11_draws) rfl rfl rfl fun J hJ => ?_
  subst hx
  refine sX11_draws_0 hJ ?_
  have hn := nxD_lt s
  have e1 : (75 : Int64) * (nI s).toInt64 + 74 = lN (75 * s + 74) := by rw [nI_l (by omega), show (75 : Int64) = lN 75 from rfl, show (74 : Int64) = lN 74 from rfl, lN_mul, lN_add]
  have e2 : lN (75 * s + 74) - lN (75 * s + 74) / 65537 * 65537 = lN (nxD s) := by rw [show (65537 : Int64) = lN 65537 from rfl, pk_lRem (by omega) (by omega) (by omega)]; rfl
  have nz : ¬ (65537 : Int64) = 0 := by decide
  have nk : ¬ nI k = 0 := nI_ne0 hk (by omega)
  simp only [h.1.1, hs, e1, e2, lN_i, nz, nk, pk_rem (show nxD s < 2 ^ 31 by omega) hk (show k < 2 ^ 31 by omega), not_false_eq_true, Option.some.injEq, Prod.mk.injEq, exists_eq_left', exists_eq_left, true_and, and_true, and_self, true_or, or_true, forall_const, exists_const, exists_and_left, wcat, Nat.zero_le, Nat.reduceLeDiff, Int32.lt_irrefl, not_false_eq_true, Nat.zero_add, forall_eq, gI_uI, gL_uL, gR_uR, gI_uL, gI_uR, gL_uI, gL_uR, gR_uI, gR_uL, true_and, and_true, Nat.add_right_cancel_iff, Nat.add_left_cancel_iff, Nat.reduceEqDiff, Nat.left_eq_add, Nat.right_eq_add, Nat.add_eq_left, Nat.add_eq_right, Nat.reduceAdd, Nat.succ_ne_self, reduceCtorEq, false_and, and_false, if_false, if_true, ite_true, ite_false, ite_self, Nat.succ_ne_zero, Nat.add_one_ne_zero, not_false_eq_true, not_true_eq_false, Nat.one_ne_zero, Nat.zero_ne_one]
  exact kI_i hf
set_option maxRecDepth 20000 in
theorem cm_lastDay {f : Int32 → qS → Prop} (h : MAt A S m V) (hv : vOk V) (hf : f (lastD (vNow V) (vNow V).length) S) : Run (d + 2) 248 [.ref m] A S (kI A f) := by
  refine Run.i (C := mX11_lastDay) rfl rfl rfl fun J hJ => ?_
  have hl := hv.2.1.1.2.2
  obtain ⟨⟨⟨k0, k1, k2, k3, k4, k5, k6, k7, k8, k9, k10, k11, k12, k13, k14, k15, k16, k17, k18, k19, k20, k21, k22, k23, k24, k25, k26⟩, ⟨r5, r15, r16, r17, r18, r21, r22, r23, r24, r25, r26, r27, r28, r29, r30, r31, r32, r33, r34, r35, r36, r37, r38, r39, r40, r48⟩⟩, -, ⟨-, -, c3, -⟩, -⟩ := h
  have cz : (0 : Int32).toNatClampNeg = 0 := rfl
  have v0 : vp_in 0 145 := vp_n (i := 0) (by omega) (by omega)
  have loop : ∀ n i, i + n = (vNow V).length → J 4 [some (.ref m), some (.int (lastD (vNow V) i)), some (.int (nI i))] [] A S := by
    intro n
    induction n with
    | zero =>
      intro i hi
      refine sX11_lastDay_4 hJ ?_
      simp only [k0, k2, r15, cz, v0, c3.1, nIle (show (vNow V).length ≤ 100000 by omega) (show i ≤ 100000 by omega), Option.some.injEq, Prod.mk.injEq, exists_eq_left', exists_eq_left, true_and, and_true, and_self, true_or, or_true, forall_const, exists_const, exists_and_left, wcat, Nat.zero_le, Nat.reduceLeDiff, Int32.lt_irrefl, not_false_eq_true, Nat.zero_add, forall_eq]
      refine ⟨fun _ => kI_i ?_, fun z => absurd (by omega) z⟩
      rwa [show i = (vNow V).length by omega]
    | succ n ih =>
      intro i hi
      refine sX11_lastDay_4 hJ ?_
      simp only [k0, k2, r15, cz, v0, c3.1, nIle (show (vNow V).length ≤ 100000 by omega) (show i ≤ 100000 by omega), nI_1, Option.some.injEq, Prod.mk.injEq, exists_eq_left', exists_eq_left, true_and, and_true, and_self, true_or, or_true, forall_const, exists_const, exists_and_left, wcat, Nat.zero_le, Nat.reduceLeDiff, Int32.lt_irrefl, not_false_eq_true, Nat.zero_add, forall_eq]
      refine ⟨fun z => absurd z (by omega), fun _ => cm_of (c := 3) rfl k2 (by omega) (by omega) ?_⟩
      have := ih (i + 1) (by omega)
      rw [lastD] at this
      rw [(c3.2 i (by omega)).2.2.1]
      refine ⟨fun z => ?_, fun z => ?_⟩
      · rw [if_neg (Int32.not_lt.mpr z)] at this; exact this
      · rw [if_pos (Int32.not_le.mp z)] at this
        simp only [r15, Option.some.injEq, Prod.mk.injEq, exists_eq_left', exists_eq_left, true_and, and_true, and_self, true_or, or_true, forall_const, exists_const, exists_and_left, wcat, Nat.zero_le, Nat.reduceLeDiff, Int32.lt_irrefl, not_false_eq_true, Nat.zero_add, forall_eq]
        refine cm_of (c := 3) rfl k2 (by omega) (by omega) ?_
        rw [(c3.2 i (by omega)).2.2.1]
        exact this
  exact sX11_lastDay_0 hJ (loop (vNow V).length 0 (by omega))
theorem lastD_b {T : List Row} (h : vT T) : ∀ i, i ≤ T.length → ∃ dd, dd ≤ 999 ∧ lastD T i = nI dd
  | 0, _ => ⟨0, by omega, rfl⟩
  | i + 1, hi => by
    obtain ⟨dd, h1, h2⟩ := lastD_b h i (by omega)
    obtain ⟨d', h3, h4⟩ := (h.1 i (by omega)).2.2.1
    rw [lastD]
    split
    · exact ⟨d', h3, h4⟩
    · exact ⟨dd, h1, h2⟩
set_option maxRecDepth 20000 in
set_option maxHeartbeats 2000000 in
theorem cm_booksDrawn {sd n : Nat} {td : Tld} {f : qS → Prop} (h : MAt A S m V) (hv : vOk V) (hL : vLed V = some td) (hsd : sd < 65537) (hn : n ≤ 12) (hf : ∀ S', MAt A S' m V → BkM A S' m (lw (vLed V)) 999 (vNow V ++ dwL (lastD (vNow V) (vNow V).length) n sd) → Fk S S' m → f S') : Run (d + 9) 249 [.ref m, .int (nI sd), .int (nI n)] A S (kV A f) := by
  refine Run.i (C := mX11_booksDrawn) rfl rfl rfl fun J hJ => ?_
  have hl := hv.2.1.1.2.2
  have hL1 := h.2.2.2
  rw [hL] at hL1
  obtain ⟨q, e3, hq, hLg⟩ := hL1
  obtain ⟨dd, hd1, hd2⟩ := lastD_b hv.2.1.1 (vNow V).length (Nat.le_refl _)
  rw [hd2] at hf
  have loop : ∀ r k s (P : List Row) (Sj : qS) (w1 w5 w6 w7 w8 : Option Value), k + r = n → P.length = k → s < 65537 → MAt A Sj m V → Fk S Sj m → RwAt Sj (m + 3) (vNow V ++ P) → vB (vNow V ++ P) → gI Sj m 50 = nI s → P ++ dwL (nI dd) r s = dwL (nI dd) n sd → J 17 [some (.ref m), w1, some (.int (nI n)), some (.int (nI dd)), some (.int (nI k)), w5, w6, w7, w8] [] A Sj := by
    intro r
    induction r with
    | zero =>
      intro k s P Sj w1 w5 w6 w7 w8 hk hP hs hj hrj hx hvb e50 he
      refine sX11_booksDrawn_17 hJ ?_
      have e3' : gR Sj m 3 = some q := (hrj.2 m 3).trans e3
      obtain ⟨⟨l0, -⟩, -, w1', -⟩ := hLg.fk hrj hq
      simp only [h.1.1.1, e3', l0, w1', nIle (show n ≤ 100000 by omega) (show k ≤ 100000 by omega), Option.some.injEq, Prod.mk.injEq, exists_eq_left', exists_eq_left, true_and, and_true, and_self, true_or, or_true, forall_const, exists_const, exists_and_left, wcat, Nat.zero_le, Nat.reduceLeDiff, Int32.lt_irrefl, not_false_eq_true, Nat.zero_add, forall_eq]
      refine ⟨fun _ => ?_, fun z => absurd (by omega) z⟩
      rw [← lw_s hL]
      rw [dwL, List.append_nil] at he
      rw [he] at hx hvb
      exact cm_booksX hj hx hvb fun S2 h2 hB hr2 => kV_i (hf S2 h2 hB (hrj.trans hr2))
    | succ r ih =>
      intro k s P Sj w1 w5 w6 w7 w8 hk hP hs hj hrj hx hvb e50 he
      refine sX11_booksDrawn_17 hJ ?_
      have hk0 := hj.1.1.1
      simp only [hk0, nIle (show n ≤ 100000 by omega) (show k ≤ 100000 by omega), nI_1, Option.some.injEq, Prod.mk.injEq, exists_eq_left', exists_eq_left, true_and, and_true, and_self, true_or, or_true, forall_const, exists_const, exists_and_left, wcat, Nat.zero_le, Nat.reduceLeDiff, Int32.lt_irrefl, not_false_eq_true, Nat.zero_add, forall_eq]
      refine ⟨fun z => absurd z (by omega), fun _ => ?_⟩
      have g50 : ∀ (S1 : qS) (v : Nat), mI A S1 m → mI A (uI S1 m 50 (nI v)) m := fun S1 v hI => ⟨hI.1, hI.2.fr fun k => rfl⟩
      have l1 := nxD_lt s
      have l2 := nxD_lt (nxD s)
      have l3 := nxD_lt (nxD (nxD s))
      have l4 := nxD_lt (nxD (nxD (nxD s)))
      refine cm_draws (k := 3) hj.1 e50 hs rfl (by omega) (by omega) ?_
      refine cm_draws (k := 3) (g50 _ _ hj.1) (by simp only [gI_uI, gL_uL, gR_uR, gI_uL, gI_uR, gL_uI, gL_uR, gR_uI, gR_uL, true_and, and_true, Nat.add_right_cancel_iff, Nat.add_left_cancel_iff, Nat.reduceEqDiff, Nat.left_eq_add, Nat.right_eq_add, Nat.add_eq_left, Nat.add_eq_right, Nat.reduceAdd, Nat.succ_ne_self, reduceCtorEq, false_and, and_false, if_false, if_true, ite_true, ite_false, ite_self, Nat.succ_ne_zero, Nat.add_one_ne_zero, not_false_eq_true, not_true_eq_false, Nat.one_ne_zero, Nat.zero_ne_one]) l1 rfl (by omega) (by omega) ?_
      have z0 : (nI (nxD (nxD s) % 3) = 0) = (nxD (nxD s) % 3 = 0) := by rw [show (0 : Int32) = nI 0 from rfl, nIeq (by omega) (by omega)]
      rw [z0]
      obtain ⟨hrw, hns⟩ := dwR_v (s := s) hd1
      have fin : ∀ (kd : Int32) (w5 w6 w7 w8 : Option Value), kd = (dwR s (nI dd)).1 → Run (d + 8) 147 [.ref (m + 3), .int kd, .int (nI (nxD s % 3)), .int (nI dd), .int (nI (nxD (nxD (nxD s)) % 20 + 1)), .int (nI (nxD (nxD (nxD (nxD s))) % 100)), .int 0] A (uI (uI (uI (uI Sj m 50 (nI (nxD s))) m 50 (nI (nxD (nxD s)))) m 50 (nI (nxD (nxD (nxD s))))) m 50 (nI (nxD (nxD (nxD (nxD s)))))) (kV A fun S12 => J 17 [some (.ref m), w1, some (.int (nI n)), some (.int (nI dd)), some (.int (nI (k + 1))), w5, w6, w7, w8] [] A S12) := by
        intro kd w5 w6 w7 w8 ekd
        obtain ⟨⟨k0, k1, k2, k3, k4, k5, k6, k7, k8, k9, k10, k11, k12, k13, k14, k15, k16, k17, k18, k19, k20, k21, k22, k23, k24, k25, k26⟩, ⟨r5, r15, r16, r17, r18, r21, r22, r23, r24, r25, r26, r27, r28, r29, r30, r31, r32, r33, r34, r35, r36, r37, r38, r39, r40, r48⟩⟩ := hj.1
        obtain ⟨Hj, hHj⟩ := hj.2.1
        have hF : Fk Sj (uI (uI (uI (uI Sj m 50 (nI (nxD s))) m 50 (nI (nxD (nxD s)))) m 50 (nI (nxD (nxD (nxD s))))) m 50 (nI (nxD (nxD (nxD (nxD s)))))) m := (((Fk.rf.uI (by unfold scr; omega)).uI (by unfold scr; omega)).uI (by unfold scr; omega)).uI (by unfold scr; omega)
        have hll : (vNow V ++ P).length = (vNow V).length + k := by rw [List.length_append, hP]
        refine cm_adds (T := vNow V ++ P) k3 (by omega) (hx.same fun j => by simp only [gI_uI, gL_uL, gR_uR, gI_uL, gI_uR, gL_uI, gL_uR, gR_uI, gR_uL, true_and, and_true, Nat.add_right_cancel_iff, Nat.add_left_cancel_iff, Nat.reduceEqDiff, Nat.left_eq_add, Nat.right_eq_add, Nat.add_eq_left, Nat.add_eq_right, Nat.reduceAdd, Nat.succ_ne_self, reduceCtorEq, false_and, and_false, if_false, if_true, ite_true, ite_false, ite_self, Nat.succ_ne_zero, Nat.add_one_ne_zero, not_false_eq_true, not_true_eq_false, Nat.one_ne_zero, Nat.zero_ne_one]) (by omega) fun S12 hx12 g1 g2 g3 => ?_
        have hF2 : Fk _ S12 m := Fk.x3 g1 g2 g3
        have hj12 := (hj.fk hF hHj.one.one.one.one).fk hF2 (hHj.one.one.one.one.x3 g1 g2)
        rw [ekd, List.append_assoc] at hx12
        refine ih (k + 1) (nxD (nxD (nxD (nxD s)))) (P ++ [dwR s (nI dd)]) S12 _ _ _ _ _ (by omega) (by rw [List.length_append, List.length_singleton, hP]) l4 hj12 ((hrj.trans hF).trans hF2) hx12 ?_ ?_ ?_
        · rw [← List.append_assoc]; exact vB_add hvb hrw (by omega) hns
        · rw [g1 _ _ (by omega)]; simp only [gI_uI, gL_uL, gR_uR, gI_uL, gI_uR, gL_uI, gL_uR, gR_uI, gR_uL, true_and, and_true, Nat.add_right_cancel_iff, Nat.add_left_cancel_iff, Nat.reduceEqDiff, Nat.left_eq_add, Nat.right_eq_add, Nat.add_eq_left, Nat.add_eq_right, Nat.reduceAdd, Nat.succ_ne_self, reduceCtorEq, false_and, and_false, if_false, if_true, ite_true, ite_false, ite_self, Nat.succ_ne_zero, Nat.add_one_ne_zero, not_false_eq_true, not_true_eq_false, Nat.one_ne_zero, Nat.zero_ne_one]
        · rw [dwL] at he
          rw [← he, List.append_assoc]; rfl
      have d3 : ∀ {f : Int32 → qS → Prop}, f (nI (nxD (nxD (nxD s)) % 20)) (uI (uI (uI Sj m 50 (nI (nxD s))) m 50 (nI (nxD (nxD s)))) m 50 (nI (nxD (nxD (nxD s))))) → Run (d + 8) 247 [.ref m, .int 20] A (uI (uI Sj m 50 (nI (nxD s))) m 50 (nI (nxD (nxD s)))) (kI A f) := fun hf => cm_draws (k := 20) (g50 _ _ (g50 _ _ hj.1)) (by simp only [gI_uI, gL_uL, gR_uR, gI_uL, gI_uR, gL_uI, gL_uR, gR_uI, gR_uL, true_and, and_true, Nat.add_right_cancel_iff, Nat.add_left_cancel_iff, Nat.reduceEqDiff, Nat.left_eq_add, Nat.right_eq_add, Nat.add_eq_left, Nat.add_eq_right, Nat.reduceAdd, Nat.succ_ne_self, reduceCtorEq, false_and, and_false, if_false, if_true, ite_true, ite_false, ite_self, Nat.succ_ne_zero, Nat.add_one_ne_zero, not_false_eq_true, not_true_eq_false, Nat.one_ne_zero, Nat.zero_ne_one]) l2 rfl (by omega) (by omega) hf
      have d4 : ∀ {f : Int32 → qS → Prop}, f (nI (nxD (nxD (nxD (nxD s))) % 100)) (uI (uI (uI (uI Sj m 50 (nI (nxD s))) m 50 (nI (nxD (nxD s)))) m 50 (nI (nxD (nxD (nxD s))))) m 50 (nI (nxD (nxD (nxD (nxD s)))))) → Run (d + 8) 247 [.ref m, .int 100] A (uI (uI (uI Sj m 50 (nI (nxD s))) m 50 (nI (nxD (nxD s)))) m 50 (nI (nxD (nxD (nxD s))))) (kI A f) := fun hf => cm_draws (k := 100) (g50 _ _ (g50 _ _ (g50 _ _ hj.1))) (by simp only [gI_uI, gL_uL, gR_uR, gI_uL, gI_uR, gL_uI, gL_uR, gR_uI, gR_uL, true_and, and_true, Nat.add_right_cancel_iff, Nat.add_left_cancel_iff, Nat.reduceEqDiff, Nat.left_eq_add, Nat.right_eq_add, Nat.add_eq_left, Nat.add_eq_right, Nat.reduceAdd, Nat.succ_ne_self, reduceCtorEq, false_and, and_false, if_false, if_true, ite_true, ite_false, ite_self, Nat.succ_ne_zero, Nat.add_one_ne_zero, not_false_eq_true, not_true_eq_false, Nat.one_ne_zero, Nat.zero_ne_one]) l3 rfl (by omega) (by omega) hf
      obtain ⟨-, ⟨r5, r15, r16, r17, r18, r21, r22, r23, r24, r25, r26, r27, r28, r29, r30, r31, r32, r33, r34, r35, r36, r37, r38, r39, r40, r48⟩⟩ := hj.1
      refine ⟨fun z => d3 (d4 ?_), fun z => d3 (d4 ?_)⟩
      · rw [nI_1]
        exact ⟨_, r16, fin 0 _ _ _ _ (by show _ = (if nxD (nxD s) % 3 = 0 then (1 : Int32) else 0); rw [if_neg z])⟩
      · rw [nI_1]
        exact ⟨_, r16, fin 1 _ _ _ _ (by show _ = (if nxD (nxD s) % 3 = 0 then (1 : Int32) else 0); rw [if_pos z])⟩
  refine sX11_booksDrawn_0 hJ ⟨h.1.1.1, wc rfl, cm_works h hv fun S1 h1 hx1 hr1 => ⟨h.1.1.1, wc rfl, cm_lastDay h1 hv ⟨h.1.1.1, fun T e => ?_⟩⟩⟩
  subst e
  rw [hd2]
  obtain ⟨H1, hH1⟩ := h1.2.1
  have hF : Fk S1 (uI S1 m 50 (nI sd)) m := Fk.rf.uI (by unfold scr; omega)
  exact loop n 0 sd [] _ _ _ _ _ _ (by omega) rfl hsd (h1.fk hF hH1.one) (hr1.trans hF) (by rw [List.append_nil]; exact hx1.same fun j => by simp only [gI_uI, gL_uL, gR_uR, gI_uL, gI_uR, gL_uI, gL_uR, gR_uI, gR_uL, true_and, and_true, Nat.add_right_cancel_iff, Nat.add_left_cancel_iff, Nat.reduceEqDiff, Nat.left_eq_add, Nat.right_eq_add, Nat.add_eq_left, Nat.add_eq_right, Nat.reduceAdd, Nat.succ_ne_self, reduceCtorEq, false_and, and_false, if_false, if_true, ite_true, ite_false, ite_self, Nat.succ_ne_zero, Nat.add_one_ne_zero, not_false_eq_true, not_true_eq_false, Nat.one_ne_zero, Nat.zero_ne_one]) (by rw [List.append_nil]; exact hv.2.1.1.b) (by simp only [gI_uI, gL_uL, gR_uR, gI_uL, gI_uR, gL_uI, gL_uR, gR_uI, gR_uL, true_and, and_true, Nat.add_right_cancel_iff, Nat.add_left_cancel_iff, Nat.reduceEqDiff, Nat.left_eq_add, Nat.right_eq_add, Nat.add_eq_left, Nat.add_eq_right, Nat.reduceAdd, Nat.succ_ne_self, reduceCtorEq, false_and, and_false, if_false, if_true, ite_true, ite_false, ite_self, Nat.succ_ne_zero, Nat.add_one_ne_zero, not_false_eq_true, not_true_eq_false, Nat.one_ne_zero, Nat.zero_ne_one]) rfl
end
