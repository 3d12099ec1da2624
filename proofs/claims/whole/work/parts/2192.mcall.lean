/-! the reference's calls: takes; a trade more -/
def pastN (V : VSt) : List (List Row) := (if (vPast V).length = 16 then (vPast V).drop 1 else vPast V) ++ [vNow V]
theorem rg_drop {X : List (List Row)} {i : Nat} : rg (X.drop 1) i = rg X (i + 1) := by
  unfold rg
  rw [List.getD_eq_getElem?_getD, List.getD_eq_getElem?_getD, List.getElem?_drop, Nat.add_comm]
theorem RwAt.add {S : qS} {a : Nat} {T : List Row} {x : Row} (h : RwAt S a T) : RwAt (uI (uI (uI (uI (uI (uI (uI S a (6 * T.length + 1) x.1) a (6 * T.length + 2) x.2.1) a (6 * T.length + 3) x.2.2.1) a (6 * T.length + 4) x.2.2.2.1) a (6 * T.length + 5) x.2.2.2.2.1) a (6 * T.length + 6) x.2.2.2.2.2) a 0 (nI (T.length + 1))) a (T ++ [x]) := by
  refine ⟨by simp only [gI_uI, and_self, if_true, List.length_append, List.length_singleton], fun i hi => ?_⟩
  rw [List.length_append, List.length_singleton] at hi
  by_cases e : i = T.length
  · subst e
    rw [tr_end]
    simp only [gI_uI, gL_uL, gR_uR, gI_uL, gI_uR, gL_uI, gL_uR, gR_uI, gR_uL, true_and, and_true, Nat.add_right_cancel_iff, Nat.add_left_cancel_iff, Nat.reduceEqDiff, Nat.left_eq_add, Nat.right_eq_add, Nat.add_eq_left, Nat.add_eq_right, Nat.reduceAdd, Nat.succ_ne_self, reduceCtorEq, false_and, and_false, if_false, if_true, ite_true, ite_false, ite_self, Nat.succ_ne_zero, Nat.add_one_ne_zero, not_false_eq_true, not_true_eq_false, Nat.one_ne_zero, Nat.zero_ne_one]
  · rw [tr_app (by omega)]
    have := h.2 i (by omega)
    refine ⟨?_, ?_, ?_, ?_, ?_, ?_⟩
    all_goals rw [gI_uI, if_neg (by omega), gI_uI, if_neg (by omega), gI_uI, if_neg (by omega), gI_uI, if_neg (by omega), gI_uI, if_neg (by omega), gI_uI, if_neg (by omega), gI_uI, if_neg (by omega)]
    · exact this.1
    · exact this.2.1
    · exact this.2.2.1
    · exact this.2.2.2.1
    · exact this.2.2.2.2.1
    · exact this.2.2.2.2.2
section
variable {d : Nat} {A : qA} {S : qS} {m : Nat} {V : VSt}
set_option maxRecDepth 20000 in
theorem cm_adds {a n : Nat} {T : List Row} {s p y sh pr ru : Int32} {f : qS → Prop} (hk : A.1 a = some (13, n)) (hn : n ≤ 100000) (h : RwAt S a T) (hl : 6 * T.length + 6 < n) (hf : ∀ S', RwAt S' a (T ++ [(s, p, y, sh, pr, ru)]) → (∀ b k, ¬ b = a → gI S' b k = gI S b k) → (∀ b k, gL S' b k = gL S b k) → (∀ b k, gR S' b k = gR S b k) → f S') : Run (d + 1) 147 [.ref a, .int s, .int p, .int y, .int sh, .int pr, .int ru] A S (kV A f) := by
  refine Run.i (C := mX11_adds) rfl rfl rfl fun J hJ => ?_
  refine sX11_adds_0 hJ ?_
  have cz : (0 : Int32).toNatClampNeg = 0 := rfl
  have v0 : vp_in 0 n := vp_n (i := 0) (by omega) hn
  have e : ∀ c, (6 : Int32) * nI T.length + nI c = nI (6 * T.length + c) := fun c => by rw [show (6 : Int32) = nI 6 from rfl, nI_mul, nI_add]
  have e1 := e 1
  have e2 := e 2
  have e3 := e 3
  have e4 := e 4
  have e5 := e 5
  have e6 := e 6
  rw [show nI 1 = 1 from rfl] at e1
  rw [show nI 2 = 2 from rfl] at e2
  rw [show nI 3 = 3 from rfl] at e3
  rw [show nI 4 = 4 from rfl] at e4
  rw [show nI 5 = 5 from rfl] at e5
  rw [show nI 6 = 6 from rfl] at e6
  have z1 : ∀ c, 1 ≤ c → (0 = 6 * T.length + c) = False := fun c hc => by simp only [eq_iff_iff, iff_false]; omega
  simp only [hk, cz, v0, h.1, e1, e2, e3, e4, e5, e6, cl_n (show 6 * T.length + 1 ≤ 100000 by omega), cl_n (show 6 * T.length + 2 ≤ 100000 by omega), cl_n (show 6 * T.length + 3 ≤ 100000 by omega), cl_n (show 6 * T.length + 4 ≤ 100000 by omega), cl_n (show 6 * T.length + 5 ≤ 100000 by omega), cl_n (show 6 * T.length + 6 ≤ 100000 by omega), vp_n (show 6 * T.length + 1 < n by omega) hn, vp_n (show 6 * T.length + 2 < n by omega) hn, vp_n (show 6 * T.length + 3 < n by omega) hn, vp_n (show 6 * T.length + 4 < n by omega) hn, vp_n (show 6 * T.length + 5 < n by omega) hn, vp_n (show 6 * T.length + 6 < n by omega) hn, nI_1, z1 1 (by omega), z1 2 (by omega), z1 3 (by omega), z1 4 (by omega), z1 5 (by omega), z1 6 (by omega), Option.some.injEq, Prod.mk.injEq, exists_eq_left', exists_eq_left, true_and, and_true, and_self, true_or, or_true, forall_const, exists_const, exists_and_left, wcat, Nat.zero_le, Nat.reduceLeDiff, Int32.lt_irrefl, not_false_eq_true, Nat.zero_add, forall_eq, gI_uI, gL_uL, gR_uR, gI_uL, gI_uR, gL_uI, gL_uR, gR_uI, gR_uL, true_and, and_true, Nat.add_right_cancel_iff, Nat.add_left_cancel_iff, Nat.reduceEqDiff, Nat.left_eq_add, Nat.right_eq_add, Nat.add_eq_left, Nat.add_eq_right, Nat.reduceAdd, Nat.succ_ne_self, reduceCtorEq, false_and, and_false, if_false, if_true, ite_true, ite_false, ite_self, Nat.succ_ne_zero, Nat.add_one_ne_zero, not_false_eq_true, not_true_eq_false, Nat.one_ne_zero, Nat.zero_ne_one]
  refine kV_i (hf _ (h.add (x := (s, p, y, sh, pr, ru))) (fun b k hb => ?_) (fun _ _ => rfl) (fun _ _ => rfl))
  simp only [gI_uI, gL_uL, gR_uR, gI_uL, gI_uR, gL_uI, gL_uR, gR_uI, gR_uL, hb, false_and, if_false]
set_option maxRecDepth 20000 in
set_option maxHeartbeats 2000000 in
theorem cm_takes {T : List Row} {td : Tld} {f : Bool → qS → Prop} (h : MAt A S m V) (hv : vOk V) (hL : vLed V = some td) (hx : RwAt S (m + 3) T) (hT : vT T) (hf0 : shortT (lw (vLed V)) 999 T = true → ∀ S', MAt A S' m V → Fr S S' m (m + 27) → f false S') (hf : shortT (lw (vLed V)) 999 T = false → ∀ S', MAt A S' m (upV V T (pastN V) (vImg V)) → Fr S S' m (m + 27) → f true S') : Run (d + 9) 253 [.ref m] A S (kZ A f) := by
  refine Run.i (C := mX11_takes) rfl rfl rfl fun J hJ => ?_
  have hp16 := hv.2.2.2.2.1
  have hvn := hv.2.1.1.2.2
  -- the second loop, and what comes behind it
  have second : ∀ (P2 : List (List Row)) (S2 : qS), shortT (lw (vLed V)) 999 T = false → P2.length < 16 → (∀ X, X ∈ P2 → X.length ≤ 24) → pastN V = P2 ++ [vNow V] → MAt A S2 m (upV V (vNow V) P2 (vImg V)) → RwAt S2 (m + 3) T → Fr S S2 m (m + 27) → J 75 [some (.ref m), some (.int 0)] [] A S2 := by
    intro P2 S2 hsh hl2 hX2 hpn h2 hx2 hr2
    obtain ⟨c1, c2, c3, c4, c5, c6, c7, c8, c9, c10⟩ := h2.2.2.1
    have c4' : gI S2 m 19 = nI P2.length := c4
    obtain ⟨⟨k0, k1, k2, k3, k4, k5, k6, k7, k8, k9, k10, k11, k12, k13, k14, k15, k16, k17, k18, k19, k20, k21, k22, k23, k24, k25, k26⟩, ⟨r5, r15, r16, r17, r18, r21, r22, r23, r24, r25, r26, r27, r28, r29, r30, r31, r32, r33, r34, r35, r36, r37, r38, r39, r40, r48⟩⟩ := h2.1
    obtain ⟨H, hH⟩ := h2.2.1
    have loop : ∀ n k (Sj : qS), k + n = 145 → cpO S2 Sj (m + 2) 0 (m + 4) (145 * P2.length) k → J 75 [some (.ref m), some (.int (nI k))] [] A Sj := by
      intro n
      induction n with
      | zero =>
        intro k Sj hn hcp
        refine sX11_takes_75 hJ ?_
        have ek : k = 145 := by omega
        subst ek
        have q1 : ((145 : Int32) ≤ nI 145) = True := by decide
        have e19 : gI Sj m 19 = nI P2.length := (hcp.one (by omega)).trans c4'
        have r15' : gR Sj m 15 = some (m + 2) := (hcp.2.2 m 15).trans r15
        have r16' : gR Sj m 16 = some (m + 3) := (hcp.2.2 m 16).trans r16
        simp only [q1, k0, e19, r15', r16', nI_1, not_true_eq_false, false_imp_iff, true_imp_iff, and_true, true_and, Option.some.injEq, Prod.mk.injEq, exists_eq_left', exists_eq_left, true_and, and_true, and_self, true_or, or_true, forall_const, exists_const, exists_and_left, wcat, Nat.zero_le, Nat.reduceLeDiff, Int32.lt_irrefl, not_false_eq_true, Nat.zero_add, forall_eq, gI_uI, gL_uL, gR_uR, gI_uL, gI_uR, gL_uI, gL_uR, gR_uI, gR_uL, true_and, and_true, Nat.add_right_cancel_iff, Nat.add_left_cancel_iff, Nat.reduceEqDiff, Nat.left_eq_add, Nat.right_eq_add, Nat.add_eq_left, Nat.add_eq_right, Nat.reduceAdd, Nat.succ_ne_self, reduceCtorEq, false_and, and_false, if_false, if_true, ite_true, ite_false, ite_self, Nat.succ_ne_zero, Nat.add_one_ne_zero, not_false_eq_true, not_true_eq_false, Nat.one_ne_zero, Nat.zero_ne_one]
        refine cm_copies k3 k2 (by omega) (by omega) (by omega) (by omega) (by omega) fun S4 hc4 => kZ_1 (hf hsh S4 ?_ ?_)
        · have g1 : ∀ b k, ¬ b = m + 2 → ¬ b = m + 4 → ¬ (b = m ∧ k = 19) → gI S4 b k = gI S2 b k := fun b k hb hb4 hk => by rw [hc4.1, if_neg (by omega), gI_uI, if_neg hk]; exact hcp.one hb4
          have gR' : ∀ b k, gR S4 b k = gR S2 b k := fun b k => (hc4.2.2 b k).trans (hcp.2.2 b k)
          have hH4 : MH S4 m H := by
            intro q hq
            obtain ⟨a1, a2, a3⟩ := hH q hq
            exact ⟨(g1 _ _ (by omega) (by omega) (by omega)).trans a1, a2, fun i hi => rowE.lot ⟨fun b b1 b2 => g1 _ _ (by omega) (by omega) (by omega), (hc4.2.1 _ _).trans (hcp.2.1 _ _)⟩ (a3 i hi)⟩
          have := MAt.re (now := T) (past := P2 ++ [vNow V]) (img := vImg V) h2 hH4 gR' (fun k => g1 _ _ (by omega) (by omega) (by omega)) (g1 _ _ (by omega) (by omega) (by omega)) (g1 _ _ (by omega) (by omega) (by omega)) (g1 _ _ (by omega) (by omega) (by omega)) (g1 _ _ (by omega) (by omega) (by omega)) ?_ ?_ (fun i hi => ?_) ((g1 _ _ (by omega) (by omega) (by omega)).trans c6) (fun i hi => (c7 i hi).same (hv.2.2.2.2.2.1 _ (rg_mem hi)).1.2.2 fun k hk => g1 _ _ (by omega) (by omega) (by omega)) (fun b hb k => g1 _ _ (by omega) (by omega) (by omega))
          · rw [hpn]; exact this
          · exact (RwO.same (o' := 0) hx2.o hT.2.2 fun k hk => by rw [Nat.zero_add, hc4.1, if_pos ⟨rfl, hk⟩, gI_uI, if_neg (by omega), hcp.one (by omega)]).at
          · rw [hc4.1, if_neg (by omega)]
            simp only [gI_uI, gL_uL, gR_uR, gI_uL, gI_uR, gL_uI, gL_uR, gR_uI, gR_uL, true_and, and_true, Nat.add_right_cancel_iff, Nat.add_left_cancel_iff, Nat.reduceEqDiff, Nat.left_eq_add, Nat.right_eq_add, Nat.add_eq_left, Nat.add_eq_right, Nat.reduceAdd, Nat.succ_ne_self, reduceCtorEq, false_and, and_false, if_false, if_true, ite_true, ite_false, ite_self, Nat.succ_ne_zero, Nat.add_one_ne_zero, not_false_eq_true, not_true_eq_false, Nat.one_ne_zero, Nat.zero_ne_one, List.length_append, List.length_singleton]
          · rw [List.length_append, List.length_singleton] at hi
            have f4 : ∀ k, gI S4 (m + 4) k = gI Sj (m + 4) k := fun k => by rw [hc4.1, if_neg (by omega), gI_uI, if_neg (by omega)]
            by_cases e : i = P2.length
            · rw [e, rg_end]
              exact (hcp.to c3.o hvn).same hvn fun k hk => f4 _
            · rw [rg_app (by omega)]
              have hl24 := hX2 _ (rg_mem (show i < P2.length by omega))
              exact (hcp.off (c5 i (show i < P2.length by omega)) hl24 (by omega)).same hl24 fun k hk => f4 _
        · refine hr2.trans (fun b hb k => ⟨?_, (hc4.2.1 b k).trans (hcp.2.1 b k), (hc4.2.2 b k).trans (hcp.2.2 b k)⟩)
          rw [hc4.1, if_neg (by omega), gI_uI, if_neg (by omega), hcp.one (by omega)]
      | succ n ih =>
        intro k Sj hn hcp
        refine sX11_takes_75 hJ ?_
        have q1 : ((145 : Int32) ≤ nI k) = False := by rw [q145 (by omega)]; simp; omega
        have r15' : gR Sj m 15 = some (m + 2) := (hcp.2.2 m 15).trans r15
        have r17' : gR Sj m 17 = some (m + 4) := (hcp.2.2 m 17).trans r17
        have e19 : gI Sj m 19 = nI P2.length := (hcp.one (by omega)).trans c4'
        simp only [q1, k0, k2, k4, r15', r17', e19, nI145, cl_n (show 145 * P2.length + k ≤ 100000 by omega), vp_n (show 145 * P2.length + k < 2320 by omega) (show 2320 ≤ 100000 by omega), cl_n (show k ≤ 100000 by omega), vp_n (show k < 145 by omega) (show 145 ≤ 100000 by omega), nI_1, not_false_eq_true, false_imp_iff, true_imp_iff, true_and, Option.some.injEq, Prod.mk.injEq, exists_eq_left', exists_eq_left, true_and, and_true, and_self, true_or, or_true, forall_const, exists_const, exists_and_left, wcat, Nat.zero_le, Nat.reduceLeDiff, Int32.lt_irrefl, not_false_eq_true, Nat.zero_add, forall_eq]
        have := hcp.s (by omega)
        rw [Nat.zero_add] at this
        exact ih (k + 1) _ (by omega) this
    exact loop 145 0 _ (by omega) cpO.z
  have hL1 := h.2.2.2
  rw [hL] at hL1
  obtain ⟨q, e3, hq, hk, hrf, hw, -⟩ := hL1
  obtain ⟨H, hH⟩ := h.2.1
  refine sX11_takes_0 hJ ?_
  simp only [h.1.1.1, e3, hk.1, hw, Option.some.injEq, Prod.mk.injEq, exists_eq_left', exists_eq_left, true_and, and_true, and_self, true_or, or_true, forall_const, exists_const, exists_and_left, wcat, Nat.zero_le, Nat.reduceLeDiff, Int32.lt_irrefl, not_false_eq_true, Nat.zero_add, forall_eq]
  rw [← lw_s hL]
  refine cm_books h.1 hx hH hT.b fun S1 hB hx1 hr1 => ?_
  have hk1 : Fk S S1 m := hr1.k (by omega)
  have h1 : MAt A S1 m V := h.fk hk1 hB.2.1
  rw [hB.2.2.2.2.1, h1.2.2.1.2.2.2.1]
  refine q_eqb (fun y => ?_) (fun y => kZ_0 (hf0 y S1 h1 hk1.fr))
  rw [show (16 : Int32) = nI 16 from rfl, nIeq (by omega) (by omega)]
  refine ⟨fun y1 => ?_, fun y1 => ?_⟩
  · exact second (vPast V) S1 y (by omega) (fun X hX => (hv.2.2.2.1 X hX).1.2.2) (by rw [pastN, if_neg y1]) h1 hx1 hk1.fr
  · obtain ⟨c1, c2, c3, c4, c5, c6, c7, c8, c9, c10⟩ := h1.2.2.1
    obtain ⟨⟨k0, k1, k2, k3, k4, k5, k6, k7, k8, k9, k10, k11, k12, k13, k14, k15, k16, k17, k18, k19, k20, k21, k22, k23, k24, k25, k26⟩, ⟨r5, r15, r16, r17, r18, r21, r22, r23, r24, r25, r26, r27, r28, r29, r30, r31, r32, r33, r34, r35, r36, r37, r38, r39, r40, r48⟩⟩ := h1.1
    obtain ⟨H1, hH1⟩ := h1.2.1
    have loop : ∀ n k (Sj : qS), k + n = 2175 → (∀ b j, gI Sj b j = if b = m + 4 ∧ j < k then gI S1 (m + 4) (j + 145) else gI S1 b j) → (∀ b j, gL Sj b j = gL S1 b j) → (∀ b j, gR Sj b j = gR S1 b j) → J 34 [some (.ref m), some (.int (nI k))] [] A Sj := by
      intro n
      induction n with
      | zero =>
        intro k Sj hn g1 g2 g3
        refine sX11_takes_34 hJ ?_
        have ek : k = 2175 := by omega
        subst ek
        have q1 : ((2175 : Int32) ≤ nI 2175) = True := by decide
        have e19 : gI Sj m 19 = nI (15 + 1) := by rw [g1, if_neg (by omega), c4, y1]
        have em : nI (15 + 1) - 1 = nI 15 := nI_pred 15
        simp only [q1, k0, e19, em, not_true_eq_false, false_imp_iff, true_imp_iff, and_true, true_and, Option.some.injEq, Prod.mk.injEq, exists_eq_left', exists_eq_left, true_and, and_true, and_self, true_or, or_true, forall_const, exists_const, exists_and_left, wcat, Nat.zero_le, Nat.reduceLeDiff, Int32.lt_irrefl, not_false_eq_true, Nat.zero_add, forall_eq]
        have g4 : ∀ b j, ¬ b = m + 4 → ¬ (b = m ∧ j = 19) → gI (uI Sj m 19 (nI 15)) b j = gI S1 b j := fun b j hb hj => by rw [gI_uI, if_neg hj, g1, if_neg (fun z => hb z.1)]
        refine second ((vPast V).drop 1) _ y (by rw [List.length_drop]; omega) (fun X hX => (hv.2.2.2.1 X (List.mem_of_mem_drop hX)).1.2.2) (by rw [pastN, if_pos y1]) ?_ (hx1.same fun k => g4 _ _ (by omega) (by omega)) (hk1.fr.trans fun b hb k => ⟨g4 _ _ (by omega) (by omega), g2 b k, g3 b k⟩)
        refine MAt.re h1 (H := H1) ?_ (fun b k => g3 b k) (fun k => g4 _ _ (by omega) (by omega)) (g4 _ _ (by omega) (by omega)) (g4 _ _ (by omega) (by omega)) (g4 _ _ (by omega) (by omega)) (g4 _ _ (by omega) (by omega)) (c3.same fun k => g4 _ _ (by omega) (by omega)) ?_ (fun i hi => ?_) ((g4 _ _ (by omega) (by omega)).trans c6) (fun i hi => (c7 i hi).same (hv.2.2.2.2.2.1 _ (rg_mem hi)).1.2.2 fun k hk => g4 _ _ (by omega) (by omega)) (fun b hb k => g4 _ _ (by omega) (by omega))
        · intro q hq
          obtain ⟨a1, a2, a3⟩ := hH1 q hq
          exact ⟨(g4 _ _ (by omega) (by omega)).trans a1, a2, fun i hi => rowE.lot ⟨fun b b1 b2 => g4 _ _ (by omega) (by omega), g2 _ _⟩ (a3 i hi)⟩
        · simp only [gI_uI, gL_uL, gR_uR, gI_uL, gI_uR, gL_uI, gL_uR, gR_uI, gR_uL, true_and, and_true, Nat.add_right_cancel_iff, Nat.add_left_cancel_iff, Nat.reduceEqDiff, Nat.left_eq_add, Nat.right_eq_add, Nat.add_eq_left, Nat.add_eq_right, Nat.reduceAdd, Nat.succ_ne_self, reduceCtorEq, false_and, and_false, if_false, if_true, ite_true, ite_false, ite_self, Nat.succ_ne_zero, Nat.add_one_ne_zero, not_false_eq_true, not_true_eq_false, Nat.one_ne_zero, Nat.zero_ne_one, List.length_drop, y1]
        · rw [List.length_drop] at hi
          rw [rg_drop]
          have hl24 := (hv.2.2.2.1 _ (rg_mem (show i + 1 < (vPast V).length by omega))).1.2.2
          refine (c5 (i + 1) (by omega)).same hl24 fun k hk => ?_
          rw [gI_uI, if_neg (by omega), g1, if_pos ⟨rfl, by omega⟩]
          congr 1
          omega
      | succ n ih =>
        intro k Sj hn g1 g2 g3
        refine sX11_takes_34 hJ ?_
        have q1 : ((2175 : Int32) ≤ nI k) = False := by rw [show (2175 : Int32) = nI 2175 from rfl, nIle (by omega) (by omega)]; simp; omega
        have r17' : gR Sj m 17 = some (m + 4) := (g3 m 17).trans r17
        have e145 : nI k + 145 = nI (k + 145) := nI_add k 145
        simp only [q1, k0, k4, r17', e145, cl_n (show k + 145 ≤ 100000 by omega), vp_n (show k + 145 < 2320 by omega) (show 2320 ≤ 100000 by omega), cl_n (show k ≤ 100000 by omega), vp_n (show k < 2320 by omega) (show 2320 ≤ 100000 by omega), nI_1, not_false_eq_true, false_imp_iff, true_imp_iff, true_and, Option.some.injEq, Prod.mk.injEq, exists_eq_left', exists_eq_left, true_and, and_true, and_self, true_or, or_true, forall_const, exists_const, exists_and_left, wcat, Nat.zero_le, Nat.reduceLeDiff, Int32.lt_irrefl, not_false_eq_true, Nat.zero_add, forall_eq]
        refine ih (k + 1) _ (by omega) (fun b j => ?_) (fun b j => g2 b j) (fun b j => g3 b j)
        have ev : gI Sj (m + 4) (k + 145) = gI S1 (m + 4) (k + 145) := by rw [g1, if_neg (by omega)]
        rw [gI_uI, ev]
        by_cases z : b = m + 4 ∧ j = k
        · rw [if_pos z, if_pos ⟨z.1, by omega⟩, z.2]
        · rw [if_neg z, g1]
          by_cases z2 : b = m + 4 ∧ j < k
          · rw [if_pos z2, if_pos ⟨z2.1, by omega⟩]
          · rw [if_neg z2, if_neg (fun w => by rcases Nat.lt_or_ge j k with qq | qq; exact z2 ⟨w.1, qq⟩; exact z ⟨w.1, by have := w.2; omega⟩)]
    exact loop 2175 0 _ (by omega) (fun b j => by rw [if_neg (by omega)]) (fun _ _ => rfl) (fun _ _ => rfl)
end
