/-! the reference: sells -/
theorem sellGo_c {rule : Int32} {n x : Nat} {L : List Lot} (hx : x ≤ 1000000000) (h1 : 1 ≤ x) (h2 : 0 < L.length) : sellGo rule (n + 1) (nI x) L = (lt (partIf L (pick L rule) (nI x)) (pick L rule) :: (sellGo rule n (nI x - (lt (partIf L (pick L rule) (nI x)) (pick L rule)).1) ((partIf L (pick L rule) (nI x)).eraseIdx (pick L rule))).1, (sellGo rule n (nI x - (lt (partIf L (pick L rule) (nI x)) (pick L rule)).1) ((partIf L (pick L rule) (nI x)).eraseIdx (pick L rule))).2) := by
  rw [sellGo, if_neg (by rw [not_le_0 hx]; omega), if_neg (by omega)]
/-- the trade's own entries in the rows of first pieces and of how many -/
def fpE (S S' : qS) (m t : Nat) : Prop := ∀ t', ¬ t' = t → gI S' (m + 15) t' = gI S (m + 15) t' ∧ gI S' (m + 16) t' = gI S (m + 16) t'
section
variable {d : Nat} {A : qA} {S : qS} {m : Nat} {H : Nat → List Lot}
set_option maxRecDepth 20000 in
set_option maxHeartbeats 4000000 in
theorem cm_sells {p t base b c : Nat} {P : List Pie} {T : List Row} {w : Int32} {x : Nat} {f : qS → Prop} (h : mI A S m) (hx : RwAt S (m + 3) T) (hT : T.length ≤ 36) (ht : t < T.length) (hw : gI S m 44 = w) (hH : MH S m H) (hp : p < 3) (hP : MPie S m base P) (hb : b ≤ mxN) (hc : c ≤ mxN) (hsh : (tr T t).2.2.2.1 = nI x) (hx9 : x ≤ 999) (hokL : ∀ l, l ∈ H p → okL b c l) (hroom : (H p).length + 1 ≤ 40) (hroom2 : base + P.length + (H p).length ≤ 640)
    (hf0 : ¬ (tr T t).2.2.2.1 ≤ shSum (H p) (H p).length → f (uI S m 43 1))
    (hf : (tr T t).2.2.2.1 ≤ shSum (H p) (H p).length → ∀ S', MH S' m (upH H p (repAll w (tr T t).2.2.1 (soldL (tr T t).2.2.1 (tr T t).2.2.2.2.1 (tr T t).2.2.2.2.2 (tr T t).2.2.2.1 (H p)) (sellGo (tr T t).2.2.2.2.2 40 (tr T t).2.2.2.1 (H p)).2).2) → MPie S' m base (P ++ (repAll w (tr T t).2.2.1 (soldL (tr T t).2.2.1 (tr T t).2.2.2.2.1 (tr T t).2.2.2.2.2 (tr T t).2.2.2.1 (H p)) (sellGo (tr T t).2.2.2.2.2 40 (tr T t).2.2.2.1 (H p)).2).1) → gI S' (m + 15) t = nI (base + P.length) → gI S' (m + 16) t = nI (sellGo (tr T t).2.2.2.2.2 40 (tr T t).2.2.2.1 (H p)).1.length → fpE S S' m t → Fm S S' m 8 26 41 42 → f S') : Run (d + 5) 195 [.ref m, .int (nI p), .int (nI t)] A S (kV A f) := by
  refine Run.i (C := mX11_sells) rfl rfl rfl fun J hJ => ?_
  have hb2 := hb
  unfold mxN at hb2
  have lens := sellGo_len (tr T t).2.2.2.2.2 40 (tr T t).2.2.2.1 (H p)
  have soldd : ∀ q, q ∈ soldL (tr T t).2.2.1 (tr T t).2.2.2.2.1 (tr T t).2.2.2.2.2 (tr T t).2.2.2.1 (H p) → q.1 = (tr T t).2.2.1 := by
    intro q hq
    unfold soldL at hq
    obtain ⟨l, -, e⟩ := List.mem_map.mp hq
    rw [← e]
    rfl
  have solde : soldL (tr T t).2.2.1 (tr T t).2.2.2.2.1 (tr T t).2.2.2.2.2 (tr T t).2.2.2.1 (H p) = (sellGo (tr T t).2.2.2.2.2 40 (tr T t).2.2.2.1 (H p)).1.map (fun l => newPie (tr T t).2.2.1 l (tr T t).2.2.2.2.1) := rfl
  have sok : (tr T t).2.2.2.1 ≤ shSum (H p) (H p).length → (∀ l, l ∈ (sellGo (tr T t).2.2.2.2.2 40 (tr T t).2.2.2.1 (H p)).1 → okL b c l) ∧ (∀ l, l ∈ (sellGo (tr T t).2.2.2.2.2 40 (tr T t).2.2.2.1 (H p)).2 → okL b c l) := by
    intro z
    have hs := shN_le hb (H p) hokL
    unfold mxN at hs
    rw [hsh, shSum_all hb hokL, nIleB (by omega) (by omega)] at z
    rw [hsh]
    exact sellGo_ok hb 40 x (H p) hokL (by omega) z (by omega)
  generalize hX : sellGo (tr T t).2.2.2.2.2 40 (tr T t).2.2.2.1 (H p) = X at hf lens solde sok
  generalize hQ0 : soldL (tr T t).2.2.1 (tr T t).2.2.2.2.1 (tr T t).2.2.2.2.2 (tr T t).2.2.2.1 (H p) = Q0 at hf soldd solde
  generalize hR : repAll w (tr T t).2.2.1 Q0 X.2 = R at hf
  -- the pieces of the sell are replaced, one behind the other
  have loop2 : (tr T t).2.2.2.1 ≤ shSum (H p) (H p).length → ∀ (Q Pd : List Pie) (L : List Lot) (Sj : qS) (w2 w3 : Option Value), L.length + Q.length ≤ 40 → (∀ q, q ∈ Q → okP b c q ∧ q.1 = (tr T t).2.2.1) → (∀ l, l ∈ L → okL b (c + 1) l) → MH Sj m (upH H p L) → MPie Sj m base (Pd ++ Q) → gI Sj (m + 15) t = nI (base + P.length) → gI Sj (m + 16) t = nI X.1.length → fpE S Sj m t → Fm S Sj m 8 26 41 42 → (Pd ++ (repAll w (tr T t).2.2.1 Q L).1, (repAll w (tr T t).2.2.1 Q L).2) = (P ++ R.1, R.2) → J 144 [some (.ref m), some (.int (nI p)), w2, w3, some (.int (nI (base + Pd.length)))] [] A Sj := by
    intro hsl Q
    induction Q with
    | nil =>
      intro Pd L Sj w2 w3 hn hQ hLo hHj hPj f1 f2 f3 hr he
      refine sX11_sells_144 hJ ?_
      have hI := h.fm hr
      have hPj0 := hPj
      obtain ⟨t1, t2, t3⟩ := hPj
      rw [List.append_nil] at t1 t2
      simp only [hI.1.1, t1, nIle (show base + Pd.length ≤ 100000 by omega) (show base + Pd.length ≤ 100000 by omega), Nat.le_refl, not_true_eq_false, false_imp_iff, true_imp_iff, Option.some.injEq, Prod.mk.injEq, exists_eq_left', exists_eq_left, true_and, and_true, and_self, true_or, or_true, forall_const, exists_const, exists_and_left, wcat, Nat.zero_le, Nat.reduceLeDiff, Int32.lt_irrefl, not_false_eq_true, Nat.zero_add, forall_eq]
      have e1 := congrArg Prod.fst he
      have e2 := congrArg Prod.snd he
      rw [repAll] at e1 e2
      dsimp only at e1 e2
      refine kV_i (hf hsl _ ?_ ?_ f1 f2 f3 hr)
      · rw [← e2]; exact hHj
      · rw [← e1]; exact hPj0
    | cons q Q ih =>
      intro Pd L Sj w2 w3 hn hQ hLo hHj hPj f1 f2 f3 hr he
      refine sX11_sells_144 hJ ?_
      have hI := h.fm hr
      have hPj0 := hPj
      obtain ⟨t1, t2, t3⟩ := hPj
      have hlen : (Pd ++ q :: Q).length = Pd.length + 1 + Q.length := by rw [List.length_append, List.length_cons]; omega
      rw [hlen] at t1 t2
      rw [List.length_cons] at hn
      simp only [hI.1.1, t1, nIle (show base + (Pd.length + 1 + Q.length) ≤ 100000 by omega) (show base + Pd.length ≤ 100000 by omega), nI_1, Option.some.injEq, Prod.mk.injEq, exists_eq_left', exists_eq_left, true_and, and_true, and_self, true_or, or_true, forall_const, exists_const, exists_and_left, wcat, Nat.zero_le, Nat.reduceLeDiff, Int32.lt_irrefl, not_false_eq_true, Nat.zero_add, forall_eq]
      have hwj : gI Sj m 44 = w := (hr.w (by omega) (by omega)).trans hw
      obtain ⟨hqo, hqd⟩ := hQ q (List.mem_cons_self ..)
      refine ⟨fun z => absurd z (by omega), fun _ => cm_elder (k := Pd.length) (b := b) (c := c) (w := w) (day := (tr T t).2.2.1) hI hwj hHj hp (by rw [upH_at]; omega) hPj0 (by omega) hb hc (by rw [upH_at]; exact hLo) (by rw [pp_mid]; exact hqo) (by rw [pp_mid]; exact hqd) fun S' hH' hP' hr' => ?_⟩
      rw [pp_mid, upH_at, upH_up] at hH'
      rw [pp_mid, upH_at] at hP'
      have es : (Pd ++ q :: Q).set Pd.length (rbl w (tr T t).2.2.1 40 0 q L).1 = Pd ++ [(rbl w (tr T t).2.2.1 40 0 q L).1] ++ Q := by simp
      rw [es] at hP'
      have hro := rbl_ok (w := w) (day := (tr T t).2.2.1) hb hc 40 0 q L hqo hLo
      have hop := rbl_opn (w := w) (day := (tr T t).2.2.1) (n := 40) (i := 0) (p := q) (L := L)
      rw [repAll] at he
      have e15 := hr'.2
      have := ih (Pd ++ [(rbl w (tr T t).2.2.1 40 0 q L).1]) (rbl w (tr T t).2.2.1 40 0 q L).2 S' w2 (unl w3) (by omega) (fun y hy => hQ y (List.mem_cons_of_mem _ hy)) hro.2 hH' hP' ((e15 t).1.trans f1) ((e15 t).2.trans f2) (fun t' ht' => ⟨(e15 t').1.trans (f3 t' ht').1, (e15 t').2.trans (f3 t' ht').2⟩) (hr.trans (hr'.1.wide (by omega))) (by rw [List.append_assoc]; exact he)
      rw [List.length_append, List.length_singleton, ← Nat.add_assoc] at this
      exact this
  -- the lots are sold, one behind the other
  have loop1 : (tr T t).2.2.2.1 ≤ shSum (H p) (H p).length → ∀ n y (P' : List Pie) (L : List Lot) (Sj : qS) (w4 : Option Value), L.length ≤ n → L.length < 40 → y ≤ shN L → y ≤ 999 → (∀ l, l ∈ L → okL b c l) → base + P'.length + L.length ≤ 640 → MH Sj m (upH H p L) → MPie Sj m base P' → RwAt Sj (m + 3) T → gI Sj (m + 15) t = nI (base + P.length) → fpE S Sj m t → Fm S Sj m 8 26 41 42 → P' ++ (sellGo (tr T t).2.2.2.2.2 n (nI y) L).1.map (fun l => newPie (tr T t).2.2.1 l (tr T t).2.2.2.2.1) = P ++ Q0 → (sellGo (tr T t).2.2.2.2.2 n (nI y) L).2 = X.2 → J 35 [some (.ref m), some (.int (nI p)), some (.int (nI t)), some (.int (nI y)), w4] [] A Sj := by
    intro hsl n
    have fin : ∀ (L : List Lot) (Sj : qS) (w3 : Option Value), L = X.2 → MH Sj m (upH H p L) → MPie Sj m base (P ++ Q0) → gI Sj (m + 15) t = nI (base + P.length) → fpE S Sj m t → Fm S Sj m 8 26 41 42 → J 144 [some (.ref m), some (.int (nI p)), some (.int (nI t)), w3, some (.int (nI (base + P.length)))] [] A (uI Sj (m + 16) t (nI X.1.length)) := by
      intro L Sj w3 eL hHj hPj f1 f3 hr
      have e0 : Q0.length = X.1.length := by rw [solde, List.length_map]
      have hu : Fm Sj (uI Sj (m + 16) t (nI X.1.length)) m 16 17 41 41 := Fm.rf.uI (by omega)
      refine loop2 hsl Q0 P L _ _ _ (by rw [eL, e0]; omega) (fun q hq => ⟨?_, soldd q hq⟩) (fun l hl => ?_) (hHj.fm hu (by omega)) (hPj.fm hu (by omega)) ?_ ?_ (fun t' ht' => ?_) (hr.uI (by omega)) ?_
      · rw [solde] at hq
        obtain ⟨l, hl, e⟩ := List.mem_map.mp hq
        rw [← e]
        exact newPie_ok ((sok hsl).1 l hl)
      · rw [eL] at hl
        exact ((sok hsl).2 l hl).up (Nat.le_refl _) (by omega)
      · simp only [gI_uI, gL_uL, gR_uR, gI_uL, gI_uR, gL_uI, gL_uR, gR_uI, gR_uL, true_and, and_true, Nat.add_right_cancel_iff, Nat.add_left_cancel_iff, Nat.reduceEqDiff, Nat.left_eq_add, Nat.right_eq_add, Nat.add_eq_left, Nat.add_eq_right, Nat.reduceAdd, Nat.succ_ne_self, reduceCtorEq, false_and, and_false, if_false, if_true, ite_true, ite_false, ite_self, Nat.succ_ne_zero, Nat.add_one_ne_zero, not_false_eq_true, not_true_eq_false, Nat.one_ne_zero, Nat.zero_ne_one]; exact f1
      · simp only [gI_uI, gL_uL, gR_uR, gI_uL, gI_uR, gL_uI, gL_uR, gR_uI, gR_uL, true_and, and_true, Nat.add_right_cancel_iff, Nat.add_left_cancel_iff, Nat.reduceEqDiff, Nat.left_eq_add, Nat.right_eq_add, Nat.add_eq_left, Nat.add_eq_right, Nat.reduceAdd, Nat.succ_ne_self, reduceCtorEq, false_and, and_false, if_false, if_true, ite_true, ite_false, ite_self, Nat.succ_ne_zero, Nat.add_one_ne_zero, not_false_eq_true, not_true_eq_false, Nat.one_ne_zero, Nat.zero_ne_one]
      · simp only [gI_uI, gL_uL, gR_uR, gI_uL, gI_uR, gL_uI, gL_uR, gR_uI, gR_uL, true_and, and_true, Nat.add_right_cancel_iff, Nat.add_left_cancel_iff, Nat.reduceEqDiff, Nat.left_eq_add, Nat.right_eq_add, Nat.add_eq_left, Nat.add_eq_right, Nat.reduceAdd, Nat.succ_ne_self, reduceCtorEq, false_and, and_false, if_false, if_true, ite_true, ite_false, ite_self, Nat.succ_ne_zero, Nat.add_one_ne_zero, not_false_eq_true, not_true_eq_false, Nat.one_ne_zero, Nat.zero_ne_one, ht']; exact f3 t' ht'
      · rw [eL, hR]
    have stop : ∀ (y : Nat) (P' : List Pie) (L : List Lot) (Sj : qS) (w4 : Option Value), y = 0 → P' = P ++ Q0 → L = X.2 → MH Sj m (upH H p L) → MPie Sj m base P' → gI Sj (m + 15) t = nI (base + P.length) → fpE S Sj m t → Fm S Sj m 8 26 41 42 → J 35 [some (.ref m), some (.int (nI p)), some (.int (nI t)), some (.int (nI y)), w4] [] A Sj := by
      intro y P' L Sj w4 hy eP eL hHj hPj f1 f3 hr
      refine sX11_sells_35 hJ ?_
      subst hy
      have n0 : (nI 0 ≤ 0) = True := by decide
      rw [eP] at hPj
      have hI := h.fm hr
      obtain ⟨⟨k0, k1, k2, k3, k4, k5, k6, k7, k8, k9, k10, k11, k12, k13, k14, k15, k16, k17, k18, k19, k20, k21, k22, k23, k24, k25, k26⟩, ⟨r5, r15, r16, r17, r18, r21, r22, r23, r24, r25, r26, r27, r28, r29, r30, r31, r32, r33, r34, r35, r36, r37, r38, r39, r40, r48⟩⟩ := hI
      have e0 : Q0.length = X.1.length := by rw [solde, List.length_map]
      have hcnt : gI Sj m 41 = nI (base + P.length + X.1.length) := by rw [hPj.1, List.length_append, e0, Nat.add_assoc]
      simp only [n0, k0, k15, k16, r30, r31, hcnt, f1, nI_subl, cl_n (show t ≤ 100000 by omega), vp_n (show t < 36 by omega) (show 36 ≤ 100000 by omega), not_true_eq_false, false_imp_iff, true_imp_iff, Option.some.injEq, Prod.mk.injEq, exists_eq_left', exists_eq_left, true_and, and_true, and_self, true_or, or_true, forall_const, exists_const, exists_and_left, wcat, Nat.zero_le, Nat.reduceLeDiff, Int32.lt_irrefl, not_false_eq_true, Nat.zero_add, forall_eq, gI_uI, gL_uL, gR_uR, gI_uL, gI_uR, gL_uI, gL_uR, gR_uI, gR_uL, true_and, and_true, Nat.add_right_cancel_iff, Nat.add_left_cancel_iff, Nat.reduceEqDiff, Nat.left_eq_add, Nat.right_eq_add, Nat.add_eq_left, Nat.add_eq_right, Nat.reduceAdd, Nat.succ_ne_self, reduceCtorEq, false_and, and_false, if_false, if_true, ite_true, ite_false, ite_self, Nat.succ_ne_zero, Nat.add_one_ne_zero, not_false_eq_true, not_true_eq_false, Nat.one_ne_zero, Nat.zero_ne_one]
      exact fin L Sj _ eL hHj hPj f1 f3 hr
    induction n with
    | zero =>
      intro y P' L Sj w4 hLn hL40 hy hy9 hLo hrm hHj hPj hxj f1 f3 hr e1 e2
      have hL0 : L = [] := List.length_eq_zero_iff.mp (by omega)
      rw [hL0] at hy
      have hy0 : y = 0 := by simpa [shN] using hy
      rw [sellGo_0] at e1 e2
      rw [List.map_nil, List.append_nil] at e1
      exact stop y P' L Sj w4 hy0 e1 e2 hHj hPj f1 f3 hr
    | succ n ih =>
      intro y P' L Sj w4 hLn hL40 hy hy9 hLo hrm hHj hPj hxj f1 f3 hr e1 e2
      by_cases hy0 : y = 0
      · rw [hy0, sellGo_stop (by decide)] at e1 e2
        rw [List.map_nil, List.append_nil] at e1
        exact stop y P' L Sj w4 hy0 e1 e2 hHj hPj f1 f3 hr
      · have hL0 : 0 < L.length := by
          rcases Nat.eq_zero_or_pos L.length with z | z
          · have : L = [] := List.length_eq_zero_iff.mp z
            rw [this] at hy
            simp [shN] at hy
            omega
          · exact z
        rw [sellGo_c (by omega) (by omega) hL0] at e1 e2
        refine sX11_sells_35 hJ ?_
        have n0 : (nI y ≤ 0) = False := by simp only [eq_iff_iff, iff_false]; rw [not_le_0 (by omega)]; exact hy0
        have hI := h.fm hr
        have hI0 := hI
        obtain ⟨⟨k0, k1, k2, k3, k4, k5, k6, k7, k8, k9, k10, k11, k12, k13, k14, k15, k16, k17, k18, k19, k20, k21, k22, k23, k24, k25, k26⟩, ⟨r5, r15, r16, r17, r18, r21, r22, r23, r24, r25, r26, r27, r28, r29, r30, r31, r32, r33, r34, r35, r36, r37, r38, r39, r40, r48⟩⟩ := hI
        have hpk := pick_lt (L := L) (rule := (tr T t).2.2.2.2.2) hL0
        obtain ⟨m1, m2, m3⟩ := hHj p hp
        rw [upH_at] at m1 m2 m3
        have hcl := (hLo _ (lt_mem hpk)).cl hb
        have hm := partIf_sh hb hpk hLo hcl.1 hcl.2.2 (show 1 ≤ y by omega) (show y ≤ 1000000000 by omega)
        have hq := partIf_ok (sh := nI y) hb hpk hLo
        have pl := partIf_len (sh := nI y) hpk
        have hs := shN_part (sh := nI y) hb hpk hLo
        have he := shN_erase _ _ pl.1
        have hmin : min y (lt L (pick L (tr T t).2.2.2.2.2)).1.toNatClampNeg ≤ 1000000000 := by omega
        rw [hs, hm, clB hmin] at he
        obtain ⟨x0, xr⟩ := hxj
        obtain ⟨c1, c2, c3, c4, c5, c6⟩ := xr t ht
        generalize hs0 : (lt L (pick L (tr T t).2.2.2.2.2)).1.toNatClampNeg = s at hcl hm he
        have vi := vp_n (show p * 40 + pick L (tr T t).2.2.2.2.2 < 120 by omega) (show 120 ≤ 100000 by omega)
        have ei := cl_n (show p * 40 + pick L (tr T t).2.2.2.2.2 ≤ 100000 by omega)
        have hshi : gI Sj (m + 9) (p * 40 + pick L (tr T t).2.2.2.2.2) = nI s := (m3 _ hpk).1.trans hcl.1
        simp only [n0, k0, r16, false_imp_iff, true_imp_iff, not_false_eq_true, Option.some.injEq, Prod.mk.injEq, exists_eq_left', exists_eq_left, true_and, and_true, and_self, true_or, or_true, forall_const, exists_const, exists_and_left, wcat, Nat.zero_le, Nat.reduceLeDiff, Int32.lt_irrefl, not_false_eq_true, Nat.zero_add, forall_eq]
        refine cm_of (c := 6) rfl k3 (by omega) (by omega) ?_
        rw [c6]
        refine cm_nextLot hI0 hHj hp (by rw [upH_at]; exact hL0) ?_
        rw [upH_at]
        -- behind the parting: sold, dropped, on
        have go : ∀ (S1 : qS) (w4 : Option Value), MH S1 m (upH H p (partIf L (pick L (tr T t).2.2.2.2.2) (nI y))) → MPie S1 m base P' → RwAt S1 (m + 3) T → gI S1 (m + 15) t = nI (base + P.length) → fpE S S1 m t → Fm S S1 m 8 26 41 42 → Run (d + 4) 189 [.ref m, .int (nI (p * 40 + pick L (tr T t).2.2.2.2.2)), .int (tr T t).2.2.1, .int (tr T t).2.2.2.2.1] A S1 (kV A fun S2 => Run (d + 4) 184 [.ref m, .int (nI p), .int (nI (p * 40 + pick L (tr T t).2.2.2.2.2))] A S2 (kV A fun S3 => J 35 [some (.ref m), some (.int (nI p)), some (.int (nI t)), some (.int (nI y - nI (min y s))), w4] [] A S3)) := by
          intro S1 w4 hH1 hP1 hx1 g1 g3 hr1
          have hI1 := h.fm hr1
          obtain ⟨b1, b2, b3⟩ := hH1 p hp
          rw [upH_at] at b1 b2 b3
          have hml := b3 _ pl.1
          refine cm_sold hI1 hml (by omega) hP1 (by omega) fun S2 hP2 hr2 => ?_
          have hH2 := hH1.fm hr2 (by omega)
          refine cm_drops (hI1.fm hr2) hH2 hp (by rw [upH_at]; exact pl.1) fun S3 hH3 hr3 => ?_
          rw [upH_at, upH_up] at hH3
          rw [hm] at e1 e2
          rw [nI_sub (show min y s ≤ y by omega)] at e1 e2 ⊢
          have g15 : ∀ j, gI S3 (m + 15) j = gI S1 (m + 15) j ∧ gI S3 (m + 16) j = gI S1 (m + 16) j := fun j => ⟨((hr3.1 (m + 15) (by omega) j (by omega)).1).trans ((hr2.1 (m + 15) (by omega) j (by omega)).1), ((hr3.1 (m + 16) (by omega) j (by omega)).1).trans ((hr2.1 (m + 16) (by omega) j (by omega)).1)⟩
          have el : ((partIf L (pick L (tr T t).2.2.2.2.2) (nI y)).eraseIdx (pick L (tr T t).2.2.2.2.2)).length = (partIf L (pick L (tr T t).2.2.2.2.2) (nI y)).length - 1 := List.length_eraseIdx_of_lt pl.1
          have el2 : y ≤ s ∨ (partIf L (pick L (tr T t).2.2.2.2.2) (nI y)).length = L.length := by
            by_cases z : y < s
            · exact Or.inl (by omega)
            · right
              unfold partIf
              rw [if_neg (fun k => z (by have := k.2; rw [hcl.1, nIltB (by omega) (by omega)] at this; exact this))]
          rcases el2 with z | z
          · -- all is sold: what is left is 0
            have hz : y - min y s = 0 := by omega
            rw [hz, sellGo_stop (by decide)] at e1 e2
            rw [hz]
            rw [List.map_cons, List.map_nil] at e1
            exact stop 0 _ _ S3 _ rfl e1 e2 hH3 (hP2.fm hr3 (by omega)) ((g15 t).1.trans g1) (fun t' ht' => ⟨(g15 t').1.trans (g3 t' ht').1, (g15 t').2.trans (g3 t' ht').2⟩) ((hr1.trans (hr2.wide (by omega))).trans (hr3.wide (by omega)))
          · refine ih (y - min y s) _ _ S3 _ (by omega) (by omega) (by omega) (by omega) (fun l hl => hq l (List.mem_of_mem_eraseIdx hl)) (by rw [List.length_append, List.length_singleton]; omega) hH3 (hP2.fm hr3 (by omega)) (hx1.same fun k => ((hr3.1 (m + 3) (by omega) k (by omega)).1).trans ((hr2.1 (m + 3) (by omega) k (by omega)).1)) ((g15 t).1.trans g1) (fun t' ht' => ⟨(g15 t').1.trans (g3 t' ht').1, (g15 t').2.trans (g3 t' ht').2⟩) ((hr1.trans (hr2.wide (by omega))).trans (hr3.wide (by omega))) ?_ e2
            rw [← e1, List.append_assoc]
            rfl
        simp only [k9, r24, vi, ei, hshi, nIleB (show s ≤ 1000000000 by omega) (show y ≤ 1000000000 by omega), r16, Option.some.injEq, Prod.mk.injEq, exists_eq_left', exists_eq_left, true_and, and_true, and_self, true_or, or_true, forall_const, exists_const, exists_and_left, wcat, Nat.zero_le, Nat.reduceLeDiff, Int32.lt_irrefl, not_false_eq_true, Nat.zero_add, forall_eq]
        refine ⟨fun z => cm_of (c := 3) rfl k3 (by omega) (by omega) ?_, fun z => cm_parts hI0 hHj hp (by rw [upH_at]; exact hpk) (by rw [upH_at]; exact hL40) (by rw [upH_at]; exact hcl.1) (by omega) (by omega) (by unfold mxN; omega) fun S1 hH1 hr1 => ?_⟩
        · simp only [r16, Option.some.injEq, Prod.mk.injEq, exists_eq_left', exists_eq_left, true_and, and_true, and_self, true_or, or_true, forall_const, exists_const, exists_and_left, wcat, Nat.zero_le, Nat.reduceLeDiff, Int32.lt_irrefl, not_false_eq_true, Nat.zero_add, forall_eq]
          refine cm_of (c := 5) rfl k3 (by omega) (by omega) ?_
          rw [c3, c5]
          have := go Sj (some (.int (nI (p * 40 + pick L (tr T t).2.2.2.2.2)))) ?_ hPj ⟨x0, xr⟩ f1 f3 hr
          · rw [Nat.min_eq_right z] at this
            exact this
          · have ep : partIf L (pick L (tr T t).2.2.2.2.2) (nI y) = L := by
              unfold partIf
              rw [if_neg (fun k => by have := k.2; rw [hcl.1, nIltB (by omega) (by omega)] at this; omega)]
            rw [ep]
            exact hHj
        · rw [upH_at, upH_up] at hH1
          obtain ⟨-, ⟨r5, r15, r16, r17, r18, r21, r22, r23, r24, r25, r26, r27, r28, r29, r30, r31, r32, r33, r34, r35, r36, r37, r38, r39, r40, r48⟩⟩ := hI0.fm hr1
          obtain ⟨b1, b2, b3⟩ := hH1 p hp
          rw [upH_at] at b1 b2 b3
          have hsh1 : gI S1 (m + 9) (p * 40 + pick L (tr T t).2.2.2.2.2) = nI (min y s) := (b3 _ pl.1).1.trans hm
          have hx1 : ∀ k, gI S1 (m + 3) k = gI Sj (m + 3) k := fun k => (hr1.1 (m + 3) (by omega) k (by omega)).1
          simp only [r24, k9, vi, ei, hsh1, r16, Option.some.injEq, Prod.mk.injEq, exists_eq_left', exists_eq_left, true_and, and_true, and_self, true_or, or_true, forall_const, exists_const, exists_and_left, wcat, Nat.zero_le, Nat.reduceLeDiff, Int32.lt_irrefl, not_false_eq_true, Nat.zero_add, forall_eq]
          refine cm_of (c := 3) rfl k3 (by omega) (by omega) ?_
          simp only [r16, Option.some.injEq, Prod.mk.injEq, exists_eq_left', exists_eq_left, true_and, and_true, and_self, true_or, or_true, forall_const, exists_const, exists_and_left, wcat, Nat.zero_le, Nat.reduceLeDiff, Int32.lt_irrefl, not_false_eq_true, Nat.zero_add, forall_eq]
          refine cm_of (c := 5) rfl k3 (by omega) (by omega) ?_
          rw [hx1, hx1, c3, c5]
          have q15 := hr1.q.2
          exact go S1 _ hH1 (hPj.fm hr1 (by omega)) (RwAt.same ⟨x0, xr⟩ hx1) ((q15 t).1.trans f1) (fun t' ht' => ⟨(q15 t').1.trans (f3 t' ht').1, (q15 t').2.trans (f3 t' ht').2⟩) (hr.trans (hr1.wide (by omega)))
  refine sX11_sells_0 hJ ?_
  have hI0 := h
  obtain ⟨⟨k0, k1, k2, k3, k4, k5, k6, k7, k8, k9, k10, k11, k12, k13, k14, k15, k16, k17, k18, k19, k20, k21, k22, k23, k24, k25, k26⟩, ⟨r5, r15, r16, r17, r18, r21, r22, r23, r24, r25, r26, r27, r28, r29, r30, r31, r32, r33, r34, r35, r36, r37, r38, r39, r40, r48⟩⟩ := h
  have hx0 := hx
  obtain ⟨x0, xr⟩ := hx
  obtain ⟨c1, c2, c3, c4, c5, c6⟩ := xr t ht
  simp only [k0, r16, Option.some.injEq, Prod.mk.injEq, exists_eq_left', exists_eq_left, true_and, and_true, and_self, true_or, or_true, forall_const, exists_const, exists_and_left, wcat, Nat.zero_le, Nat.reduceLeDiff, Int32.lt_irrefl, not_false_eq_true, Nat.zero_add, forall_eq]
  refine cm_of (c := 4) rfl k3 (by omega) (by omega) ?_
  refine cm_sharesOf hI0 hH hp ?_
  rw [c4]
  simp only [k15, r30, hP.1, cl_n (show t ≤ 100000 by omega), vp_n (show t < 36 by omega) (show 36 ≤ 100000 by omega), Option.some.injEq, Prod.mk.injEq, exists_eq_left', exists_eq_left, true_and, and_true, and_self, true_or, or_true, forall_const, exists_const, exists_and_left, wcat, Nat.zero_le, Nat.reduceLeDiff, Int32.lt_irrefl, not_false_eq_true, Nat.zero_add, forall_eq]
  refine ⟨fun z => ?_, fun z => kV_i (hf0 z)⟩
  have hu : Fm S (uI S (m + 15) t (nI (base + P.length))) m 15 16 41 41 := Fm.rf.uI (by omega)
  have z' := z
  have hs := shN_le hb (H p) hokL
  unfold mxN at hs
  rw [hsh, shSum_all hb hokL, nIleB (by omega) (by omega)] at z'
  have := loop1 z 40 x P (H p) (uI S (m + 15) t (nI (base + P.length))) none (by omega) (by omega) z' hx9 hokL (by omega) (by rw [upH_s]; exact hH.fm hu (by omega)) (hP.fm hu (by omega)) (hx0.same fun k => (hu.1 (m + 3) (by omega) k (by omega)).1) (by simp only [gI_uI, gL_uL, gR_uR, gI_uL, gI_uR, gL_uI, gL_uR, gR_uI, gR_uL, true_and, and_true, Nat.add_right_cancel_iff, Nat.add_left_cancel_iff, Nat.reduceEqDiff, Nat.left_eq_add, Nat.right_eq_add, Nat.add_eq_left, Nat.add_eq_right, Nat.reduceAdd, Nat.succ_ne_self, reduceCtorEq, false_and, and_false, if_false, if_true, ite_true, ite_false, ite_self, Nat.succ_ne_zero, Nat.add_one_ne_zero, not_false_eq_true, not_true_eq_false, Nat.one_ne_zero, Nat.zero_ne_one]) (fun t' ht' => by simp only [gI_uI, gL_uL, gR_uR, gI_uL, gI_uR, gL_uI, gL_uR, gR_uI, gR_uL, true_and, and_true, Nat.add_right_cancel_iff, Nat.add_left_cancel_iff, Nat.reduceEqDiff, Nat.left_eq_add, Nat.right_eq_add, Nat.add_eq_left, Nat.add_eq_right, Nat.reduceAdd, Nat.succ_ne_self, reduceCtorEq, false_and, and_false, if_false, if_true, ite_true, ite_false, ite_self, Nat.succ_ne_zero, Nat.add_one_ne_zero, not_false_eq_true, not_true_eq_false, Nat.one_ne_zero, Nat.zero_ne_one, ht', and_self]) (Fm.rf.uI (by omega)) (by rw [← hsh, hX, solde]) (by rw [← hsh, hX])
  rw [hsh]
  exact this
end
