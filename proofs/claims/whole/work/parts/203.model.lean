/-! the reference: replacedByElder, buys -/
theorem repL_day {p : Pie} {L : List Lot} {i : Nat} : (repL p L i).1.1 = p.1 := by
  unfold repL
  split <;> rfl
theorem pset_set {P : List Pie} {k : Nat} {x y : Pie} : (P.set k x).set k y = P.set k y := List.set_set x
theorem pp_at {P : List Pie} {k : Nat} {x : Pie} (h : k < P.length) : pp (P.set k x) k = x := by rw [pp_set h, if_pos rfl]
theorem pp_sets {P : List Pie} {k : Nat} (h : k < P.length) : P.set k (pp P k) = P := by
  refine List.ext_getElem? fun j => ?_
  rw [List.getElem?_set]
  split
  · rename_i e
    subst e
    simp [pp, h]
  · rfl
theorem Fm.w {S S' : qS} {m lo hi u v : Nat} (h : Fm S S' m lo hi u v) (h0 : 0 < lo) (h1 : 44 < u ∨ v ≤ 44 ∨ v ≤ u) : gI S' m 44 = gI S m 44 := (h.1 m (by omega) 44 (by omega)).1
/-- trades as rows of six numbers -/
def RwAt (S : qS) (a : Nat) (T : List Row) : Prop := gI S a 0 = nI T.length ∧ ∀ i, i < T.length → gI S a (6 * i + 1) = (tr T i).1 ∧ gI S a (6 * i + 2) = (tr T i).2.1 ∧ gI S a (6 * i + 3) = (tr T i).2.2.1 ∧ gI S a (6 * i + 4) = (tr T i).2.2.2.1 ∧ gI S a (6 * i + 5) = (tr T i).2.2.2.2.1 ∧ gI S a (6 * i + 6) = (tr T i).2.2.2.2.2
theorem RwAt.same {S S' : qS} {a : Nat} {T : List Row} (h : RwAt S a T) (e : ∀ k, gI S' a k = gI S a k) : RwAt S' a T := ⟨(e 0).trans h.1, fun i hi => by rw [e, e, e, e, e, e]; exact h.2 i hi⟩
section
variable {d : Nat} {A : qA} {S : qS} {m : Nat} {H : Nat → List Lot}
set_option maxRecDepth 20000 in
set_option maxHeartbeats 4000000 in
theorem cm_elder {p k base b c : Nat} {P : List Pie} {w day : Int32} {f : qS → Prop} (h : mI A S m) (hw : gI S m 44 = w) (hH : MH S m H) (hp : p < 3) (hn : (H p).length < 40) (hP : MPie S m base P) (hk : k < P.length) (hb : b ≤ mxN) (hc : c ≤ mxN) (hokL : ∀ l, l ∈ H p → okL b (c + 1) l) (hokP : okP b c (pp P k)) (hday : (pp P k).1 = day) (hf : ∀ S', MH S' m (upH H p (rbl w day 40 0 (pp P k) (H p)).2) → MPie S' m base (P.set k (rbl w day 40 0 (pp P k) (H p)).1) → Fq S S' m → f S') : Run (d + 4) 196 [.ref m, .int (nI p), .int (nI (base + k))] A S (kV A f) := by
  refine Run.i (C := mX11_replacedByElder) rfl rfl rfl fun J hJ => ?_
  generalize hR : rbl w day 40 0 (pp P k) (H p) = R at hf
  have loop : ∀ n i (q : Pie) (L : List Lot) (Sj : qS), i + n = 40 → L.length ≤ 40 → (L.length < 40 ∨ pLeft q ≤ 0) → q.1 = day → okP b c q → (∀ l, l ∈ L → okL b (c + 1) l) → MH Sj m (upH H p L) → MPie Sj m base (P.set k q) → Fq S Sj m → rbl w day n i q L = R → J 5 [some (.ref m), some (.int (nI p)), some (.int (nI (base + k))), some (.int (nI (p * 40 + i)))] [] A Sj := by
    intro n
    induction n with
    | zero =>
      intro i q L Sj hin hL hL2 hq hqo hLo hHj hPj hr he
      refine sX11_replacedByElder_5 hJ ?_
      have hI := h.fm hr.1
      obtain ⟨m1, m2, m3⟩ := hHj p hp
      rw [upH_at] at m1 m2 m3
      simp only [hI.1.1, Option.some.injEq, Prod.mk.injEq, exists_eq_left', exists_eq_left, true_and, and_true, and_self, true_or, or_true, forall_const, exists_const, exists_and_left, wcat, Nat.zero_le, Nat.reduceLeDiff, Int32.lt_irrefl, not_false_eq_true, Nat.zero_add, forall_eq]
      refine cm_lotEnd hI m1 hp ⟨fun _ => kV_i (hf _ ?_ ?_ hr), fun z => absurd ((nIle (by omega) (by omega)).mpr (by omega)) z⟩
      · rw [← he]; exact hHj
      · rw [← he]; exact hPj
    | succ n ih =>
      intro i q L Sj hin hL hL2 hq hqo hLo hHj hPj hr he
      refine sX11_replacedByElder_5 hJ ?_
      have hI := h.fm hr.1
      obtain ⟨m1, m2, m3⟩ := hHj p hp
      rw [upH_at] at m1 m2 m3
      have hk' : k < (P.set k q).length := by rw [List.length_set]; exact hk
      obtain ⟨t1, t2, t3⟩ := hPj
      have hpk := t3 k hk'
      rw [pp_at hk] at hpk
      rw [List.length_set] at t2
      obtain ⟨g0, g1, g2, g3, g4, g5, g6, g7, g8⟩ := hpk
      simp only [hI.1.1, Option.some.injEq, Prod.mk.injEq, exists_eq_left', exists_eq_left, true_and, and_true, and_self, true_or, or_true, forall_const, exists_const, exists_and_left, wcat, Nat.zero_le, Nat.reduceLeDiff, Int32.lt_irrefl, not_false_eq_true, Nat.zero_add, forall_eq]
      rw [rbl] at he
      refine cm_lotEnd hI m1 hp ⟨fun z => kV_i (hf _ ?_ ?_ hr), fun z => ?_⟩
      · rw [nIle (by omega) (by omega)] at z
        rw [if_pos (by omega)] at he
        rw [← he]; exact hHj
      · rw [nIle (by omega) (by omega)] at z
        rw [if_pos (by omega)] at he
        rw [← he]; exact ⟨t1, by rw [List.length_set]; exact t2, t3⟩
      · rw [nIle (by omega) (by omega)] at z
        rw [if_neg (by omega)] at he
        have hi : i < L.length := by omega
        obtain ⟨y0, y1, y2, y3, y4, y5⟩ := m3 i hi
        have hI0 := hI
        obtain ⟨⟨k0, k1, k2, k3, k4, k5, k6, k7, k8, k9, k10, k11, k12, k13, k14, k15, k16, k17, k18, k19, k20, k21, k22, k23, k24, k25, k26⟩, ⟨r5, r15, r16, r17, r18, r21, r22, r23, r24, r25, r26, r27, r28, r29, r30, r31, r32, r33, r34, r35, r36, r37, r38, r39, r40, r48⟩⟩ := hI
        have hwj : gI Sj m 44 = w := (hr.1.w (by omega) (by omega)).trans hw
        simp only [k10, k13, k17, k21, r25, r28, r32, r36, cl_n (show base + k ≤ 100000 by omega), vp_n (show base + k < 640 by omega) (show 640 ≤ 100000 by omega), cl_n (show p * 40 + i ≤ 100000 by omega), vp_n (show p * 40 + i < 120 by omega) (show 120 ≤ 100000 by omega), g0, g6, y2, y4, hq, hwj, bI_n, nI_1, Option.some.injEq, Prod.mk.injEq, exists_eq_left', exists_eq_left, true_and, and_true, and_self, true_or, or_true, forall_const, exists_const, exists_and_left, wcat, Nat.zero_le, Nat.reduceLeDiff, Int32.lt_irrefl, not_false_eq_true, Nat.zero_add, forall_eq]
        refine ⟨fun z1 => kV_i (hf _ ?_ ?_ hr), fun z1 => ⟨fun z2 => ?_, fun z2 => ⟨fun z3 => ?_, fun z3 => ?_⟩⟩⟩
        · rw [if_pos (show pLeft q ≤ 0 from z1)] at he
          rw [← he]; exact hHj
        · rw [if_pos (show pLeft q ≤ 0 from z1)] at he
          rw [← he]; exact ⟨t1, by rw [List.length_set]; exact t2, t3⟩
        · rw [if_neg (show ¬ pLeft q ≤ 0 from z1), if_pos (by simpa using z2)] at he
          exact ih (i + 1) q L Sj (by omega) hL hL2 hq hqo hLo hHj ⟨t1, by rw [List.length_set]; exact t2, t3⟩ hr he
        · rw [if_neg (show ¬ pLeft q ≤ 0 from z1), if_neg (by simp [z2]), if_neg (Int32.not_lt.mpr z3)] at he
          have hL3 : L.length < 40 := hL2.resolve_right z1
          have hro := repL_ok hb hc hi hqo hLo
          refine cm_replaces (b := b) (c := c) hI0 hHj hp (by rw [upH_at]; exact hi) (by rw [upH_at]; exact hL3) ⟨t1, by rw [List.length_set]; exact t2, t3⟩ hk' hb hc (by rw [upH_at]; exact hLo) (by rw [pp_at hk]; exact hqo) (by rw [pp_at hk]; exact z1) fun S' hH' hP' hr' => ?_
          rw [pp_at hk, upH_at, upH_up] at hH'
          rw [pp_at hk, upH_at, pset_set] at hP'
          have ge := repL_ge (p := q) hi
          refine ih (i + 1) (repL q L i).1 (repL q L i).2 S' (by omega) (by omega) ?_ (repL_day.trans hq) hro.1 hro.2 hH' hP' (hr.trans hr') he
          rcases repL_len (p := q) hi with e | e
          · exact Or.inr e.1
          · exact Or.inl (by omega)
        · rw [if_neg (show ¬ pLeft q ≤ 0 from z1), if_neg (by simp [z2]), if_pos (Int32.not_le.mp z3)] at he
          exact ih (i + 1) q L Sj (by omega) hL hL2 hq hqo hLo hHj ⟨t1, by rw [List.length_set]; exact t2, t3⟩ hr he
  refine sX11_replacedByElder_0 hJ ?_
  rw [nI40]
  exact loop 40 0 (pp P k) (H p) S (by omega) (by omega) (Or.inl hn) hday hokP hokL (by rw [upH_s]; exact hH) (by rw [pp_sets hk]; exact hP) Fq.rf hR
theorem repL_last {q : Pie} {L : List Lot} (h0 : 0 < L.length) (ho : ¬ pLeft q ≤ 0) (hw : (lt L (L.length - 1)).2.2.2.2.1 = false) : ((repL q L (L.length - 1)).2.length = L.length + 1 ∧ (lt (repL q L (L.length - 1)).2 L.length).2.2.2.2.1 = false) ∨ ((repL q L (L.length - 1)).2.length = L.length ∧ (lt (repL q L (L.length - 1)).2 (L.length - 1)).2.2.2.2.1 = true) := by
  unfold repL
  rw [if_pos (Int32.not_le.mp ho)]
  have hi : L.length - 1 < L.length := by omega
  unfold partIf
  by_cases z : ¬ pLeft q ≤ 0 ∧ pLeft q < (lt L (L.length - 1)).1
  · rw [if_pos z]
    left
    have pl := partL_len (sh := pLeft q) hi
    refine ⟨by rw [List.length_set, pl], ?_⟩
    rw [lt_set (by rw [pl]; omega), if_neg (by omega), lt_part hi, if_neg (by omega), if_neg (by omega), if_pos (by omega)]
    exact hw
  · rw [if_neg z]
    right
    refine ⟨by rw [List.length_set], ?_⟩
    rw [lt_set hi, if_pos rfl]
    rfl
set_option maxRecDepth 20000 in
set_option maxHeartbeats 4000000 in
theorem cm_buys {p t base b c : Nat} {P0 P : List Pie} {T : List Row} {w : Int32} {f : qS → Prop} (h : mI A S m) (hx : RwAt S (m + 3) T) (hT : T.length ≤ 36) (ht : t < T.length) (hw : gI S m 44 = w) (hH : MH S m H) (hp : p < 3) (hP : MPie S m base (P0 ++ P)) (hb : b ≤ mxN) (hc : c ≤ mxN) (hokL : ∀ l, l ∈ H p ++ [newLot (nI t) (tr T t).2.2.1 (tr T t).2.2.2.1 (tr T t).2.2.2.2.1] → okL b (c + 1) l) (hokP : ∀ q, q ∈ P → okP b c q) (hroom : (H p).length + 1 + nOpn P ≤ 40) (hf : ∀ S', MH S' m (upH H p (buyP w (tr T t).2.2.1 P (H p ++ [newLot (nI t) (tr T t).2.2.1 (tr T t).2.2.2.1 (tr T t).2.2.2.2.1])).2) → MPie S' m base (P0 ++ (buyP w (tr T t).2.2.1 P (H p ++ [newLot (nI t) (tr T t).2.2.1 (tr T t).2.2.2.1 (tr T t).2.2.2.2.1])).1) → Fq S S' m → f S') : Run (d + 4) 194 [.ref m, .int (nI p), .int (nI t), .int (nI (base + P0.length))] A S (kV A f) := by
  refine Run.i (C := mX11_buys) rfl rfl rfl fun J hJ => ?_
  generalize hR : buyP w (tr T t).2.2.1 P (H p ++ [newLot (nI t) (tr T t).2.2.1 (tr T t).2.2.2.1 (tr T t).2.2.2.2.1]) = R0 at hf
  have loop : ∀ (Q Pd : List Pie) (L : List Lot) (i : Nat) (Sj : qS) (w2 w3 : Option Value), 0 < L.length → (i = L.length - 1 ∧ (lt L (L.length - 1)).2.2.2.2.1 = false ∨ i = L.length ∧ (lt L (L.length - 1)).2.2.2.2.1 = true) → L.length + nOpn Q ≤ 40 → (∀ q, q ∈ Q → okP b c q) → (∀ l, l ∈ L → okL b (c + 1) l) → MH Sj m (upH H p L) → MPie Sj m base (Pd ++ Q) → Fq S Sj m → (Pd ++ (buyP w (tr T t).2.2.1 Q L).1, (buyP w (tr T t).2.2.1 Q L).2) = (P0 ++ R0.1, R0.2) → J 106 [some (.ref m), some (.int (nI p)), w2, w3, some (.int (nI (p * 40 + i))), some (.int (tr T t).2.2.1), some (.int (nI (base + Pd.length)))] [] A Sj := by
    intro Q
    induction Q with
    | nil =>
      intro Pd L i Sj w2 w3 h0 hi hn hQ hLo hHj hPj hr he
      refine sX11_buys_106 hJ ?_
      have hI := h.fm hr.1
      obtain ⟨t1, t2, t3⟩ := hPj
      rw [List.append_nil] at t1 t2
      simp only [hI.1.1, t1, nIle (show base + Pd.length ≤ 100000 by omega) (show base + Pd.length ≤ 100000 by omega), Nat.le_refl, not_true_eq_false, false_imp_iff, true_imp_iff, Option.some.injEq, Prod.mk.injEq, exists_eq_left', exists_eq_left, true_and, and_true, and_self, true_or, or_true, forall_const, exists_const, exists_and_left, wcat, Nat.zero_le, Nat.reduceLeDiff, Int32.lt_irrefl, not_false_eq_true, Nat.zero_add, forall_eq]
      refine kV_i (hf _ ?_ ?_ hr)
      · rw [← (Prod.mk.inj he).2]; exact hHj
      · rw [← (Prod.mk.inj he).1]; exact ⟨by rw [buyP, List.append_nil]; exact t1, by rw [buyP, List.append_nil]; exact t2, fun j hj => t3 j hj⟩
    | cons q Q ih =>
      intro Pd L i Sj w2 w3 h0 hi hn hQ hLo hHj hPj hr he
      refine sX11_buys_106 hJ ?_
      have hI := h.fm hr.1
      have hPj0 := hPj
      obtain ⟨t1, t2, t3⟩ := hPj
      have hlen : (Pd ++ q :: Q).length = Pd.length + 1 + Q.length := by rw [List.length_append, List.length_cons]; omega
      rw [hlen] at t1 t2
      have hkp : Pd.length < (Pd ++ q :: Q).length := by omega
      have hpk := t3 Pd.length hkp
      rw [pp_mid] at hpk
      obtain ⟨g0, g1, g2, g3, g4, g5, g6, g7, g8⟩ := hpk
      obtain ⟨m1, m2, m3⟩ := hHj p hp
      rw [upH_at] at m1 m2 m3
      rw [nOpn_cons] at hn
      simp only [hI.1.1, t1, nIle (show base + (Pd.length + 1 + Q.length) ≤ 100000 by omega) (show base + Pd.length ≤ 100000 by omega), Option.some.injEq, Prod.mk.injEq, exists_eq_left', exists_eq_left, true_and, and_true, and_self, true_or, or_true, forall_const, exists_const, exists_and_left, wcat, Nat.zero_le, Nat.reduceLeDiff, Int32.lt_irrefl, not_false_eq_true, Nat.zero_add, forall_eq]
      refine ⟨fun z => absurd z (by omega), fun _ => cm_lotEnd hI m1 hp ⟨fun z => kV_i ?_, fun z => ?_⟩⟩
      · rw [nIle (by omega) (by omega)] at z
        have hwa : (lt L (L.length - 1)).2.2.2.2.1 = true := by
          rcases hi with e | e
          · omega
          · exact e.2
        rw [buyP_w hwa] at he
        refine hf _ ?_ ?_ hr
        · rw [← (Prod.mk.inj he).2]; exact hHj
        · rw [← (Prod.mk.inj he).1]; exact hPj0
      · rw [nIle (by omega) (by omega)] at z
        have hi' : i = L.length - 1 ∧ (lt L (L.length - 1)).2.2.2.2.1 = false := by
          rcases hi with e | e
          · exact e
          · omega
        obtain ⟨ei, hwa⟩ := hi'
        subst ei
        obtain ⟨⟨xq, xq1, xq2⟩, -⟩ := hQ q (List.mem_cons_self ..)
        have hb2 := hb
        unfold mxN at hb2
        have xq2' : q.2.2.2.2.2.2.1 = nI xq := xq2
        have skip : isOpn q = false ∨ w < (tr T t).2.2.1 - q.1 → J 106 [some (.ref m), some (.int (nI p)), w2, w3, some (.int (nI (p * 40 + (L.length - 1)))), some (.int (tr T t).2.2.1), some (.int (nI (base + Pd.length + 1)))] [] A Sj := by
          intro zs
          rw [buyP_s zs] at he
          have := ih (Pd ++ [q]) L (L.length - 1) Sj w2 w3 h0 (Or.inl ⟨rfl, hwa⟩) (by omega) (fun x hx => hQ x (List.mem_cons_of_mem _ hx)) hLo hHj (by rw [List.append_assoc]; exact hPj0) hr (by rw [List.append_assoc]; exact he)
          rwa [List.length_append, List.length_singleton, ← Nat.add_assoc] at this
        have hI0 := hI
        obtain ⟨⟨k0, k1, k2, k3, k4, k5, k6, k7, k8, k9, k10, k11, k12, k13, k14, k15, k16, k17, k18, k19, k20, k21, k22, k23, k24, k25, k26⟩, ⟨r5, r15, r16, r17, r18, r21, r22, r23, r24, r25, r26, r27, r28, r29, r30, r31, r32, r33, r34, r35, r36, r37, r38, r39, r40, r48⟩⟩ := hI
        have hwj : gI Sj m 44 = w := (hr.1.w (by omega) (by omega)).trans hw
        have z0 : (nI xq = 0) = (xq = 0) := by rw [show (0 : Int32) = nI 0 from rfl, nIeqB (by omega) (by omega)]
        simp only [k17, k21, r32, r36, cl_n (show base + Pd.length ≤ 100000 by omega), vp_n (show base + Pd.length < 640 by omega) (show 640 ≤ 100000 by omega), g0, g6, xq2', z0, hwj, nI_1, Option.some.injEq, Prod.mk.injEq, exists_eq_left', exists_eq_left, true_and, and_true, and_self, true_or, or_true, forall_const, exists_const, exists_and_left, wcat, Nat.zero_le, Nat.reduceLeDiff, Int32.lt_irrefl, not_false_eq_true, Nat.zero_add, forall_eq]
        have hopn : isOpn q = false ↔ xq = 0 := by rw [isOpn_f, xq2, not_le_0 (by omega)]
        refine ⟨fun z1 => skip (Or.inl (hopn.mpr z1)), fun z1 => ⟨fun z2 => ?_, fun z2 => skip (Or.inr (Int32.not_le.mp z2))⟩⟩
        have ho : ¬ pLeft q ≤ 0 := fun y => z1 (hopn.mp (isOpn_f.mpr y))
        have eb : buyP w (tr T t).2.2.1 (q :: Q) L = ((repL q L (L.length - 1)).1 :: (buyP w (tr T t).2.2.1 Q (repL q L (L.length - 1)).2).1, (buyP w (tr T t).2.2.1 Q (repL q L (L.length - 1)).2).2) := by
          rw [buyP, if_neg (by rw [hwa]; decide), if_neg (fun y => by rcases y with y | y; exact ho (isOpn_f.mp y); exact Int32.not_lt.mpr z2 y)]
        rw [eb] at he
        have o1 := opi_open ho
        have hro := repL_ok hb hc (show L.length - 1 < L.length by omega) (hQ q (List.mem_cons_self ..)) hLo
        refine cm_replaces (k := Pd.length) (b := b) (c := c) hI0 hHj hp (by rw [upH_at]; omega) (by rw [upH_at]; omega) hPj0 hkp hb hc (by rw [upH_at]; exact hLo) (by rw [pp_mid]; exact hQ q (List.mem_cons_self ..)) (by rw [pp_mid]; exact ho) fun S' hH' hP' hr' => ?_
        rw [pp_mid, upH_at, upH_up] at hH'
        rw [pp_mid, upH_at] at hP'
        have es : (Pd ++ q :: Q).set Pd.length (repL q L (L.length - 1)).1 = Pd ++ [(repL q L (L.length - 1)).1] ++ Q := by simp
        rw [es] at hP'
        have hro2 := repL_opn (p := q) (show L.length - 1 < L.length by omega) ho
        have hge := (repL_ge (p := q) (show L.length - 1 < L.length by omega)).1
        have := ih (Pd ++ [(repL q L (L.length - 1)).1]) (repL q L (L.length - 1)).2 (L.length - 1 + 1) S' w2 (unl w3) (by omega) ?_ (by omega) (fun x hx => hQ x (List.mem_cons_of_mem _ hx)) hro.2 hH' hP' (hr.trans hr') (by rw [List.append_assoc]; exact he)
        · rw [List.length_append, List.length_singleton, ← Nat.add_assoc, ← Nat.add_assoc] at this
          exact this
        · rcases repL_last h0 ho hwa with e | e
          · left
            refine ⟨by omega, ?_⟩
            rw [e.1, Nat.add_sub_cancel]
            exact e.2
          · right
            refine ⟨by omega, ?_⟩
            rw [e.1]
            exact e.2
  refine sX11_buys_0 hJ ?_
  obtain ⟨m1, m2, m3⟩ := hH p hp
  simp only [h.1.1, Option.some.injEq, Prod.mk.injEq, exists_eq_left', exists_eq_left, true_and, and_true, and_self, true_or, or_true, forall_const, exists_const, exists_and_left, wcat, Nat.zero_le, Nat.reduceLeDiff, Int32.lt_irrefl, not_false_eq_true, Nat.zero_add, forall_eq]
  refine cm_lotEnd h m1 hp ?_
  have hI0 := h
  obtain ⟨⟨k0, k1, k2, k3, k4, k5, k6, k7, k8, k9, k10, k11, k12, k13, k14, k15, k16, k17, k18, k19, k20, k21, k22, k23, k24, k25, k26⟩, ⟨r5, r15, r16, r17, r18, r21, r22, r23, r24, r25, r26, r27, r28, r29, r30, r31, r32, r33, r34, r35, r36, r37, r38, r39, r40, r48⟩⟩ := h
  obtain ⟨x0, xr⟩ := hx
  obtain ⟨c1, c2, c3, c4, c5, c6⟩ := xr t ht
  have hj : p * 40 + (H p).length < 120 := by omega
  have vj := vp_n hj (show 120 ≤ 100000 by omega)
  have ej := cl_n (show p * 40 + (H p).length ≤ 100000 by omega)
  simp only [r16, Option.some.injEq, Prod.mk.injEq, exists_eq_left', exists_eq_left, true_and, and_true, and_self, true_or, or_true, forall_const, exists_const, exists_and_left, wcat, Nat.zero_le, Nat.reduceLeDiff, Int32.lt_irrefl, not_false_eq_true, Nat.zero_add, forall_eq]
  refine cm_of (c := 3) rfl k3 (by omega) (by omega) ?_
  simp only [r16, r24, Option.some.injEq, Prod.mk.injEq, exists_eq_left', exists_eq_left, true_and, and_true, and_self, true_or, or_true, forall_const, exists_const, exists_and_left, wcat, Nat.zero_le, Nat.reduceLeDiff, Int32.lt_irrefl, not_false_eq_true, Nat.zero_add, forall_eq]
  refine cm_of (c := 4) rfl k3 (by omega) (by omega) ?_
  simp only [k9, vj, ej, r16, r24, r29, c3, c4, Option.some.injEq, Prod.mk.injEq, exists_eq_left', exists_eq_left, true_and, and_true, and_self, true_or, or_true, forall_const, exists_const, exists_and_left, wcat, Nat.zero_le, Nat.reduceLeDiff, Int32.lt_irrefl, not_false_eq_true, Nat.zero_add, forall_eq, gI_uI, gL_uL, gR_uR, gI_uL, gI_uR, gL_uI, gL_uR, gR_uI, gR_uL, true_and, and_true, Nat.add_right_cancel_iff, Nat.add_left_cancel_iff, Nat.reduceEqDiff, Nat.left_eq_add, Nat.right_eq_add, Nat.add_eq_left, Nat.add_eq_right, Nat.reduceAdd, Nat.succ_ne_self, reduceCtorEq, false_and, and_false, if_false, if_true, ite_true, ite_false, ite_self, Nat.succ_ne_zero, Nat.add_one_ne_zero, not_false_eq_true, not_true_eq_false, Nat.one_ne_zero, Nat.zero_ne_one]
  refine cm_of (c := 5) rfl k3 (by omega) (by omega) ?_
  have zz : (0 : Int32) = 0 ∨ (0 : Int32) = 1 := Or.inl rfl
  simp only [k8, k9, k10, k11, k12, k13, k14, vj, ej, r23, r25, r26, r27, r28, c5, m1, nI_1, cl_n (show p ≤ 100000 by omega), vp_n hp (show 3 ≤ 100000 by omega), Option.some.injEq, Prod.mk.injEq, exists_eq_left', exists_eq_left, true_and, and_true, and_self, true_or, or_true, forall_const, exists_const, exists_and_left, wcat, Nat.zero_le, Nat.reduceLeDiff, Int32.lt_irrefl, not_false_eq_true, Nat.zero_add, forall_eq, gI_uI, gL_uL, gR_uR, gI_uL, gI_uR, gL_uI, gL_uR, gR_uI, gR_uL, true_and, and_true, Nat.add_right_cancel_iff, Nat.add_left_cancel_iff, Nat.reduceEqDiff, Nat.left_eq_add, Nat.right_eq_add, Nat.add_eq_left, Nat.add_eq_right, Nat.reduceAdd, Nat.succ_ne_self, reduceCtorEq, false_and, and_false, if_false, if_true, ite_true, ite_false, ite_self, Nat.succ_ne_zero, Nat.add_one_ne_zero, not_false_eq_true, not_true_eq_false, Nat.one_ne_zero, Nat.zero_ne_one]
  refine loop P P0 (H p ++ [newLot (nI t) (tr T t).2.2.1 (tr T t).2.2.2.1 (tr T t).2.2.2.2.1]) (H p).length _ _ _ (by simp) (Or.inl ⟨by simp, ?_⟩) (by rw [List.length_append, List.length_singleton]; omega) hokP hokL ?_ ?_ ?_ (by rw [hR])
  · rw [List.length_append, List.length_singleton, Nat.add_sub_cancel, lt_end]; rfl
  · refine hH.set hp ?_ (fun q hq => ?_) ?_ (fun j hj' => ?_) (fun j hj' => ?_)
    · simp only [gI_uI, gL_uL, gR_uR, gI_uL, gI_uR, gL_uI, gL_uR, gR_uI, gR_uL, true_and, and_true, Nat.add_right_cancel_iff, Nat.add_left_cancel_iff, Nat.reduceEqDiff, Nat.left_eq_add, Nat.right_eq_add, Nat.add_eq_left, Nat.add_eq_right, Nat.reduceAdd, Nat.succ_ne_self, reduceCtorEq, false_and, and_false, if_false, if_true, ite_true, ite_false, ite_self, Nat.succ_ne_zero, Nat.add_one_ne_zero, not_false_eq_true, not_true_eq_false, Nat.one_ne_zero, Nat.zero_ne_one, List.length_append, List.length_singleton]
    · simp only [gI_uI, gL_uL, gR_uR, gI_uL, gI_uR, gL_uI, gL_uR, gR_uI, gR_uL, true_and, and_true, Nat.add_right_cancel_iff, Nat.add_left_cancel_iff, Nat.reduceEqDiff, Nat.left_eq_add, Nat.right_eq_add, Nat.add_eq_left, Nat.add_eq_right, Nat.reduceAdd, Nat.succ_ne_self, reduceCtorEq, false_and, and_false, if_false, if_true, ite_true, ite_false, ite_self, Nat.succ_ne_zero, Nat.add_one_ne_zero, not_false_eq_true, not_true_eq_false, Nat.one_ne_zero, Nat.zero_ne_one, hq]
    · rw [List.length_append, List.length_singleton]; omega
    · rw [List.length_append, List.length_singleton] at hj'
      by_cases e : j = (H p).length
      · subst e
        rw [lt_end]
        unfold mlot newLot
        simp only [gI_uI, gL_uL, gR_uR, gI_uL, gI_uR, gL_uI, gL_uR, gR_uI, gR_uL, true_and, and_true, Nat.add_right_cancel_iff, Nat.add_left_cancel_iff, Nat.reduceEqDiff, Nat.left_eq_add, Nat.right_eq_add, Nat.add_eq_left, Nat.add_eq_right, Nat.reduceAdd, Nat.succ_ne_self, reduceCtorEq, false_and, and_false, if_false, if_true, ite_true, ite_false, ite_self, Nat.succ_ne_zero, Nat.add_one_ne_zero, not_false_eq_true, not_true_eq_false, Nat.one_ne_zero, Nat.zero_ne_one, bI]
      · rw [lt_app (by omega)]
        have e1 : (p * 40 + j = p * 40 + (H p).length) = False := by simp only [eq_iff_iff, iff_false]; omega
        have := m3 j (by omega)
        unfold mlot at this ⊢
        simp only [gI_uI, gL_uL, gR_uR, gI_uL, gI_uR, gL_uI, gL_uR, gR_uI, gR_uL, true_and, and_true, Nat.add_right_cancel_iff, Nat.add_left_cancel_iff, Nat.reduceEqDiff, Nat.left_eq_add, Nat.right_eq_add, Nat.add_eq_left, Nat.add_eq_right, Nat.reduceAdd, Nat.succ_ne_self, reduceCtorEq, false_and, and_false, if_false, if_true, ite_true, ite_false, ite_self, Nat.succ_ne_zero, Nat.add_one_ne_zero, not_false_eq_true, not_true_eq_false, Nat.one_ne_zero, Nat.zero_ne_one, e1, e]
        exact this
    · have e1 : (j = p * 40 + (H p).length) = False := by simp only [eq_iff_iff, iff_false]; omega
      refine ⟨fun b' b1 b2 => ?_, ?_⟩
      · have eb : (b' = m + 8) = False := by simp only [eq_iff_iff, iff_false]; omega
        simp only [gI_uI, gL_uL, gR_uR, gI_uL, gI_uR, gL_uI, gL_uR, gR_uI, gR_uL, true_and, and_true, Nat.add_right_cancel_iff, Nat.add_left_cancel_iff, Nat.reduceEqDiff, Nat.left_eq_add, Nat.right_eq_add, Nat.add_eq_left, Nat.add_eq_right, Nat.reduceAdd, Nat.succ_ne_self, reduceCtorEq, false_and, and_false, if_false, if_true, ite_true, ite_false, ite_self, Nat.succ_ne_zero, Nat.add_one_ne_zero, not_false_eq_true, not_true_eq_false, Nat.one_ne_zero, Nat.zero_ne_one, e1, eb]
      · simp only [gI_uI, gL_uL, gR_uR, gI_uL, gI_uR, gL_uI, gL_uR, gR_uI, gR_uL, true_and, and_true, Nat.add_right_cancel_iff, Nat.add_left_cancel_iff, Nat.reduceEqDiff, Nat.left_eq_add, Nat.right_eq_add, Nat.add_eq_left, Nat.add_eq_right, Nat.reduceAdd, Nat.succ_ne_self, reduceCtorEq, false_and, and_false, if_false, if_true, ite_true, ite_false, ite_self, Nat.succ_ne_zero, Nat.add_one_ne_zero, not_false_eq_true, not_true_eq_false, Nat.one_ne_zero, Nat.zero_ne_one, e1]
  · exact MPie.fm hP ((((((((Fm.rf (lo := 8) (hi := 15) (u := 41) (v := 41)).uI (by omega)).uL (by omega)).uI (by omega)).uI (by omega)).uI (by omega)).uI (by omega)).uI (by omega)) (by omega)
  · exact Fm.q (((((((Fm.rf.uI (by omega)).uL (by omega)).uI (by omega)).uI (by omega)).uI (by omega)).uI (by omega)).uI (by omega))
end
