/-! the class's reader: lines of unsure prices and of gains; any line; a text -/
section
variable {d : Nat} {A : qA} {S S' S'' : qS} {r t a n : Nat} {tp : Nat → Int32} {p y P : Psr} {bg : Bool} {td : Tld}
theorem Tk.nu (h : Tk S r tp n p) : nuOk p := by
  obtain ⟨-, y, h1, h2, e⟩ := h
  rw [e]
  exact nu_gon
set_option maxRecDepth 20000 in
set_option maxHeartbeats 1000000 in
theorem ct_rUnsure {f : Bool → qS → Prop} (h : Rx A S r t a tp n) (hd : Rd r t a) (hp : Tk S r tp n p) (h2 : p.1.2.1 = 2) (hT : TdF A S a true td) (ht : pTd td) (hf : ∀ b S', Ra S' r tp n (usP tp n (fuU td) true td p) b → TdF A S' a true (usT (usP tp n (fuU td) true td p) (usX tp n (fuU td) true td p) td) → Rz S S' r a → f b S') : Run (d + 5) 41 [.ref r] A S (kZ A f) := by
  refine Run.i (C := mX6_readUnsure) rfl rfl rfl fun J hJ => ?_
  have hk0 := h.1
  have ka := hT.2.1.1
  have ra := h.2.2.2.2.2.2.1
  have l16 := ht.2.2.1
  have l4 := ht.2.2.2.1
  have bad : ∀ P S1, usP tp n (fuU td) true td p = P → Ra S1 r tp n P false → Ro S S1 r → f false S1 := by
    intro P S1 e h1 l1
    rw [← e] at h1
    refine hf false S1 h1 ?_ l1.rz
    rw [usT, if_pos h1.over]
    exact hT.ro l1 hd
  have idl : ∀ {q : Psr}, q.1.2.1 = 5 → gon tp n (whP 0 999 (gon tp n q)) = q := fun z => by rw [gon_id z, whP_id z, gon_id z]
  unfold usP us2 at bad hf
  unfold usX us2 at hf
  rw [ln1] at hf bad
  refine sX6_readUnsure_0 hJ ⟨hk0, a, ra, ka, ?_⟩
  rw [hT.2.2.2.2.2.1]
  refine ⟨fun z => ?_, fun z => ?_⟩
  · have hl : td.2.2.1.length < 4 := by
      rw [show (4 : Int32) = nI 4 from rfl, nIlt (by omega) (by omega)] at z
      exact z
    have hfu : fuU td = false := decide_eq_false (by rw [show (4 : Int32) = nI 4 from rfl, nIeq (by omega) (by omega)]; omega)
    rw [hfu, if_neg (by decide)] at hf bad
    refine ⟨hk0, wc rfl, ct_stepP h (hp.pd (by rw [h2]; decide)) fun S1 h1 l1 => ?_⟩
    have hx1 := h.ro l1
    have hT1 := hT.ro l1 hd
    have nu := h1.nu
    generalize gon tp n p = p0 at h1 hf bad nu
    refine ⟨hk0, fun zk => ?_, fun zk => ⟨hk0, wc rfl, ct_faultHere hk0 h1 fun S2 g2 l2 => ⟨Or.inl rfl, kZ_0 (bad (flw 1 p0) S2 ?_ g2 (l1.trans l2))⟩⟩⟩
    · have e3 := h1.kd.2.2.1.1 zk
      have ev := h1.1.2.2.2 e3
      obtain ⟨k, hk, ek⟩ := nu e3
      have tT := hT1.2.2.2.1
      rw [ev]
      refine ⟨hk0, hk0, a, hx1.2.2.2.2.2.2.1, ka, a + 1, hT1.2.2.1.1, tT.1.1, wc rfl, ct_has tT (q_eqb (fun ch => ⟨hk0, wc rfl, ct_faultHere hk0 h1 fun S2 g2 l2 => ⟨Or.inl rfl, kZ_0 (bad (flw 2 p0) S2 ?_ g2 (l1.trans l2))⟩⟩) (fun ch => ?_))⟩
      · have ny : ¬ tdY td.2.1 0 1 p0 = true := by
          intro c
          have c := of_decide_eq_true c
          have := of_decide_eq_false ch
          rw [ek] at this c
          exact this ⟨nI_pos (by omega), c.2.1⟩
        have e2 : tdP td.2.1 0 1 p0 = flw 2 p0 := by rw [tdP, if_neg ny, if_pos e3]
        rw [e2, stP_id flw_5, idl flw_5]
      · obtain ⟨i, hi, ei⟩ := hasT_i (by omega) ch
        rw [ei, cl_n (by omega)]
        have lt : ¬ nI td.2.1.length ≤ p0.1.2.2.2.1 := by rw [ei, nIle (by omega) (by omega)]; omega
        have hv := (ht.2.1.1 i hi).1
        refine ⟨hk0, a, hx1.2.2.2.2.2.2.1, ka, a + 1, hT1.2.2.1.1, tT.1.1, a + 1 + 1, tT.2.1.2.1, 16, tT.1.2.1, vp_n (by omega) (by omega), ?_⟩
        rw [(tT.2.2.1.2 i hi).1]
        refine ⟨fun zs => ⟨hk0, a, hx1.2.2.2.2.2.2.1, ka, wc rfl, ct_isUnsure hT1.2 ?_⟩, fun zs => ⟨hk0, wc rfl, ct_faultHere hk0 h1 fun S2 g2 l2 => ⟨Or.inl rfl, kZ_0 (bad (flw 2 p0) S2 ?_ g2 (l1.trans l2))⟩⟩⟩
        · have yy : tdY td.2.1 0 1 p0 = true := decide_eq_true ⟨e3, lt, decide_eq_true (by rw [ei, cl_n (by omega)]; rcases hv with e | e | e; exact Or.inl e; exact Or.inr e; exact absurd e zs)⟩
          have e2 : tdP td.2.1 0 1 p0 = p0 := by rw [tdP, if_pos yy]
          have e4 : tdV td.2.1 0 1 p0 = nI i := by rw [tdV, if_pos yy, ei]
          rw [e2, e4] at hf bad
          refine q_eqb (fun cu => ⟨hk0, wc rfl, ct_rWhole hx1 (h1.pd (by rw [e3]; decide)) fun b S2 g2 v2 l2 => ?_⟩) (fun cu => ⟨hk0, wc rfl, ct_faultHere hk0 h1 fun S2 g2 l2 => ⟨Or.inl rfl, kZ_0 (bad (flw 3 p0) S2 ?_ g2 (l1.trans l2))⟩⟩)
          · rw [show stP td.2.2.1 (nI i) p0 = p0 by rw [stP, if_neg (by rw [cu]; decide)]] at hf bad
            have l := l1.trans l2
            refine And.symm (q_eqb (fun cb => ⟨Or.inl rfl, kZ_0 ?_⟩) (fun cb => ?_))
            · subst cb
              exact bad _ S2 rfl g2 l
            · subst cb
              rw [v2 rfl]
              have hT2 := hT.ro l hd
              refine ⟨hk0, a, (h.ro l).2.2.2.2.2.2.1, hk0, ka, wc rfl, ct_addUnsure hT2 hl fun S3 g3 f3 => ⟨Or.inr rfl, kZ_1 (hf true S3 ?_ ?_ (l.rz.trans f3.rz))⟩⟩
              · obtain ⟨d1, d2⟩ := hd
                exact g2.ro fun k => (f3 r (by omega) k).1
              · obtain ⟨y, ey, hy⟩ := g2.2 rfl
                rw [usT, if_neg (by rw [ey]; exact gon_5 hy.2.2)]
                exact g3
          · rw [show stP td.2.2.1 (nI i) p0 = flw 3 p0 by rw [stP, if_pos cu], idl flw_5]
        · have ny : ¬ tdY td.2.1 0 1 p0 = true := by
            intro c
            have c := of_decide_eq_true (of_decide_eq_true c).2.2
            rw [ei, cl_n (by omega), zs] at c
            exact absurd c (by decide)
          have e2 : tdP td.2.1 0 1 p0 = flw 2 p0 := by rw [tdP, if_neg ny, if_pos e3]
          rw [e2, stP_id flw_5, idl flw_5]
    · have n3 : ¬ p0.1.2.1 = 3 := fun c => zk (h1.kd.2.2.1.2 c)
      have ny : ¬ tdY td.2.1 0 1 p0 = true := fun c => n3 (of_decide_eq_true c).1
      have e2 : tdP td.2.1 0 1 p0 = flw 1 p0 := by rw [tdP, if_neg ny, if_neg n3]
      rw [e2, stP_id flw_5, idl flw_5]
  · have hfu : fuU td = true := by
      rw [show (4 : Int32) = nI 4 from rfl, nIlt (by omega) (by omega)] at z
      exact decide_eq_true (by rw [show (4 : Int32) = nI 4 from rfl, nIeq (by omega) (by omega)]; omega)
    rw [hfu, if_pos rfl] at bad
    refine ⟨hk0, wc rfl, ct_faultHere hk0 hp fun S1 g1 l1 => ⟨Or.inl rfl, kZ_0 (bad (flw 5 p) S1 ?_ g1 l1)⟩⟩
    rw [tdP_id flw_5, stP_id flw_5, idl flw_5]
set_option maxRecDepth 20000 in
set_option maxHeartbeats 1000000 in
theorem ct_rGain {f : Bool → qS → Prop} (h : Rx A S r t a tp n) (hd : Rd r t a) (hp : Tk S r tp n p) (h2 : p.1.2.1 = 2) (hT : TdF A S a true td) (ht : pTd td) (hf : ∀ b S', Ra S' r tp n (gnP tp n (fuG td) true td p) b → TdF A S' a true (gnT (gnP tp n (fuG td) true td p) (gnX tp n (fuG td) true td p) td) → Rz S S' r a → f b S') : Run (d + 6) 42 [.ref r] A S (kZ A f) := by
  refine Run.i (C := mX6_readGain) rfl rfl rfl fun J hJ => ?_
  have hk0 := h.1
  have ka := hT.2.1.1
  have ra := h.2.2.2.2.2.2.1
  have l16 := ht.2.2.1
  have l6 := ht.2.2.2.2.2.1
  have bad : ∀ P S1, gnP tp n (fuG td) true td p = P → Ra S1 r tp n P false → Ro S S1 r → f false S1 := by
    intro P S1 e h1 l1
    rw [← e] at h1
    refine hf false S1 h1 ?_ l1.rz
    rw [gnT, if_pos h1.over]
    exact hT.ro l1 hd
  have idl : ∀ {q : Psr}, q.1.2.1 = 5 → gon tp n (whP 0 999999 (gon tp n (udP (gon tp n q)))) = q := fun z => by rw [gon_id z, udP_id z, gon_id z, whP_id z, gon_id z]
  have idu : ∀ {q : Psr}, q.1.2.1 = 5 → gon tp n (whP 0 999999 (gon tp n q)) = q := fun z => by rw [gon_id z, whP_id z, gon_id z]
  unfold gnP gn2 at bad hf
  unfold gnX gn2 at hf
  rw [ln1] at hf bad
  refine sX6_readGain_0 hJ ⟨hk0, a, ra, ka, ?_⟩
  rw [hT.2.2.2.2.2.2.2.2.1]
  refine ⟨fun z => ?_, fun z => ?_⟩
  · have hl : td.2.2.2.length < 6 := by
      rw [show (6 : Int32) = nI 6 from rfl, nIlt (by omega) (by omega)] at z
      exact z
    have hfu : fuG td = false := decide_eq_false (by rw [show (6 : Int32) = nI 6 from rfl, nIeq (by omega) (by omega)]; omega)
    rw [hfu, if_neg (by decide)] at hf bad
    refine ⟨hk0, wc rfl, ct_stepP h (hp.pd (by rw [h2]; decide)) fun S1 h1 l1 => ?_⟩
    have hx1 := h.ro l1
    have hT1 := hT.ro l1 hd
    have nu := h1.nu
    generalize gon tp n p = p0 at h1 hf bad nu
    refine ⟨hk0, fun zk => ?_, fun zk => ⟨hk0, wc rfl, ct_faultHere hk0 h1 fun S2 g2 l2 => ⟨Or.inl rfl, kZ_0 (bad (flw 1 p0) S2 ?_ g2 (l1.trans l2))⟩⟩⟩
    · have e3 := h1.kd.2.2.1.1 zk
      have ev := h1.1.2.2.2 e3
      obtain ⟨k, hk, ek⟩ := nu e3
      have tT := hT1.2.2.2.1
      rw [ev]
      refine ⟨hk0, hk0, a, hx1.2.2.2.2.2.2.1, ka, a + 1, hT1.2.2.1.1, tT.1.1, wc rfl, ct_isSell tT (And.symm (q_eqb (fun ch => ⟨hk0, wc rfl, ct_faultHere hk0 h1 fun S2 g2 l2 => ⟨Or.inl rfl, kZ_0 (bad (flw 2 p0) S2 ?_ g2 (l1.trans l2))⟩⟩) (fun ch => ?_)))⟩
      · have ny : ¬ tdY td.2.1 1 1 p0 = true := by
          intro c
          have c := of_decide_eq_true c
          have c3 := of_decide_eq_true c.2.2
          have : isSellT td.2.1 p0.1.2.2.2.1 = true := by
            rw [isSellT, Bool.and_eq_true]
            refine ⟨decide_eq_true ⟨by rw [ek]; exact nI_pos (by omega), c.2.1⟩, decide_eq_true (c3.elim id id)⟩
          rw [this] at ch
          cases ch
        have e2 : tdP td.2.1 1 1 p0 = flw 2 p0 := by rw [tdP, if_neg ny, if_pos e3]
        rw [e2, stP_id flw_5, idl flw_5]
      · obtain ⟨i, hi, ei, es⟩ := isSellT_i (by omega) ch
        have lt : ¬ nI td.2.1.length ≤ p0.1.2.2.2.1 := by rw [ei, nIle (by omega) (by omega)]; omega
        have yy : tdY td.2.1 1 1 p0 = true := decide_eq_true ⟨e3, lt, decide_eq_true (by rw [ei, cl_n (by omega)]; exact Or.inl es)⟩
        have e2 : tdP td.2.1 1 1 p0 = p0 := by rw [tdP, if_pos yy]
        have e4 : tdV td.2.1 1 1 p0 = nI i := by rw [tdV, if_pos yy, ei]
        rw [e2, e4] at hf bad
        rw [ei]
        refine ⟨hk0, a, hx1.2.2.2.2.2.2.1, ka, wc rfl, ct_hasGain hT1.2 (q_eqb (fun cu => ⟨hk0, wc rfl, ct_stepP hx1 (h1.pd (by rw [e3]; decide)) fun S2 h2' l2 => ?_⟩) (fun cu => ⟨hk0, wc rfl, ct_faultHere hk0 h1 fun S2 g2 l2 => ⟨Or.inl rfl, kZ_0 (bad (flw 3 p0) S2 ?_ g2 (l1.trans l2))⟩⟩))⟩
        · rw [show stP td.2.2.2 (nI i) p0 = p0 by rw [stP, if_neg (by rw [cu]; decide)]] at hf bad
          have l := l1.trans l2
          have hx2 := h.ro l
          generalize gon tp n p0 = q at h2' hf bad
          have last : ∀ (B : Bool), wrd 4 q = B → udP q = q → q.1.2.1 = 2 → ∀ {K1 K2 : qS → Prop}, (∀ S3, f false S3 → K1 S3) → (∀ S3, (∀ v S4, v = sgn B (gI S3 r 7) → TdF A S4 a true (td.1, td.2.1, td.2.2.1, td.2.2.2 ++ [(nI i, v)]) → Fr S3 S4 a (a + 12) → f true S4) → Ro S S3 r → K2 S3) → ∀ b S3, Ra S3 r tp n (gon tp n (whP 0 999999 (gon tp n q))) b → (b = true → gI S3 r 7 = whV 0 999999 (gon tp n q)) → Ro S S3 r → (b = false → K1 S3) ∧ (b = true → K2 S3) := by
            intro B hB hu hq K1 K2 hk1 hk2 b S3 g3 v3 l3
            rw [hB, hu] at hf
            rw [hu] at bad
            refine ⟨fun cb => ?_, fun cb => hk2 S3 (fun v S4 ev' g4 f4 => hf true S4 ?_ ?_ (l3.rz.trans f4.rz)) l3⟩
            · subst cb
              exact hk1 S3 (bad _ S3 rfl g3 l3)
            · subst cb
              obtain ⟨d1, d2⟩ := hd
              exact g3.ro fun k => (f4 r (by omega) k).1
            · subst cb
              obtain ⟨y, ey, hy⟩ := g3.2 rfl
              rw [gnT, if_neg (by rw [ey]; exact gon_5 hy.2.2), ← v3 rfl, ← ev']
              exact g4
          refine fun s1 es1 => ⟨hk0, wc rfl, ct_rWord hx2 h2' es1 (by decide) (And.symm (q_eqb (fun c4 => fun s2 es2 => ⟨hk0, wc rfl, ct_rWord hx2 h2' es2 (by decide) (And.symm (q_eqb (fun c5 => ⟨hk0, wc rfl, ct_faultHere hk0 h2' fun S3 g3 l3 => ⟨Or.inl rfl, kZ_0 (bad (flw 1 q) S3 ?_ g3 (l.trans l3))⟩⟩) (fun c5 => ?_)))⟩) (fun c4 => ?_)))⟩
          · rw [show udP q = flw 1 q by rw [udP, if_neg (by rw [c4]; decide), if_neg (by rw [c5]; decide)], idu flw_5]
          · have s2' : q.1.2.1 = 2 := (of_decide_eq_true c5).1
            refine ⟨hk0, wc rfl, ct_rWhole hx2 (h2'.pd (by rw [s2']; decide)) fun b S3 g3 v3 l3 => ?_⟩
            have := last false c4 (by rw [udP, if_neg (by rw [c4]; decide), if_pos c5]) s2' (K1 := fun S3 => f false S3) (K2 := fun S3 => (∀ v S4, v = sgn false (gI S3 r 7) → TdF A S4 a true (td.1, td.2.1, td.2.2.1, td.2.2.2 ++ [(nI i, v)]) → Fr S3 S4 a (a + 12) → f true S4) ∧ Ro S S3 r) (fun _ z => z) (fun _ z1 z2 => ⟨z1, z2⟩) b S3 g3 v3 (l.trans l3)
            rw [c4]
            refine And.symm (q_eqb (fun cb => ⟨Or.inl rfl, kZ_0 ?_⟩) (fun cb => ?_))
            · subst cb
              exact this.1 rfl
            · obtain ⟨k1, k2⟩ := this.2 cb
              exact ⟨hk0, a, (h.ro k2).2.2.2.2.2.2.1, fun _ => ⟨hk0, ka, wc rfl, ct_addGain (hT.ro k2 hd) hl fun S4 g4 f4 => ⟨Or.inr rfl, kZ_1 (k1 _ S4 rfl g4 f4)⟩⟩, fun z => absurd rfl z⟩
          · have s2' : q.1.2.1 = 2 := (of_decide_eq_true c4).1
            refine ⟨hk0, wc rfl, ct_rWhole hx2 (h2'.pd (by rw [s2']; decide)) fun b S3 g3 v3 l3 => ?_⟩
            have := last true c4 (by rw [udP, if_pos c4]) s2' (K1 := fun S3 => f false S3) (K2 := fun S3 => (∀ v S4, v = sgn true (gI S3 r 7) → TdF A S4 a true (td.1, td.2.1, td.2.2.1, td.2.2.2 ++ [(nI i, v)]) → Fr S3 S4 a (a + 12) → f true S4) ∧ Ro S S3 r) (fun _ z => z) (fun _ z1 z2 => ⟨z1, z2⟩) b S3 g3 v3 (l.trans l3)
            rw [c4]
            refine And.symm (q_eqb (fun cb => ⟨Or.inl rfl, kZ_0 ?_⟩) (fun cb => ?_))
            · subst cb
              exact this.1 rfl
            · obtain ⟨k1, k2⟩ := this.2 cb
              exact ⟨hk0, a, (h.ro k2).2.2.2.2.2.2.1, fun z => absurd z (by decide), fun _ => ⟨hk0, ka, wc rfl, ct_addGain (hT.ro k2 hd) hl fun S4 g4 f4 => ⟨Or.inr rfl, kZ_1 (k1 _ S4 rfl g4 f4)⟩⟩⟩
        · rw [show stP td.2.2.2 (nI i) p0 = flw 3 p0 by rw [stP, if_pos cu], idl flw_5]
    · have n3 : ¬ p0.1.2.1 = 3 := fun c => zk (h1.kd.2.2.1.2 c)
      have ny : ¬ tdY td.2.1 1 1 p0 = true := fun c => n3 (of_decide_eq_true c).1
      have e2 : tdP td.2.1 1 1 p0 = flw 1 p0 := by rw [tdP, if_neg ny, if_neg n3]
      rw [e2, stP_id flw_5, idl flw_5]
  · have hfu : fuG td = true := by
      rw [show (6 : Int32) = nI 6 from rfl, nIlt (by omega) (by omega)] at z
      exact decide_eq_true (by rw [show (6 : Int32) = nI 6 from rfl, nIeq (by omega) (by omega)]; omega)
    rw [hfu, if_pos rfl] at bad
    refine ⟨hk0, wc rfl, ct_faultHere hk0 hp fun S1 g1 l1 => ⟨Or.inl rfl, kZ_0 (bad (flw 5 p) S1 ?_ g1 l1)⟩⟩
    rw [tdP_id flw_5, stP_id flw_5, idl flw_5]
end
