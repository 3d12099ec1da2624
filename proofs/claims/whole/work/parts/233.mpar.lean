/-! the reference's parser: lines of gains, any line -/
def gn2 (tp : Nat → Int32) (n : Nat) (full bg : Bool) (td : Tld) (p : Psr) : Psr := gon tp n (stP td.2.2.2 (tdV td.2.1 1 1 (lnP tp n full (bI bg) p)) (tdP td.2.1 1 1 (lnP tp n full (bI bg) p)))
/-- up or down -/
def udP (p : Psr) : Psr := if wrd 4 p = true then p else if wrd 5 p = true then p else flw 1 p
theorem udP_1 {p : Psr} : (udP p).1.1 = p.1.1 := by
  rw [udP]
  split
  · rfl
  · split
    · rfl
    · exact flw_1
theorem udP_n5 {p : Psr} (h : ¬ (udP p).1.2.1 = 5) : ¬ p.1.2.1 = 5 := by
  rw [udP] at h
  split at h
  · exact h
  · split at h
    · exact h
    · exact absurd flw_5 h
def gnP (tp : Nat → Int32) (n : Nat) (full bg : Bool) (td : Tld) (p : Psr) : Psr := gon tp n (whP 0 999999 (gon tp n (udP (gn2 tp n full bg td p))))
def sgn (b : Bool) (v : Int32) : Int32 := if b = true then -v else v
def gnX (tp : Nat → Int32) (n : Nat) (full bg : Bool) (td : Tld) (p : Psr) : Int32 × Int32 := (tdV td.2.1 1 1 (lnP tp n full (bI bg) p), sgn (wrd 4 (gn2 tp n full bg td p)) (whV 0 999999 (gon tp n (udP (gn2 tp n full bg td p)))))
theorem tdP_id {T : List Row} {a b : Int32} {p : Psr} (z : p.1.2.1 = 5) : tdP T a b p = p := by rw [tdP, if_neg (fun y => absurd ((of_decide_eq_true y).1.symm.trans z) (by decide)), if_neg (by rw [z]; decide), flw_id z]
theorem gn_chain {tp : Nat → Int32} {n : Nat} {P2 : Psr} (c : ¬ (gon tp n (whP 0 999999 (gon tp n (udP (gon tp n P2))))).1.2.1 = 5) : ¬ P2.1.2.1 = 5 := by
  have c1 := (rdw_n5 c).1
  have c2 : ¬ (gon tp n (udP (gon tp n P2))).1.2.1 = 5 := by rw [c1]; decide
  exact gon_n5 (udP_n5 (gon_n5 c2))
section
variable {d e : Nat} {A : qA} {S : qS} {m n q : Nat} {tp : Nat → Int32} {p : Psr} {bg : Bool} {td : Tld}
set_option maxRecDepth 20000 in
set_option maxHeartbeats 2000000 in
theorem cm_readGain {f : qS → Prop} (h : TxAt A S m tp n) (hx : PsAt S m p) (hp : p.1.1 ≤ n) (hr : RdAt A S m q bg td) (hl : td.2.1.length ≤ 16) (hu : td.2.2.2.length ≤ 6) (hf : ∀ S', PsAt S' m (gnP tp n (fuG td) bg td p) → RdAt A S' m q bg (gnT (gnP tp n (fuG td) bg td p) (gnX tp n (fuG td) bg td p) td) → Lz S S' m q → f S') : Run (d + 7) 173 [.ref m] A S (kV A f) := by
  refine Run.i (C := mX11_readGain) rfl rfl rfl fun J hJ => ?_
  have hk0 := h.1.1.1
  have hr' := hr
  obtain ⟨y1, y2, y3, ⟨y4, y5, y6, y7, y8, y9⟩, ⟨w1, w2, w3, w4, w5⟩, z1, z2, z3, z4, z5, z6⟩ := hr'
  have full6 : ¬ (gnP tp n (fuG td) bg td p).1.2.1 = 5 → td.2.2.2.length < 6 := by
    intro c
    unfold gnP gn2 at c
    have c0 := (stP_n5 (gn_chain c)).2
    have c1 : ¬ (lnP tp n (fuG td) (bI bg) p).1.2.1 = 5 := by
      intro z
      rw [tdP_id z] at c0
      exact c0 z
    have := of_decide_eq_false (lnP_n5 c1).1
    rw [show (6 : Int32) = nI 6 from rfl, nIeq (by omega) (by omega)] at this
    omega
  unfold gnP gnX at hf
  unfold gnP at full6
  -- behind down or up
  have j92 : ∀ (t : Int32) (P4 : Psr) (b : Bool) S1 (w3 : Option Value), PsAt S1 m P4 → Ly S S1 m → P4.1.1 ≤ n → (¬ (gon tp n (whP 0 999999 (gon tp n P4))).1.2.1 = 5 → td.2.2.2.length < 6) → (∀ S', PsAt S' m (gon tp n (whP 0 999999 (gon tp n P4))) → RdAt A S' m q bg (gnT (gon tp n (whP 0 999999 (gon tp n P4))) (t, sgn b (whV 0 999999 (gon tp n P4))) td) → Lz S S' m q → f S') → J 92 [some (.ref m), some (.int t), some (.int (bI b)), w3] [] A S1 := by
    intro t P4 b S1 w3' h1 l hp4 full6 hf
    refine sX11_readGain_92 hJ ⟨hk0, wc rfl, cm_gon (h.ly l) h1 hp4 fun S2 h2 l2 => ?_⟩
    have hp5 := gon_le (tp := tp) hp4
    generalize gon tp n P4 = p5 at h2 hf hp5 full6
    have l := l.trans l2
    refine ⟨hk0, wc rfl, cm_readWhole (h.ly l) h2 hp5 fun S3 h3 l3 => ?_⟩
    generalize gon tp n (whP 0 999999 p5) = p6 at h3 hf full6
    generalize whV 0 999999 p5 = v at hf ⊢
    have l := l.trans l3
    have hr3 := hr.ly l
    have hr4 := hr3
    obtain ⟨y1, y2, y3, ⟨y4, y5, y6, y7, y8, y9⟩, ⟨w1, w2, w3, w4, w5⟩, z1, z2, z3, z4, z5, z6⟩ := hr4
    refine ⟨hk0, wc rfl, cm_over (h.ly l).1 h3 (q_eqb (fun c => ?_) (fun c => kV_i (hf S3 h3 ?_ l.lz)))⟩
    · have c5 := of_decide_eq_false c
      have h6 := full6 c5
      have fin : ∀ r, r = sgn b v → kV A f none A (uI (uI (uI S3 (q + 4) td.2.2.2.length t) (q + 5) td.2.2.2.length r) q 3 (nI td.2.2.2.length + 1)) := by
        intro r er
        subst er
        refine kV_i (hf _ (h3.out (fun k => ?_) rfl) ?_ (((l.lz.uI (by omega)).uI (by omega)).uI (by omega)))
        · rw [gI_uI, if_neg (by omega), gI_uI, if_neg (by omega), gI_uI, if_neg (by omega)]
        · rw [gnT, if_neg c5]
          exact hr3.gns (x := (t, sgn b v))
      refine ⟨hk0, q, y1, y4, q + 4, w4, hk0, q, y1, y4, 6, y8, ?_⟩
      rw [z3, cl_n (by omega)]
      refine ⟨vp_n h6 (by omega), fun T eT => ?_⟩
      subst eT
      refine ⟨hk0, q, y1, y4, q + 5, w5, hk0, q, y1, y4, ?_⟩
      rw [gI_uI, if_neg (by omega), z3, cl_n (by omega)]
      refine q_eqb (fun cb => ⟨6, y9, vp_n h6 (by omega), fun T eT => ?_⟩) (fun cb => ⟨6, y9, vp_n h6 (by omega), fun T eT => ?_⟩)
      · subst eT
        refine ⟨hk0, q, y1, y4, y4, fun T eT => ?_⟩
        subst eT
        rw [gI_uI, if_neg (by omega), gI_uI, if_neg (by omega), z3]
        exact fin v (by rw [sgn, cb]; rfl)
      · subst eT
        refine ⟨hk0, q, y1, y4, y4, fun T eT => ?_⟩
        subst eT
        rw [gI_uI, if_neg (by omega), gI_uI, if_neg (by omega), z3]
        exact fin (-v) (by rw [sgn, cb]; rfl)
    · rw [gnT, if_pos (of_decide_eq_true c)]
      exact hr3
  have j61 : ∀ (t : Int32) (P2 : Psr) S1 (w2 w3 : Option Value), PsAt S1 m P2 → Ly S S1 m → P2.1.1 ≤ n → (¬ (gon tp n (whP 0 999999 (gon tp n (udP (gon tp n P2))))).1.2.1 = 5 → td.2.2.2.length < 6) → (∀ S', PsAt S' m (gon tp n (whP 0 999999 (gon tp n (udP (gon tp n P2))))) → RdAt A S' m q bg (gnT (gon tp n (whP 0 999999 (gon tp n (udP (gon tp n P2))))) (t, sgn (wrd 4 (gon tp n P2)) (whV 0 999999 (gon tp n (udP (gon tp n P2))))) td) → Lz S S' m q → f S') → J 61 [some (.ref m), some (.int t), w2, w3] [] A S1 := by
    intro t P2 S1 w2' w3' h1 l hp2 full6 hf
    refine sX11_readGain_61 hJ ⟨hk0, wc rfl, cm_gon (h.ly l) h1 hp2 fun S2 h2 l2 => ?_⟩
    have hp3 := gon_le (tp := tp) hp2
    generalize gon tp n P2 = p3 at h2 hf hp3 full6
    have l := l.trans l2
    refine fun q1 hq1 => ⟨hk0, wc rfl, cm_isWord (h.ly l).1 h2 hq1 (by decide) ?_⟩
    cases c4 : wrd 4 p3
    · rw [c4] at hf
      refine ⟨fun z => absurd rfl z, fun _ => fun q2 hq2 => ⟨hk0, wc rfl, cm_isWord (h.ly l).1 h2 hq2 (by decide) (And.symm (q_eqb (fun c5 => ⟨hk0, wc rfl, cm_flaw (h.ly l).1 h2 fun S3 h3 l3 => ?_⟩) (fun c5 => ?_)))⟩⟩
      · rw [show udP p3 = flw 1 p3 by rw [udP, if_neg (by rw [c4]; decide), if_neg (by rw [c5]; decide)]] at hf full6
        exact j92 t (flw 1 p3) false S3 _ h3 (l.trans l3) (by rw [flw_1]; exact hp3) full6 hf
      · rw [show udP p3 = p3 by rw [udP, if_neg (by rw [c4]; decide), if_pos c5]] at hf full6
        exact j92 t p3 false S2 _ h2 l hp3 full6 hf
    · rw [c4] at hf
      refine ⟨fun _ => ?_, fun z => absurd z (by decide)⟩
      rw [show udP p3 = p3 by rw [udP, if_pos c4]] at hf full6
      exact j92 t p3 true S2 _ h2 l hp3 full6 hf
  unfold gn2 at hf full6
  have body : ∀ F, fuG td = F → ∀ S1, PsAt S1 m (lnP tp n F (gI S q 0) p) → Ly S S1 m → ∀ {g : Int32 → qS → Prop}, (∀ S2, PsAt S2 m (tdP td.2.1 1 1 (lnP tp n F (bI bg) p)) → Ly S S2 m → g (tdV td.2.1 1 1 (lnP tp n F (bI bg) p)) S2) → Run (d + 6) 163 [.ref m, .int 1, .int 1] A S1 (kI A g) := by
    intro F eF S1 h1 l1 g hg
    rw [hr.2.2.1] at h1
    exact cm_toldAt (h.ly l1).1 h1 (hr.ly l1) hl (nu_ix nu_lnP hl) fun S2 h2 l2 => hg S2 h2 (l1.trans l2)
  refine sX11_readGain_0 hJ ⟨hk0, q, y1, y4, ?_⟩
  rw [z3]
  have hp0 : ∀ F, (lnP tp n F (bI bg) p).1.1 ≤ n := fun F => lnP_le hp
  have rest : ∀ F, fuG td = F → ∀ S2, PsAt S2 m (tdP td.2.1 1 1 (lnP tp n F (bI bg) p)) → Ly S S2 m → Run (d + 6) 154 [.ref m] A S2 (kZ A fun b_6 S_5 => ((¬ (bI b_6) = 0 → J 61 [some (.ref m), some (.int (tdV td.2.1 1 1 (lnP tp n F (bI bg) p))), none, none] [] A S_5) ∧ ((bI b_6) = 0 → A.1 m = some (11, 0) ∧ ∃ q_7, gR S_5 m 4 = some q_7 ∧ A.1 q_7 = some (10, 0) ∧ ∃ q_8, gR S_5 q_7 7 = some q_8 ∧ A.1 m = some (11, 0) ∧ ∃ q_9, gR S_5 m 4 = some q_9 ∧ A.1 q_9 = some (10, 0) ∧ wcat [] ≤ 8 ∧ Run (d + 6) 135 [.ref q_8, .int (gI S_5 q_9 3), .int (tdV td.2.1 1 1 (lnP tp n F (bI bg) p))] A S_5 (kZ A fun b_11 S_10 => (((bI b_11) = 0 → J 61 [some (.ref m), some (.int (tdV td.2.1 1 1 (lnP tp n F (bI bg) p))), none, none] [] A S_10) ∧ (¬ (bI b_11) = 0 → A.1 m = some (11, 0) ∧ wcat [] ≤ 8 ∧ Run (d + 6) 155 [.ref m, .int 3] A S_10 (kV A fun S_12 => J 61 [some (.ref m), some (.int (tdV td.2.1 1 1 (lnP tp n F (bI bg) p))), none, none] [] A S_12))))))) := by
    intro F eF S2 h2 l2
    rw [eF] at hf full6
    have hp1 := hp0 F
    generalize lnP tp n F (bI bg) p = p0 at h2 hf full6 hp1 ⊢
    have hp2 : (tdP td.2.1 1 1 p0).1.1 ≤ n := by rw [tdP_1]; exact hp1
    generalize tdP td.2.1 1 1 p0 = p1 at h2 hf full6 hp2 ⊢
    generalize tdV td.2.1 1 1 p0 = t at hf full6 ⊢
    have hr2 := hr.ly l2
    refine cm_over (h.ly l2).1 h2 (And.symm (q_eqb (fun c => ?_) (fun c => ?_)))
    · refine ⟨hk0, q, hr2.1, y4, q + 4, hr2.2.2.2.2.1.2.2.2.1, hk0, q, hr2.1, y4, wc rfl, ?_⟩
      rw [hr2.2.2.2.2.2.2.2.1]
      refine cm_stands y8 hu (by omega) (fun i hi => (hr2.2.2.2.2.2.2.2.2.2.2 i hi).1) (q_eqb (fun c2 => ?_) (fun c2 => ⟨hk0, wc rfl, cm_flaw (h.ly l2).1 h2 fun S3 h3 l3 => ?_⟩))
      · rw [show stP td.2.2.2 t p1 = p1 by rw [stP, if_neg (by rw [c2]; decide)]] at hf full6
        exact j61 t p1 S2 _ _ h2 l2 hp2 full6 hf
      · rw [show stP td.2.2.2 t p1 = flw 3 p1 by rw [stP, if_pos c2]] at hf full6
        exact j61 t (flw 3 p1) S3 _ _ h3 (l2.trans l3) (by rw [flw_1]; exact hp2) full6 hf
    · rw [stP_id (of_decide_eq_true c)] at hf full6
      exact j61 t p1 S2 _ _ h2 l2 hp2 full6 hf
  refine ⟨fun z => ⟨hk0, wc rfl, cm_lineBegins (full := false) h hx hp y1 y4 fun S1 h1 l1 => ⟨hk0, wc rfl, body false (decide_eq_false z) S1 h1 l1 fun S2 h2 l2 => ⟨hk0, wc rfl, rest false (decide_eq_false z) S2 h2 l2⟩⟩⟩, fun z => ⟨hk0, wc rfl, cm_lineBegins (full := true) h hx hp y1 y4 fun S1 h1 l1 => ⟨hk0, wc rfl, body true (decide_eq_true z) S1 h1 l1 fun S2 h2 l2 => ⟨hk0, wc rfl, rest true (decide_eq_true z) S2 h2 l2⟩⟩⟩⟩
end
