/-! the reference's parser: numbers that are read; lines of unsure prices and of gains -/
theorem dgB_i {c : Int32} (h : dgB c = true) : ∃ v, v ≤ 9 ∧ c = nI (48 + v) := by
  have h := of_decide_eq_true h
  have h0 : ¬ c < 0 := fun z => h.1 (Int32.lt_trans z (by decide))
  obtain ⟨i, hi, e⟩ := nI_of2 (M := nI 57) (nI_toInt (by omega)) h0 (Int32.not_lt.mp h.2)
  have h1 := h.1
  rw [e, show (48 : Int32) = nI 48 from rfl, nIlt (by omega) (by omega)] at h1
  exact ⟨i - 48, by omega, by rw [e, show 48 + (i - 48) = i by omega]⟩
theorem dge_all {tp : Nat → Int32} {n : Nat} : ∀ f k j, k ≤ j → j < dge tp n f k → dgB (byN tp n j) = true
  | 0, k, j, h1, h2 => absurd h2 (by rw [dge]; omega)
  | f + 1, k, j, h1, h2 => by
    rw [dge] at h2
    split at h2
    · rename_i c
      by_cases e : j = k
      · rw [e]; exact c
      · exact dge_all f (k + 1) j (by omega) h2
    · omega
theorem nbG_i {tp : Nat → Int32} {n st : Nat} : ∀ i, i ≤ 6 → (∀ j, j < i → dgB (byN tp n (st + j)) = true) → ∃ t, t < 10 ^ i ∧ nbG tp n st i = nI t
  | 0, _, _ => ⟨0, by decide, rfl⟩
  | i + 1, h, hd => by
    obtain ⟨t, ht, e⟩ := nbG_i i (by omega) (fun j hj => hd j (by omega))
    obtain ⟨v, hv, ev⟩ := dgB_i (hd i (by omega))
    refine ⟨10 * t + v, by rw [Nat.pow_succ]; omega, ?_⟩
    rw [nbG, if_neg (by omega), e, ev, show (10 : Int32) = nI 10 from rfl, show (48 : Int32) = nI 48 from rfl, nI_mul, nI_add, nI_sub (by omega)]
    congr 1
    omega
/-- a whole number that was read is below a million -/
def nuOk (p : Psr) : Prop := p.1.2.1 = 3 → ∃ t, t ≤ 999999 ∧ p.1.2.2.2.1 = nI t
theorem tokAt_nu {tp : Nat → Int32} {n st : Nat} {nu : Int32} {wd : Int64} (h : (tokAt tp n st nu wd).2.1 = 3) : ∃ t, t ≤ 999999 ∧ (tokAt tp n st nu wd).2.2.2.1 = nI t := by
  by_cases c1 : byN tp n st = -1
  · rw [tokAt, if_pos c1] at h
    exact absurd (show (1 : Int32) = 3 from h) (by decide)
  · by_cases c2 : ltB (byN tp n st) = true
    · rw [tokAt, if_neg c1, if_pos c2] at h
      dsimp only at h
      split at h
      · exact absurd h (by decide)
      · exact absurd h (by decide)
    · by_cases c3 : dgB (byN tp n st) = true
      · rw [tokAt, if_neg c1, if_neg c2, if_pos c3] at h ⊢
        dsimp only at h ⊢
        by_cases c4 : 6 < dge tp n (n - st) st - st
        · rw [if_pos c4] at h
          exact absurd h (by decide)
        · obtain ⟨t, ht, e⟩ := nbG_i (tp := tp) (n := n) (st := st) (dge tp n (n - st) st - st) (by omega) (fun j hj => dge_all (n - st) st (st + j) (by omega) (by omega))
          have : 10 ^ (dge tp n (n - st) st - st) ≤ 10 ^ 6 := Nat.pow_le_pow_right (by omega) (by omega)
          exact ⟨t, by omega, e⟩
      · rw [tokAt, if_neg c1, if_neg c2, if_neg c3] at h
        split at h
        · exact absurd (show (4 : Int32) = 3 from h) (by decide)
        · exact absurd (show (0 : Int32) = 3 from h) (by decide)
theorem nu_gon {tp : Nat → Int32} {n : Nat} {p : Psr} : nuOk (gon tp n p) := by
  intro h
  by_cases c : p.1.2.1 = 5
  · rw [gon_id c, c] at h
    exact absurd h (by decide)
  · have e : gon tp n p = (tokN tp n p.1, p.2) := if_neg c
    rw [e] at h ⊢
    exact tokAt_nu h
theorem nu_lnP {tp : Nat → Int32} {n : Nat} {full : Bool} {bg : Int32} {p : Psr} : nuOk (lnP tp n full bg p) := nu_gon
theorem nu_ix {p : Psr} {T : List Row} (h : nuOk p) (hl : T.length ≤ 16) (h3 : p.1.2.1 = 3) (hn : ¬ nI T.length ≤ p.1.2.2.2.1) : ∃ t, t < T.length ∧ p.1.2.2.2.1 = nI t := by
  obtain ⟨t, ht, e⟩ := h h3
  rw [e, nI_leI (by omega) (by omega)] at hn
  exact ⟨t, by omega, e⟩
def us2 (tp : Nat → Int32) (n : Nat) (full bg : Bool) (td : Tld) (p : Psr) : Psr := stP td.2.2.1 (tdV td.2.1 0 1 (lnP tp n full (bI bg) p)) (tdP td.2.1 0 1 (lnP tp n full (bI bg) p))
def usP (tp : Nat → Int32) (n : Nat) (full bg : Bool) (td : Tld) (p : Psr) : Psr := gon tp n (whP 0 999 (gon tp n (us2 tp n full bg td p)))
def usX (tp : Nat → Int32) (n : Nat) (full bg : Bool) (td : Tld) (p : Psr) : Int32 × Int32 := (tdV td.2.1 0 1 (lnP tp n full (bI bg) p), whV 0 999 (gon tp n (us2 tp n full bg td p)))
def fuU (td : Tld) : Bool := decide (nI td.2.2.1.length = 4)
def fuG (td : Tld) : Bool := decide (nI td.2.2.2.length = 6)
section
variable {d e : Nat} {A : qA} {S : qS} {m n q : Nat} {tp : Nat → Int32} {p : Psr} {bg : Bool} {td : Tld}
set_option maxRecDepth 20000 in
set_option maxHeartbeats 2000000 in
theorem cm_readUnsure {f : qS → Prop} (h : TxAt A S m tp n) (hx : PsAt S m p) (hp : p.1.1 ≤ n) (hr : RdAt A S m q bg td) (hl : td.2.1.length ≤ 16) (hu : td.2.2.1.length ≤ 4) (hf : ∀ S', PsAt S' m (usP tp n (fuU td) bg td p) → RdAt A S' m q bg (usT (usP tp n (fuU td) bg td p) (usX tp n (fuU td) bg td p) td) → Lz S S' m q → f S') : Run (d + 5) 172 [.ref m] A S (kV A f) := by
  refine Run.i (C := mX11_readUnsure) rfl rfl rfl fun J hJ => ?_
  have hk0 := h.1.1.1
  have hr' := hr
  obtain ⟨y1, y2, y3, ⟨y4, y5, y6, y7, y8, y9⟩, ⟨w1, w2, w3, w4, w5⟩, z1, z2, z3, z4, z5, z6⟩ := hr'
  have full4 : ¬ (usP tp n (fuU td) bg td p).1.2.1 = 5 → td.2.2.1.length < 4 := by
    intro c
    have c1 := lnP_n5 (fun z => (stP_n5 (gon_n5 (fun z => absurd ((rdw_n5 c).1.symm.trans z) (by decide)))).2 (by rw [tdP, if_neg (fun y => absurd ((of_decide_eq_true y).1.symm.trans z) (by decide)), if_neg (by rw [z]; decide), flw_id z]; exact z))
    have := of_decide_eq_false c1.1
    rw [show (4 : Int32) = nI 4 from rfl, nIeq (by omega) (by omega)] at this
    omega
  unfold usP usX at hf
  unfold usP at full4
  refine sX11_readUnsure_0 hJ ⟨hk0, q, y1, y4, ?_⟩
  rw [z2]
  have body : ∀ F, fuU td = F → ∀ S1, PsAt S1 m (lnP tp n F (gI S q 0) p) → Ly S S1 m → ∀ {g : Int32 → qS → Prop}, (∀ S2, PsAt S2 m (tdP td.2.1 0 1 (lnP tp n F (bI bg) p)) → Ly S S2 m → g (tdV td.2.1 0 1 (lnP tp n F (bI bg) p)) S2) → Run (d + 4) 163 [.ref m, .int 0, .int 1] A S1 (kI A g) := by
    intro F eF S1 h1 l1 g hg
    rw [hr.2.2.1] at h1
    exact cm_toldAt (h.ly l1).1 h1 (hr.ly l1) hl (nu_ix nu_lnP hl) fun S2 h2 l2 => hg S2 h2 (l1.trans l2)
  unfold us2 at hf full4
  have hp0 : ∀ F, (lnP tp n F (bI bg) p).1.1 ≤ n := fun F => lnP_le hp
  refine ⟨fun z => ⟨hk0, wc rfl, cm_lineBegins (full := false) h hx hp y1 y4 fun S1 h1 l1 => ⟨hk0, wc rfl, body false ?_ S1 h1 l1 fun S2 h2 l2 => ?_⟩⟩, fun z => ⟨hk0, wc rfl, cm_lineBegins (full := true) h hx hp y1 y4 fun S1 h1 l1 => ⟨hk0, wc rfl, body true ?_ S1 h1 l1 fun S2 h2 l2 => ?_⟩⟩⟩
  · exact decide_eq_false z
  · rw [show fuU td = false from decide_eq_false z] at hf full4
    have hp1 := hp0 false
    generalize lnP tp n false (bI bg) p = p0 at h2 hf full4 hp1 ⊢
    have hp2 : (tdP td.2.1 0 1 p0).1.1 ≤ n := by rw [tdP_1]; exact hp1
    generalize tdP td.2.1 0 1 p0 = p1 at h2 hf full4 hp2 ⊢
    generalize tdV td.2.1 0 1 p0 = t at hf full4 ⊢
    have hr2 := hr.ly l2
    refine ⟨hk0, wc rfl, cm_over (h.ly l2).1 h2 (And.symm (q_eqb (fun c => ?_) (fun c => ?_)))⟩
    · refine ⟨hk0, q, hr2.1, y4, q + 2, hr2.2.2.2.2.1.2.1, hk0, q, hr2.1, y4, wc rfl, ?_⟩
      rw [hr2.2.2.2.2.2.2.1]
      refine cm_stands y6 hu (by omega) (fun i hi => (hr2.2.2.2.2.2.2.2.2.2.1 i hi).1) (q_eqb (fun c2 => ⟨hk0, wc rfl, ?_⟩) (fun c2 => ⟨hk0, wc rfl, cm_flaw (h.ly l2).1 h2 fun S3 h3 l3 => ⟨hk0, wc rfl, ?_⟩⟩))
      · rw [show stP td.2.2.1 t p1 = p1 by rw [stP, if_neg (by rw [c2]; decide)]] at hf full4
        exact cm_usTail h hr h2 l2 hp2 full4 hf
      · rw [show stP td.2.2.1 t p1 = flw 3 p1 by rw [stP, if_pos c2]] at hf full4
        exact cm_usTail h hr h3 (l2.trans l3) (by rw [flw_1]; exact hp2) full4 hf
    · rw [stP_id (of_decide_eq_true c)] at hf full4
      exact ⟨hk0, wc rfl, cm_usTail h hr h2 l2 hp2 full4 hf⟩
  · exact decide_eq_true z
  · rw [show fuU td = true from decide_eq_true z] at hf full4
    have hp1 := hp0 true
    generalize lnP tp n true (bI bg) p = p0 at h2 hf full4 hp1 ⊢
    have hp2 : (tdP td.2.1 0 1 p0).1.1 ≤ n := by rw [tdP_1]; exact hp1
    generalize tdP td.2.1 0 1 p0 = p1 at h2 hf full4 hp2 ⊢
    generalize tdV td.2.1 0 1 p0 = t at hf full4 ⊢
    have hr2 := hr.ly l2
    refine ⟨hk0, wc rfl, cm_over (h.ly l2).1 h2 (And.symm (q_eqb (fun c => ?_) (fun c => ?_)))⟩
    · refine ⟨hk0, q, hr2.1, y4, q + 2, hr2.2.2.2.2.1.2.1, hk0, q, hr2.1, y4, wc rfl, ?_⟩
      rw [hr2.2.2.2.2.2.2.1]
      refine cm_stands y6 hu (by omega) (fun i hi => (hr2.2.2.2.2.2.2.2.2.2.1 i hi).1) (q_eqb (fun c2 => ⟨hk0, wc rfl, ?_⟩) (fun c2 => ⟨hk0, wc rfl, cm_flaw (h.ly l2).1 h2 fun S3 h3 l3 => ⟨hk0, wc rfl, ?_⟩⟩))
      · rw [show stP td.2.2.1 t p1 = p1 by rw [stP, if_neg (by rw [c2]; decide)]] at hf full4
        exact cm_usTail h hr h2 l2 hp2 full4 hf
      · rw [show stP td.2.2.1 t p1 = flw 3 p1 by rw [stP, if_pos c2]] at hf full4
        exact cm_usTail h hr h3 (l2.trans l3) (by rw [flw_1]; exact hp2) full4 hf
    · rw [stP_id (of_decide_eq_true c)] at hf full4
      exact ⟨hk0, wc rfl, cm_usTail h hr h2 l2 hp2 full4 hf⟩
end
