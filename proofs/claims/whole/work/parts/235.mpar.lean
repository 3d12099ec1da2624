/-! what may stand in a ledger stays so; places only grow -/
theorem usP_ok {tp : Nat → Int32} {n : Nat} {full bg : Bool} {td : Tld} {p : Psr} (h : ¬ (usP tp n full bg td p).1.2.1 = 5) : full = false ∧ bg = true ∧ stB td.2.2.1 (tdV td.2.1 0 1 (lnP tp n full (bI bg) p)) = false ∧ tdY td.2.1 0 1 (lnP tp n full (bI bg) p) = true ∧ inB (usX tp n full bg td p).2 0 999 = true := by
  unfold usP us2 at h
  unfold usX us2
  dsimp only
  have a := rdw_n5 h
  have b := stP_n5 (gon_n5 (fun z => absurd (a.1.symm.trans z) (by decide)))
  have c := tdP_n5 b.2
  have e : ¬ (lnP tp n full (bI bg) p).1.2.1 = 5 := fun z => absurd ((of_decide_eq_true c).1.symm.trans z) (by decide)
  exact ⟨(lnP_n5 e).1, (lnP_n5 e).2.1, b.1, c, (whV_ok a).2⟩
theorem gnP_ok {tp : Nat → Int32} {n : Nat} {full bg : Bool} {td : Tld} {p : Psr} (h : ¬ (gnP tp n full bg td p).1.2.1 = 5) : full = false ∧ bg = true ∧ stB td.2.2.2 (tdV td.2.1 1 1 (lnP tp n full (bI bg) p)) = false ∧ tdY td.2.1 1 1 (lnP tp n full (bI bg) p) = true := by
  unfold gnP gn2 at h
  have b := stP_n5 (gn_chain h)
  have c := tdP_n5 b.2
  have e : ¬ (lnP tp n full (bI bg) p).1.2.1 = 5 := fun z => absurd ((of_decide_eq_true c).1.symm.trans z) (by decide)
  exact ⟨(lnP_n5 e).1, (lnP_n5 e).2.1, b.1, c⟩
theorem tdY_i {T : List Row} {a b : Int32} {p : Psr} (h : tdY T a b p = true) (hn : nuOk p) (hl : T.length ≤ 16) : ∃ t, t < T.length ∧ tdV T a b p = nI t ∧ ((tr T t).1 = a ∨ (tr T t).1 = b) := by
  have e : tdV T a b p = p.1.2.2.2.1 := if_pos h
  obtain ⟨h1, h2, h3⟩ := of_decide_eq_true h
  obtain ⟨t, ht, et⟩ := nu_ix hn hl h1 h2
  refine ⟨t, ht, e.trans et, ?_⟩
  have := of_decide_eq_true h3
  rwa [et, cl_n (by omega)] at this
def td0 : Tld := (0, [], [], [])
def iTd (bg : Bool) (td : Tld) : Prop := pTd td ∧ (bg = false → td = td0)
theorem iTd0 : iTd false td0 := ⟨⟨⟨0, by omega, rfl⟩, ⟨fun i hi => absurd hi (Nat.not_lt_zero _), by decide, by decide⟩, by decide, by decide, fun u hu => (by cases hu), by decide, fun u hu => (by cases hu)⟩, fun _ => rfl⟩
theorem fuU_f {td : Tld} (h : pTd td) (hf : fuU td = false) : td.2.2.1.length < 4 := by
  have h1 := h.2.2.2.1
  have := of_decide_eq_false hf
  rw [show (4 : Int32) = nI 4 from rfl, nIeq (by omega) (by omega)] at this
  omega
theorem fuG_f {td : Tld} (h : pTd td) (hf : fuG td = false) : td.2.2.2.length < 6 := by
  have h1 := h.2.2.2.2.2.1
  have := of_decide_eq_false hf
  rw [show (6 : Int32) = nI 6 from rfl, nIeq (by omega) (by omega)] at this
  omega
theorem iTd.ld {tp : Nat → Int32} {n : Nat} {bg : Bool} {td : Tld} {p : Psr} (h : iTd bg td) : iTd (ldB tp n bg p) (ldT tp n bg p td) := by
  unfold ldB ldT
  by_cases c : (ldP tp n bg p).1.2.1 = 5
  · rw [if_pos c, if_pos c]; exact h
  · rw [if_neg c, if_neg c]
    unfold ldP at c
    have a := rdw_n5 c
    exact ⟨⟨inB_i (n := 60) (by omega) rfl (whV_ok a).2, h.1.2⟩, fun z => absurd z (by decide)⟩
theorem iTd.tr {tp : Nat → Int32} {n : Nat} {bg : Bool} {td : Tld} {p : Psr} {kd : Int32} (h : iTd bg td) (hk : kd = 0 ∨ kd = 1) : iTd bg (rwT (trP tp n kd (fuT td) bg p) (trW tp n kd (fuT td) bg p) td) := by
  unfold rwT
  by_cases c : (trP tp n kd (fuT td) bg p).1.2.1 = 5
  · rw [if_pos c]; exact h
  · rw [if_neg c]
    obtain ⟨a1, a2, a3⟩ := trP_ok hk c
    refine ⟨h.1.row a3 (fuT_f h.1 a1) (fun z => ?_), fun z => by rw [z] at a2; exact absurd a2 (by decide)⟩
    have z : kd = 2 := z
    rcases hk with w | w
    · rw [w] at z; exact absurd z (by decide)
    · rw [w] at z; exact absurd z (by decide)
theorem iTd.sl {tp : Nat → Int32} {n : Nat} {bg : Bool} {td : Tld} {p : Psr} (h : iTd bg td) : iTd bg (rwT (slP tp n (fuS td) bg p) (slW tp n (fuS td) bg p) td) := by
  unfold rwT
  by_cases c : (slP tp n (fuS td) bg p).1.2.1 = 5
  · rw [if_pos c]; exact h
  · rw [if_neg c]
    obtain ⟨a1, a2, a3⟩ := slP_ok c
    obtain ⟨b1, b2⟩ := Bool.or_eq_false_iff.mp a1
    refine ⟨h.1.row a3 (fuT_f h.1 b1) (fun _ => ?_), fun z => by rw [z] at a2; exact absurd a2 (by decide)⟩
    have h1 := h.1.2.1.2.1
    have := of_decide_eq_false b2
    rw [show (4 : Int32) = nI 4 from rfl, nIeq (by omega) (by omega)] at this
    omega
theorem iTd.us {tp : Nat → Int32} {n : Nat} {bg : Bool} {td : Tld} {p : Psr} (h : iTd bg td) : iTd bg (usT (usP tp n (fuU td) bg td p) (usX tp n (fuU td) bg td p) td) := by
  unfold usT
  by_cases c : (usP tp n (fuU td) bg td p).1.2.1 = 5
  · rw [if_pos c]; exact h
  · rw [if_neg c]
    obtain ⟨a1, a2, a3, a4, a5⟩ := usP_ok c
    refine ⟨?_, fun z => by rw [z] at a2; exact absurd a2 (by decide)⟩
    have hl := fuU_f h.1 a1
    obtain ⟨h1, h2, h3, h4, h5, h6, h7⟩ := h.1
    refine ⟨h1, h2, h3, by simp only [List.length_append, List.length_singleton]; omega, fun u hu => ?_, h6, h7⟩
    rcases List.mem_append.mp hu with w | w
    · exact h5 u w
    · rw [List.mem_singleton.mp w]
      obtain ⟨t, ht, e, es⟩ := tdY_i a4 nu_lnP h3
      refine ⟨⟨t, ht, e, fun z => ?_⟩, inB_i (n := 999) (by omega) rfl a5⟩
      rw [z] at es
      exact absurd es (by decide)
theorem iTd.gn {tp : Nat → Int32} {n : Nat} {bg : Bool} {td : Tld} {p : Psr} (h : iTd bg td) : iTd bg (gnT (gnP tp n (fuG td) bg td p) (gnX tp n (fuG td) bg td p) td) := by
  unfold gnT
  by_cases c : (gnP tp n (fuG td) bg td p).1.2.1 = 5
  · rw [if_pos c]; exact h
  · rw [if_neg c]
    obtain ⟨a1, a2, a3, a4⟩ := gnP_ok c
    refine ⟨?_, fun z => by rw [z] at a2; exact absurd a2 (by decide)⟩
    have hl := fuG_f h.1 a1
    obtain ⟨h1, h2, h3, h4, h5, h6, h7⟩ := h.1
    refine ⟨h1, h2, h3, h4, h5, by simp only [List.length_append, List.length_singleton]; omega, fun u hu => ?_⟩
    rcases List.mem_append.mp hu with w | w
    · exact h7 u w
    · rw [List.mem_singleton.mp w]
      obtain ⟨t, ht, e, es⟩ := tdY_i a4 nu_lnP h3
      exact ⟨t, ht, e, es.elim id id⟩
theorem iTd.li {tp : Nat → Int32} {n : Nat} {bg : Bool} {td : Tld} {p : Psr} (h : iTd bg td) : iTd (liB tp n bg p) (liT tp n bg td p) := by
  unfold liB liT
  by_cases c0 : wrd 0 p = true
  · rw [if_pos c0, if_pos c0]; exact h.ld
  · rw [if_neg c0, if_neg c0]
    by_cases c1 : wrd 6 p = true
    · rw [if_pos c1]; exact h.tr (Or.inl rfl)
    · rw [if_neg c1]
      by_cases c2 : wrd 7 p = true
      · rw [if_pos c2]; exact h.tr (Or.inr rfl)
      · rw [if_neg c2]
        by_cases c3 : wrd 8 p = true
        · rw [if_pos c3]; exact h.sl
        · rw [if_neg c3]
          by_cases c4 : wrd 1 p = true
          · rw [if_pos c4]; exact h.us
          · rw [if_neg c4]
            by_cases c5 : wrd 2 p = true
            · rw [if_pos c5]; exact h.gn
            · rw [if_neg c5]; exact h
/-! places -/
def Mo (n : Nat) (p p' : Psr) : Prop := p.1.1 ≤ n → p.1.1 ≤ p'.1.1 ∧ p'.1.1 ≤ n
theorem Mo.rf {n : Nat} {p : Psr} : Mo n p p := fun h => ⟨Nat.le_refl _, h⟩
theorem Mo.eq {n : Nat} {p x y : Psr} (h : Mo n p x) (e : y.1.1 = x.1.1) : Mo n p y := fun hp => by rw [e]; exact h hp
theorem tokAt_ge {tp : Nat → Int32} {n st : Nat} {nu : Int32} {wd : Int64} (h : st ≤ n) : st ≤ (tokAt tp n st nu wd).1 ∧ ((tokAt tp n st nu wd).2.1 = 4 → st < (tokAt tp n st nu wd).1) := by
  have l1 := (lte_le (tp := tp) (n := n) (n - st) st (by omega)).2
  have l2 := (dge_le (tp := tp) (n := n) (n - st) st (by omega)).2
  rw [tokAt]
  split
  · exact ⟨Nat.le_refl _, fun z => absurd (show (1 : Int32) = 4 from z) (by decide)⟩
  · split
    · refine ⟨l1, fun z => ?_⟩
      dsimp only at z
      split at z
      · exact absurd z (by decide)
      · exact absurd z (by decide)
    · split
      · refine ⟨l2, fun z => ?_⟩
        dsimp only at z
        split at z
        · exact absurd z (by decide)
        · exact absurd z (by decide)
      · split
        · exact ⟨Nat.le_succ _, fun _ => Nat.lt_succ_self _⟩
        · exact ⟨Nat.le_refl _, fun z => absurd (show (0 : Int32) = 4 from z) (by decide)⟩
theorem gon_ge {tp : Nat → Int32} {n : Nat} {p : Psr} (h : p.1.1 ≤ n) : p.1.1 ≤ (gon tp n p).1.1 ∧ ((gon tp n p).1.2.1 = 4 → p.1.1 < (gon tp n p).1.1) := by
  by_cases c : p.1.2.1 = 5
  · rw [gon_id c]
    exact ⟨Nat.le_refl _, fun z => absurd (c.symm.trans z) (by decide)⟩
  · have e : gon tp n p = (tokN tp n p.1, p.2) := if_neg c
    rw [e]
    have s := skp_le (tp := tp) (n := n) (n - p.1.1) p.1.1 (by omega)
    have := tokAt_ge (tp := tp) (nu := p.1.2.2.2.1) (wd := p.1.2.2.2.2) s.1
    exact ⟨Nat.le_trans s.2 this.1, fun z => Nat.lt_of_le_of_lt s.2 (this.2 z)⟩
theorem Mo.gon {tp : Nat → Int32} {n : Nat} {p x : Psr} (h : Mo n p x) : Mo n p (gon tp n x) := fun hp => ⟨Nat.le_trans (h hp).1 (gon_ge (h hp).2).1, gon_le (h hp).2⟩
theorem Mo.whP {n : Nat} {lo hi : Int32} {p x : Psr} (h : Mo n p x) : Mo n p (whP lo hi x) := h.eq whP_1
theorem Mo.flw {n : Nat} {k : Int32} {p x : Psr} (h : Mo n p x) : Mo n p (flw k x) := h.eq flw_1
theorem Mo.ite {n : Nat} {c : Prop} [Decidable c] {p x y : Psr} (h : Mo n p x) (h' : Mo n p y) : Mo n p (if c then x else y) := by
  split
  · exact h
  · exact h'
/-- it ends with a step to the next token -/
def Ste (tp : Nat → Int32) (n : Nat) (p p' : Psr) : Prop := ∃ x, Mo n p x ∧ p' = gon tp n x
theorem Ste.mo {tp : Nat → Int32} {n : Nat} {p p' : Psr} (h : Ste tp n p p') : Mo n p p' := by
  obtain ⟨x, hx, e⟩ := h
  rw [e]; exact hx.gon
theorem Ste.le4 {tp : Nat → Int32} {n : Nat} {p p' : Psr} (h : Ste tp n p p') (hp : p.1.1 ≤ n) (h4 : p'.1.2.1 = 4) : p.1.1 < p'.1.1 := by
  obtain ⟨x, hx, e⟩ := h
  rw [e] at h4 ⊢
  exact Nat.lt_of_le_of_lt (hx hp).1 ((gon_ge (hx hp).2).2 h4)
theorem lnP_mo {tp : Nat → Int32} {n : Nat} {full : Bool} {bg : Int32} {p : Psr} : Mo n p (lnP tp n full bg p) := by
  unfold lnP lnF
  exact (Mo.ite (Mo.ite Mo.rf.flw Mo.rf).flw (Mo.ite Mo.rf.flw Mo.rf)).gon
theorem t4P_st {tp : Nat → Int32} {n : Nat} {hs lp hp : Int32} {p x : Psr} (h : Mo n p x) : Ste tp n p (t4P tp n hs lp hp x) := by
  unfold t4P
  unfold rdw
  exact ⟨_, h.whP.gon.whP.gon.whP.gon.whP, rfl⟩
theorem liP_st {tp : Nat → Int32} {n : Nat} {bg : Bool} {td : Tld} {p : Psr} : Ste tp n p (liP tp n bg td p) ∨ liP tp n bg td p = flw 1 p := by
  unfold liP
  split
  · left
    unfold ldP ld1 nds
    exact ⟨_, (Mo.ite (Mo.ite Mo.rf.flw Mo.rf).gon (Mo.ite Mo.rf.flw Mo.rf).gon.flw).gon.whP, rfl⟩
  · split
    · left
      unfold trP
      rw [if_neg (by decide)]
      exact t4P_st lnP_mo
    · split
      · left
        unfold trP
        rw [if_pos rfl]
        unfold rlP
        exact ⟨_, Mo.ite (t4P_st lnP_mo).mo.flw (t4P_st lnP_mo).mo, rfl⟩
      · split
        · left
          unfold slP
          exact t4P_st lnP_mo
        · split
          · left
            unfold usP us2
            exact ⟨_, ((lnP_mo.eq tdP_1).eq stP_1).gon.whP, rfl⟩
          · split
            · left
              unfold gnP gn2
              exact ⟨_, (((lnP_mo.eq tdP_1).eq stP_1).gon.eq udP_1).gon.whP, rfl⟩
            · right; rfl
theorem liP_le {tp : Nat → Int32} {n : Nat} {bg : Bool} {td : Tld} {p : Psr} (hp : p.1.1 ≤ n) : (liP tp n bg td p).1.1 ≤ n := by
  rcases liP_st (tp := tp) (n := n) (bg := bg) (td := td) (p := p) with h | h
  · exact (h.mo hp).2
  · rw [h, flw_1]; exact hp
theorem liP_4 {tp : Nat → Int32} {n : Nat} {bg : Bool} {td : Tld} {p : Psr} (hp : p.1.1 ≤ n) (h4 : (liP tp n bg td p).1.2.1 = 4) : p.1.1 < (liP tp n bg td p).1.1 := by
  rcases liP_st (tp := tp) (n := n) (bg := bg) (td := td) (p := p) with h | h
  · exact h.le4 hp h4
  · rw [h, flw_5] at h4
    exact absurd h4 (by decide)
