/-! the reference's parser: any line -/
def liP (tp : Nat → Int32) (n : Nat) (bg : Bool) (td : Tld) (p : Psr) : Psr := if wrd 0 p = true then ldP tp n bg p else if wrd 6 p = true then trP tp n 0 (fuT td) bg p else if wrd 7 p = true then trP tp n 1 (fuT td) bg p else if wrd 8 p = true then slP tp n (fuS td) bg p else if wrd 1 p = true then usP tp n (fuU td) bg td p else if wrd 2 p = true then gnP tp n (fuG td) bg td p else flw 1 p
def liB (tp : Nat → Int32) (n : Nat) (bg : Bool) (p : Psr) : Bool := if wrd 0 p = true then ldB tp n bg p else bg
def liT (tp : Nat → Int32) (n : Nat) (bg : Bool) (td : Tld) (p : Psr) : Tld := if wrd 0 p = true then ldT tp n bg p td else if wrd 6 p = true then rwT (trP tp n 0 (fuT td) bg p) (trW tp n 0 (fuT td) bg p) td else if wrd 7 p = true then rwT (trP tp n 1 (fuT td) bg p) (trW tp n 1 (fuT td) bg p) td else if wrd 8 p = true then rwT (slP tp n (fuS td) bg p) (slW tp n (fuS td) bg p) td else if wrd 1 p = true then usT (usP tp n (fuU td) bg td p) (usX tp n (fuU td) bg td p) td else if wrd 2 p = true then gnT (gnP tp n (fuG td) bg td p) (gnX tp n (fuG td) bg td p) td else td
section
variable {d e : Nat} {A : qA} {S : qS} {m n q : Nat} {tp : Nat → Int32} {p : Psr} {bg : Bool} {td : Tld}
set_option maxRecDepth 20000 in
theorem cm_readLine {f : qS → Prop} (h : TxAt A S m tp n) (hx : PsAt S m p) (hp : p.1.1 ≤ n) (hr : RdAt A S m q bg td) (hl : td.2.1.length ≤ 16) (hu : td.2.2.1.length ≤ 4) (hg : td.2.2.2.length ≤ 6) (hf : ∀ S', PsAt S' m (liP tp n bg td p) → RdAt A S' m q (liB tp n bg p) (liT tp n bg td p) → Lz S S' m q → f S') : Run (d + 10) 166 [.ref m] A S (kV A f) := by
  refine Run.i (C := mX11_readLine) rfl rfl rfl fun J hJ => ?_
  have hk0 := h.1.1.1
  unfold liP liB liT at hf
  refine sX11_readLine_0 hJ fun q1 e1 => ⟨hk0, wc rfl, cm_isWord h.1 hx e1 (by decide) (q_eqb (fun c0 => ?_) (fun c0 => ⟨hk0, wc rfl, ?_⟩))⟩
  · rw [c0] at hf
    simp only [reduceCtorEq, if_false, Bool.false_eq_true] at hf
    refine fun q2 e2 => ⟨hk0, wc rfl, cm_isWord h.1 hx e2 (by decide) (q_eqb (fun c1 => ?_) (fun c1 => ⟨hk0, wc rfl, ?_⟩))⟩
    · rw [c1] at hf
      simp only [reduceCtorEq, if_false, Bool.false_eq_true] at hf
      refine fun q3 e3 => ⟨hk0, wc rfl, cm_isWord h.1 hx e3 (by decide) (q_eqb (fun c2 => ?_) (fun c2 => ⟨hk0, wc rfl, ?_⟩))⟩
      · rw [c2] at hf
        simp only [reduceCtorEq, if_false, Bool.false_eq_true] at hf
        refine fun q4 e4 => ⟨hk0, wc rfl, cm_isWord h.1 hx e4 (by decide) (q_eqb (fun c3 => ?_) (fun c3 => ⟨hk0, wc rfl, ?_⟩))⟩
        · rw [c3] at hf
          simp only [reduceCtorEq, if_false, Bool.false_eq_true] at hf
          refine fun q5 e5 => ⟨hk0, wc rfl, cm_isWord h.1 hx e5 (by decide) (q_eqb (fun c4 => ?_) (fun c4 => ⟨hk0, wc rfl, ?_⟩))⟩
          · rw [c4] at hf
            simp only [reduceCtorEq, if_false, Bool.false_eq_true] at hf
            refine fun q6 e6 => ⟨hk0, wc rfl, cm_isWord h.1 hx e6 (by decide) (q_eqb (fun c5 => ⟨hk0, wc rfl, ?_⟩) (fun c5 => ⟨hk0, wc rfl, ?_⟩))⟩
            · rw [c5] at hf
              simp only [reduceCtorEq, if_false, Bool.false_eq_true] at hf
              exact cm_flaw h.1 hx fun S1 h1 l1 => kV_i (hf S1 h1 (hr.ly l1) l1.lz)
            · rw [c5] at hf
              simp only [if_true] at hf
              exact cm_readGain h hx hp hr hl hg fun S1 h1 r1 l1 => kV_i (hf S1 h1 r1 l1)
          · rw [c4] at hf
            simp only [if_true] at hf
            exact cm_readUnsure h hx hp hr hl hu fun S1 h1 r1 l1 => kV_i (hf S1 h1 r1 l1)
        · rw [c3] at hf
          simp only [if_true] at hf
          exact cm_readSplit h hx hp hr hl fun S1 h1 r1 l1 => kV_i (hf S1 h1 r1 l1)
      · rw [c2] at hf
        simp only [if_true] at hf
        exact cm_readTrade h hx hp hr hl fun S1 h1 r1 l1 => kV_i (hf S1 h1 r1 l1)
    · rw [c1] at hf
      simp only [if_true] at hf
      exact cm_readTrade h hx hp hr hl fun S1 h1 r1 l1 => kV_i (hf S1 h1 r1 l1)
  · rw [c0] at hf
    simp only [if_true] at hf
    exact cm_readLedger h hx hp hr fun S1 h1 r1 l1 => kV_i (hf S1 h1 r1 l1)
end
/-! what may stand in a ledger that is being read -/
def pTd (td : Tld) : Prop := (∃ w, w ≤ 60 ∧ td.1 = nI w) ∧ vT td.2.1 ∧ td.2.1.length ≤ 16 ∧ td.2.2.1.length ≤ 4 ∧ (∀ u, u ∈ td.2.2.1 → (∃ t, t < td.2.1.length ∧ u.1 = nI t ∧ ¬ (tr td.2.1 t).1 = 2) ∧ ∃ v, v ≤ 999 ∧ u.2 = nI v) ∧ td.2.2.2.length ≤ 6 ∧ ∀ g, g ∈ td.2.2.2 → ∃ t, t < td.2.1.length ∧ g.1 = nI t ∧ (tr td.2.1 t).1 = 1
theorem pTd.v {td : Tld} (h : pTd td) (hs : shortT td.1 999 td.2.1 = false) : vTd td := ⟨h.1, ⟨h.2.1, hs⟩, h.2.2⟩
theorem whV_ok {lo hi : Int32} {p : Psr} (h : p.1.2.1 = 3 ∧ inB p.1.2.2.2.1 lo hi = true) : whV lo hi p = p.1.2.2.2.1 ∧ inB (whV lo hi p) lo hi = true := by
  have : whV lo hi p = p.1.2.2.2.1 := if_pos h
  exact ⟨this, by rw [this]; exact h.2⟩
theorem t4_ok {tp : Nat → Int32} {n : Nat} {kd hs lp hp ru : Int32} {p : Psr} (h : ¬ (t4P tp n hs lp hp p).1.2.1 = 5) : ¬ p.1.2.1 = 5 ∧ inB (t4R tp n kd hs lp hp ru p).2.1 0 2 = true ∧ inB (t4R tp n kd hs lp hp ru p).2.2.1 0 999 = true ∧ inB (t4R tp n kd hs lp hp ru p).2.2.2.1 1 hs = true ∧ inB (t4R tp n kd hs lp hp ru p).2.2.2.2.1 lp hp = true := by
  unfold t4P at h
  unfold t4R
  dsimp only
  unfold rdw at h ⊢
  have n5 : ∀ {x : Psr}, x.1.2.1 = 3 → ¬ x.1.2.1 = 5 := fun e z => absurd (e.symm.trans z) (by decide)
  have a4 := rdw_n5 h
  have h3 := n5 a4.1
  have a3 := rdw_n5 h3
  have h2 := n5 a3.1
  have a2 := rdw_n5 h2
  have h1 := n5 a2.1
  have a1 := rdw_n5 h1
  exact ⟨n5 a1.1, (whV_ok a1).2, (whV_ok a2).2, (whV_ok a3).2, (whV_ok a4).2⟩
theorem rl_ok {tp : Nat → Int32} {n : Nat} {p : Psr} (h : ¬ (rlP tp n p).1.2.1 = 5) : ¬ p.1.2.1 = 5 ∧ ∃ u, u ≤ 3 ∧ rlV p = nI u := by
  have h := gon_n5 h
  by_cases c : rlV p = -1
  · rw [if_pos c] at h
    exact absurd flw_5 h
  · rw [if_neg c] at h
    refine ⟨h, ?_⟩
    unfold rlV at c ⊢
    split
    · exact ⟨0, by omega, rfl⟩
    · split
      · exact ⟨1, by omega, rfl⟩
      · split
        · exact ⟨2, by omega, rfl⟩
        · split
          · exact ⟨3, by omega, rfl⟩
          · rename_i a b c' d'
            rw [if_neg a, if_neg b, if_neg c', if_neg d'] at c
            exact absurd rfl c
theorem pTd.row {td : Tld} {x : Row} (h : pTd td) (hx : vRow x) (hl : td.2.1.length < 16) (hs : x.1 = 2 → spl td.2.1 td.2.1.length < 4) : pTd (td.1, td.2.1 ++ [x], td.2.2) := by
  obtain ⟨h1, h2, h3, h4, h5, h6, h7⟩ := h
  refine ⟨h1, vT_add h2 hx (by omega) hs, by simp only [List.length_append, List.length_singleton]; omega, h4, fun u hu => ?_, h6, fun g hg => ?_⟩
  · obtain ⟨⟨t, ht, e, e2⟩, hv⟩ := h5 u hu
    exact ⟨⟨t, by simp only [List.length_append, List.length_singleton]; omega, e, by show ¬ (tr (td.2.1 ++ [x]) t).1 = 2; rw [tr_app ht]; exact e2⟩, hv⟩
  · obtain ⟨t, ht, e, e2⟩ := h7 g hg
    exact ⟨t, by simp only [List.length_append, List.length_singleton]; omega, e, by show (tr (td.2.1 ++ [x]) t).1 = 1; rw [tr_app ht]; exact e2⟩
theorem fuT_f {td : Tld} (h : pTd td) (hf : fuT td = false) : td.2.1.length < 16 := by
  have h1 := h.2.2.1
  have := of_decide_eq_false hf
  rw [show (16 : Int32) = nI 16 from rfl, nIeq (by omega) (by omega)] at this
  omega
theorem trP_ok {tp : Nat → Int32} {n : Nat} {kd : Int32} {full bg : Bool} {p : Psr} (hk : kd = 0 ∨ kd = 1) (h : ¬ (trP tp n kd full bg p).1.2.1 = 5) : full = false ∧ bg = true ∧ vRow (trW tp n kd full bg p) := by
  have key : ∀ ru, ¬ (t4P tp n 999 0 999 (lnP tp n full (bI bg) p)).1.2.1 = 5 → (kd = 1 → ∃ u, u ≤ 3 ∧ ru = nI u) → full = false ∧ bg = true ∧ vRow (t4R tp n kd 999 0 999 ru (lnP tp n full (bI bg) p)) := by
    intro ru hn hu
    obtain ⟨a0, a1, a2, a3, a4⟩ := t4_ok (kd := kd) (ru := ru) hn
    have b := lnP_n5 a0
    obtain ⟨i1, j1, e1⟩ := inB_i (n := 2) (by omega) rfl a1
    obtain ⟨i2, j2, e2⟩ := inB_i (n := 999) (by omega) rfl a2
    obtain ⟨i3, j3, j3', e3⟩ := inB_i1 (n := 999) (by omega) rfl a3
    obtain ⟨i4, j4, e4⟩ := inB_i (n := 999) (by omega) rfl a4
    refine ⟨b.1, b.2.1, ?_, ⟨i1, by omega, e1⟩, ⟨i2, j2, e2⟩, fun z => ?_, fun _ => ⟨⟨i3, j3, j3', e3⟩, i4, j4, e4⟩, fun z => hu z⟩
    · rcases hk with z | z
      · exact Or.inl z
      · exact Or.inr (Or.inl z)
    · have z : kd = 2 := z
      rcases hk with w | w
      · rw [w] at z; exact absurd z (by decide)
      · rw [w] at z; exact absurd z (by decide)
  unfold trW
  rcases hk with rfl | rfl
  · rw [trP, if_neg (by decide)] at h
    rw [if_neg (by decide)]
    exact key (-2) h (fun z => absurd z (by decide))
  · rw [trP, if_pos rfl] at h
    rw [if_pos rfl]
    obtain ⟨h1, h2⟩ := rl_ok h
    exact key _ h1 (fun _ => h2)
theorem slP_ok {tp : Nat → Int32} {n : Nat} {full bg : Bool} {p : Psr} (h : ¬ (slP tp n full bg p).1.2.1 = 5) : full = false ∧ bg = true ∧ vRow (slW tp n full bg p) := by
  unfold slP at h
  unfold slW
  obtain ⟨a0, a1, a2, a3, a4⟩ := t4_ok (kd := 2) (ru := -2) h
  have b := lnP_n5 a0
  obtain ⟨i1, j1, e1⟩ := inB_i (n := 2) (by omega) rfl a1
  obtain ⟨i2, j2, e2⟩ := inB_i (n := 999) (by omega) rfl a2
  obtain ⟨i3, j3, j3', e3⟩ := inB_i1 (n := 9) (by omega) rfl a3
  obtain ⟨i4, j4, j4', e4⟩ := inB_i1 (n := 9) (by omega) rfl a4
  exact ⟨b.1, b.2.1, Or.inr (Or.inr rfl), ⟨i1, by omega, e1⟩, ⟨i2, j2, e2⟩, fun _ => ⟨⟨i3, j3, j3', e3⟩, i4, j4, j4', e4⟩, fun z => absurd rfl z, fun z => absurd (show (2 : Int32) = 1 from z) (by decide)⟩
