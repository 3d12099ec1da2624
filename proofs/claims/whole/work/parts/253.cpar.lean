/-! the class's reader: what stands where; words, numbers, faults -/
/-- behind y the class hasn't looked yet -/
def Pd (S : qS) (r n : Nat) (y : Psr) : Prop := gI S r 5 = nI y.1.1 ∧ y.1.1 ≤ n ∧ ¬ y.1.2.1 = 5
/-- the class stands at the token of p -/
def Tk (S : qS) (r : Nat) (tp : Nat → Int32) (n : Nat) (p : Psr) : Prop := CT S r p.1 ∧ ∃ y : Psr, ¬ y.1.2.1 = 5 ∧ y.1.1 ≤ n ∧ p = gon tp n y
/-- the class has answered b, the reference's parser is at P -/
def Ra (S : qS) (r : Nat) (tp : Nat → Int32) (n : Nat) (P : Psr) (b : Bool) : Prop := (b = false → P.1.2.1 = 5 ∧ gI S r 0 = P.2.1 ∧ gI S r 1 = P.2.2) ∧ (b = true → ∃ y, P = gon tp n y ∧ Pd S r n y)
theorem tokAt_k {tp : Nat → Int32} {n st : Nat} {nu : Int32} {wd : Int64} : (tokAt tp n st nu wd).2.1 = 0 ∨ (tokAt tp n st nu wd).2.1 = 1 ∨ (tokAt tp n st nu wd).2.1 = 2 ∨ (tokAt tp n st nu wd).2.1 = 3 ∨ (tokAt tp n st nu wd).2.1 = 4 := by
  unfold tokAt
  split
  · exact Or.inr (Or.inl rfl)
  · split
    · dsimp only
      split
      · exact Or.inl rfl
      · exact Or.inr (Or.inr (Or.inl rfl))
    · split
      · dsimp only
        split
        · exact Or.inl rfl
        · exact Or.inr (Or.inr (Or.inr (Or.inl rfl)))
      · split
        · exact Or.inr (Or.inr (Or.inr (Or.inr rfl)))
        · exact Or.inl rfl
theorem tokAt_pl {tp : Nat → Int32} {n st : Nat} {nu : Int32} {wd : Int64} : (tokAt tp n st nu wd).2.2.1 = st := by
  unfold tokAt
  split
  · rfl
  · split
    · rfl
    · split
      · rfl
      · split <;> rfl
theorem tok_word {tp : Nat → Int32} {n st : Nat} {nu : Int32} {wd : Int64} (hst : st ≤ n) (h2 : (tokAt tp n st nu wd).2.1 = 2) : st ≤ (tokAt tp n st nu wd).1 ∧ (tokAt tp n st nu wd).1 ≤ n ∧ (tokAt tp n st nu wd).1 - st ≤ 8 ∧ (tokAt tp n st nu wd).2.2.2.2 = wdG tp n st ((tokAt tp n st nu wd).1 - st) ∧ ∀ j, j < (tokAt tp n st nu wd).1 - st → ltB (byN tp n (st + j)) = true := by
  by_cases c1 : byN tp n st = -1
  · rw [tokAt, if_pos c1] at h2
    exact absurd (show (1 : Int32) = 2 from h2) (by decide)
  · by_cases c2 : ltB (byN tp n st) = true
    · rw [tokAt, if_neg c1, if_pos c2] at h2 ⊢
      dsimp only at h2 ⊢
      have l := lte_le (tp := tp) (n := n) (n - st) st (by omega)
      by_cases c8 : 8 < lte tp n (n - st) st - st
      · rw [if_pos c8] at h2
        exact absurd h2 (by decide)
      · exact ⟨l.2, l.1, by omega, rfl, fun j hj => lte_all (n - st) st (st + j) (by omega) (by omega)⟩
    · rw [tokAt, if_neg c1, if_neg c2] at h2
      split at h2
      · dsimp only at h2
        split at h2
        · exact absurd h2 (by decide)
        · exact absurd h2 (by decide)
      · split at h2
        · exact absurd (show (4 : Int32) = 2 from h2) (by decide)
        · exact absurd (show (0 : Int32) = 2 from h2) (by decide)
theorem kmp_1 {s : Int32} (h : s = 0 ∨ s = 1 ∨ s = 2 ∨ s = 3 ∨ s = 4) : (kmp s = 0 ↔ s = 1) ∧ (kmp s = 1 ↔ s = 2) ∧ (kmp s = 2 ↔ s = 3) ∧ (kmp s = 3 ↔ s = 4) := by
  rcases h with e | e | e | e | e <;> subst e <;> decide
section
variable {d : Nat} {A : qA} {S S' : qS} {r t a n : Nat} {tp : Nat → Int32} {p y P : Psr}
theorem gon_e (h : ¬ y.1.2.1 = 5) : gon tp n y = (tokAt tp n (skp tp n (n - y.1.1) y.1.1) y.1.2.2.2.1 y.1.2.2.2.2, y.2) := if_neg h
theorem Tk.k (h : Tk S r tp n p) : p.1.2.1 = 0 ∨ p.1.2.1 = 1 ∨ p.1.2.1 = 2 ∨ p.1.2.1 = 3 ∨ p.1.2.1 = 4 := by
  obtain ⟨-, y, h1, h2, e⟩ := h
  rw [e, gon_e h1]
  exact tokAt_k
theorem Tk.n5 (h : Tk S r tp n p) : ¬ p.1.2.1 = 5 := by
  obtain ⟨-, y, h1, h2, e⟩ := h
  rw [e, gon_e h1]
  exact tokAt_n5
theorem Tk.le (h : Tk S r tp n p) : p.1.1 ≤ n := by
  obtain ⟨-, y, h1, h2, e⟩ := h
  rw [e]
  exact gon_le h2
theorem Tk.pd (h : Tk S r tp n p) (h0 : ¬ p.1.2.1 = 0) : Pd S r n p := ⟨h.1.2.2.1 h0, h.le, h.n5⟩
theorem Tk.kd (h : Tk S r tp n p) : (gI S r 6 = 0 ↔ p.1.2.1 = 1) ∧ (gI S r 6 = 1 ↔ p.1.2.1 = 2) ∧ (gI S r 6 = 2 ↔ p.1.2.1 = 3) ∧ (gI S r 6 = 3 ↔ p.1.2.1 = 4) := by
  rw [h.1.2.1]
  exact kmp_1 h.k
theorem Tk.word (h : Tk S r tp n p) (h2 : p.1.2.1 = 2) : p.1.2.2.1 ≤ p.1.1 ∧ p.1.1 ≤ n ∧ p.1.1 - p.1.2.2.1 ≤ 8 ∧ p.1.2.2.2.2 = wdG tp n p.1.2.2.1 (p.1.1 - p.1.2.2.1) ∧ ∀ j, j < p.1.1 - p.1.2.2.1 → ltB (byN tp n (p.1.2.2.1 + j)) = true := by
  obtain ⟨-, y, h1, hy, e⟩ := h
  rw [e, gon_e h1] at h2 ⊢
  dsimp only at h2 ⊢
  rw [tokAt_pl]
  exact tok_word (skp_le _ _ (by omega)).1 h2
theorem Tk.ro (h : Tk S r tp n p) (e : ∀ k, gI S' r k = gI S r k) : Tk S' r tp n p := by
  obtain ⟨⟨h1, h2, h3, h4⟩, hy⟩ := h
  exact ⟨⟨(e _).trans h1, (e _).trans h2, fun z => (e _).trans (h3 z), fun z => (e _).trans (h4 z)⟩, hy⟩
theorem Pd.ro (h : Pd S r n y) (e : ∀ k, gI S' r k = gI S r k) : Pd S' r n y := ⟨(e _).trans h.1, h.2⟩
theorem Ra.ro {b : Bool} (h : Ra S r tp n P b) (e : ∀ k, gI S' r k = gI S r k) : Ra S' r tp n P b := ⟨fun z => ⟨(h.1 z).1, (e _).trans (h.1 z).2.1, (e _).trans (h.1 z).2.2⟩, fun z => by
  obtain ⟨y, h1, h2⟩ := h.2 z
  exact ⟨y, h1, h2.ro e⟩⟩
theorem ct_stepP {f : qS → Prop} (h : Rx A S r t a tp n) (hy : Pd S r n y) (hf : ∀ S', Tk S' r tp n (gon tp n y) → Ro S S' r → f S') : Run (d + 3) 48 [.ref r] A S (kV A f) := by
  refine ct_step h hy.1 hy.2.1 fun S' h1 l1 => hf S' ⟨?_, y, hy.2.2, hy.2.1, rfl⟩ l1
  rw [gon, if_neg hy.2.2]
  exact h1
set_option maxRecDepth 20000 in
theorem ct_faultHere {k : Int32} {f : Bool → qS → Prop} (hk0 : A.1 r = some (6, 0)) (h : Tk S r tp n p) (hf : ∀ S', Ra S' r tp n (flw k p) false → Ro S S' r → f false S') : Run (d + 1) 44 [.ref r, .int k] A S (kZ A f) := by
  refine Run.i (C := mX6_faultHere) rfl rfl rfl fun J hJ => ?_
  refine sX6_faultHere_0 hJ ⟨hk0, fun S1 e1 => ⟨hk0, hk0, fun S2 e2 => ⟨Or.inl rfl, kZ_0 (hf S2 ?_ ?_)⟩⟩⟩
  · refine ⟨fun _ => ⟨flw_5, ?_, ?_⟩, fun z => by cases z⟩
    · rw [flw, if_neg h.n5, e2, gI_uI, if_neg (by omega), e1, gI_uI, if_pos ⟨rfl, rfl⟩]
    · rw [flw, if_neg h.n5, e2, gI_uI, if_pos ⟨rfl, rfl⟩, e1, gI_uI, if_neg (by omega)]
      exact h.1.1
  · rw [e2, e1]
    exact (Ro.rf.uI (by omega)).uI (by omega)
set_option maxRecDepth 20000 in
theorem ct_rWord {q i : Nat} {f : Bool → qS → Prop} (h : Rx A S r t a tp n) (hp : Tk S r tp n p) (hq : A.1 q = some (20, i)) (hi : i < 13) (hf : f (wrd i p) S) : Run (d + 5) 47 [.ref r, .ref q] A S (kZ A f) := by
  refine Run.i (C := mX6_isWord) rfl rfl rfl fun J hJ => ?_
  have hk0 := h.1
  have hn := h.2.2.2.2.1
  have no : ¬ (p.1.2.1 = 2 ∧ p.1.2.2.2.2 = pkG i (slen i)) → kZ A f (some (.int 0)) A S := fun z => by
    rw [show wrd i p = false from decide_eq_false z] at hf
    exact kZ_0 hf
  have ho := str_let i hi
  refine sX6_isWord_0 hJ ⟨hk0, fun z => ⟨Or.inl rfl, no fun c => z (hp.kd.2.1.2 c.1)⟩, fun z => ⟨hk0, hk0, i, hq, wc rfl, ?_⟩⟩
  have h2 := hp.kd.2.1.1 z
  obtain ⟨w1, w2, w3, w4, w5⟩ := hp.word h2
  have hd := hp.pd (by rw [h2]; decide)
  have hweq := wd_eq hi w3 w5
  rw [hd.1, hp.1.1, nI_sub w1, nIeq (by omega) (by omega)]
  refine ⟨fun zl => ?_, fun zl => ⟨Or.inl rfl, no fun c => zl (hweq.1 (w4.symm.trans c.2)).1⟩⟩
  have loop : ∀ g j, j + g = slen i → (∀ j', j' < j → byN tp n (p.1.2.2.1 + j') = schr i j') → J 28 [some (.ref r), some (.ref q), some (.int (nI j))] [] A S := by
    intro g
    induction g with
    | zero =>
      intro j hj hall
      refine sX6_isWord_28 hJ ⟨i, hq, wc rfl, fun _ => ⟨Or.inr rfl, ?_⟩, fun z => absurd ((nIle (by omega) (by omega)).2 (by omega)) z⟩
      rw [show wrd i p = true from decide_eq_true ⟨h2, w4.trans (hweq.2 ⟨zl, fun j' hj' => hall j' (by omega)⟩)⟩] at hf
      exact kZ_1 hf
    | succ g ih =>
      intro j hj hall
      have hb : byN tp n (p.1.2.2.1 + j) = tp (p.1.2.2.1 + j) &&& 255 := if_pos (by omega)
      have hy := by_all (h.2.2.2.2.2.2.2.2 (p.1.2.2.1 + j))
      have hl := w5 j (by omega)
      rw [hb, hy.2.1] at hl
      have hb2 : byN tp n (p.1.2.2.1 + j) = tp (p.1.2.2.1 + j) := hb.trans (hy.2.2.2.2.2.1 hl)
      have ea : gI S r 4 + nI j = nI (p.1.2.2.1 + j) := by rw [hp.1.1, nI_add]
      have ht : gI S t (nI (p.1.2.2.1 + j)).toNatClampNeg = tp (p.1.2.2.1 + j) := by rw [cl_n (by omega)]; exact h.2.2.2.2.2.1 _ (by omega)
      refine sX6_isWord_28 hJ ⟨i, hq, wc rfl, fun z => absurd ((nIle (by omega) (by omega)).1 z) (by omega), fun _ => ⟨hk0, hk0, ?_⟩⟩
      rw [ea, h.2.2.2.1]
      refine ⟨fun z => absurd ((nIle (by omega) (by omega)).1 z) (by omega), fun _ => ⟨hk0, t, h.2.1, hk0, 900, h.2.2.1, vp_n (by omega) (by omega), i, hq, vp_n (by omega) (by omega), wc rfl, ?_⟩⟩
      rw [ht, cl_n (show j ≤ 100000 by omega), nI_1]
      refine ⟨fun zc => ih (j + 1) (by omega) fun j' hj' => ?_, fun zc => ⟨Or.inl rfl, no fun c => zc ?_⟩⟩
      · by_cases e : j' = j
        · rw [e]; exact hb2.trans zc
        · exact hall j' (by omega)
      · exact hb2.symm.trans ((hweq.1 (w4.symm.trans c.2)).2 j (by omega))
  exact loop (slen i) 0 (by omega) fun j hj => absurd hj (Nat.not_lt_zero _)
set_option maxRecDepth 20000 in
theorem ct_rWhole {lo hi : Int32} {f : Bool → qS → Prop} (h : Rx A S r t a tp n) (hy : Pd S r n y) (hf : ∀ b S', Ra S' r tp n (gon tp n (whP lo hi (gon tp n y))) b → (b = true → gI S' r 7 = whV lo hi (gon tp n y)) → Ro S S' r → f b S') : Run (d + 4) 43 [.ref r, .int lo, .int hi] A S (kZ A f) := by
  refine Run.i (C := mX6_readWhole) rfl rfl rfl fun J hJ => ?_
  have hk0 := h.1
  refine sX6_readWhole_0 hJ ⟨hk0, wc rfl, ct_stepP h hy fun S1 h1 l1 => ?_⟩
  generalize gon tp n y = p at h1 hf
  have bad : ∀ k S2, whP lo hi p = flw k p → Ra S2 r tp n (flw k p) false → Ro S1 S2 r → f false S2 := by
    intro k S2 e h2 l2
    refine hf false S2 ?_ (fun z => by cases z) (l1.trans l2)
    rw [e, gon_id flw_5]
    exact h2
  refine ⟨hk0, fun z => ⟨hk0, ?_⟩, fun z => ⟨hk0, wc rfl, ct_faultHere hk0 h1 fun S2 h2 l2 => ⟨Or.inl rfl, kZ_0 (bad 1 S2 ?_ h2 l2)⟩⟩⟩
  · have e3 := h1.kd.2.2.1.1 z
    have ev := h1.1.2.2.2 e3
    rw [ev]
    refine ⟨fun z1 => ⟨hk0, wc rfl, ct_faultHere hk0 h1 fun S2 h2 l2 => ⟨fun _ => ⟨Or.inl rfl, kZ_0 (bad 4 S2 ?_ h2 l2)⟩, fun c => absurd rfl c⟩⟩, fun z1 => ⟨hk0, fun z2 => ⟨Or.inr rfl, kZ_1 (hf true S1 ?_ (fun _ => ?_) l1)⟩, fun z2 => ⟨hk0, wc rfl, ct_faultHere hk0 h1 fun S2 h2 l2 => ⟨fun _ => ⟨Or.inl rfl, kZ_0 (bad 4 S2 ?_ h2 l2)⟩, fun c => absurd rfl c⟩⟩⟩⟩
    · rw [whP, if_pos e3, if_neg (fun c => (of_decide_eq_true c).1 z1)]
    · have c : inB p.1.2.2.2.1 lo hi = true := decide_eq_true ⟨z1, Int32.not_lt.mpr z2⟩
      rw [whP, if_pos e3, if_pos c]
      exact ⟨fun z => by (cases z), fun _ => ⟨p, rfl, h1.pd (by rw [e3]; decide)⟩⟩
    · have c : inB p.1.2.2.2.1 lo hi = true := decide_eq_true ⟨z1, Int32.not_lt.mpr z2⟩
      rw [whV, if_pos ⟨e3, c⟩]
      exact ev
    · rw [whP, if_pos e3, if_neg (fun c => (of_decide_eq_true c).2 (Int32.not_le.mp z2))]
  · rw [whP, if_neg (fun c => z (h1.kd.2.2.1.2 c))]
def srV (p : Psr) : Int32 := if wrd 6 p = true then 0 else if wrd 7 p = true then 1 else if wrd 8 p = true then 2 else -1
set_option maxRecDepth 20000 in
theorem ct_sortByWord {f : Int32 → qS → Prop} (h : Rx A S r t a tp n) (hp : Tk S r tp n p) (hf : f (srV p) S) : Run (d + 6) 45 [.ref r] A S (kI A f) := by
  refine Run.i (C := mX6_sortByWord) rfl rfl rfl fun J hJ => ?_
  have hk0 := h.1
  unfold srV at hf
  refine sX6_sortByWord_0 hJ fun q1 e1 => ⟨hk0, wc rfl, ct_rWord h hp e1 (by decide) (q_eqb (fun c1 => fun q2 e2 => ⟨hk0, wc rfl, ct_rWord h hp e2 (by decide) (q_eqb (fun c2 => fun q3 e3 => ⟨hk0, wc rfl, ct_rWord h hp e3 (by decide) (q_eqb (fun c3 => kI_i ?_) (fun c3 => kI_i ?_))⟩) (fun c2 => kI_i ?_))⟩) (fun c1 => kI_i ?_))⟩
  · rw [c1, c2, c3] at hf; exact hf
  · rw [c1, c2, c3] at hf; exact hf
  · rw [c1, c2] at hf; exact hf
  · rw [c1] at hf; exact hf
set_option maxRecDepth 20000 in
theorem ct_ruleByWord {f : Int32 → qS → Prop} (h : Rx A S r t a tp n) (hp : Tk S r tp n p) (hf : f (rlV p) S) : Run (d + 6) 46 [.ref r] A S (kI A f) := by
  refine Run.i (C := mX6_ruleByWord) rfl rfl rfl fun J hJ => ?_
  have hk0 := h.1
  unfold rlV at hf
  refine sX6_ruleByWord_0 hJ fun q1 e1 => ⟨hk0, wc rfl, ct_rWord h hp e1 (by decide) (q_eqb (fun c1 => fun q2 e2 => ⟨hk0, wc rfl, ct_rWord h hp e2 (by decide) (q_eqb (fun c2 => fun q3 e3 => ⟨hk0, wc rfl, ct_rWord h hp e3 (by decide) (q_eqb (fun c3 => fun q4 e4 => ⟨hk0, wc rfl, ct_rWord h hp e4 (by decide) (q_eqb (fun c4 => kI_i ?_) (fun c4 => kI_i ?_))⟩) (fun c3 => kI_i ?_))⟩) (fun c2 => kI_i ?_))⟩) (fun c1 => kI_i ?_))⟩
  · rw [c1, c2, c3, c4] at hf; exact hf
  · rw [c1, c2, c3, c4] at hf; exact hf
  · rw [c1, c2, c3] at hf; exact hf
  · rw [c1, c2] at hf; exact hf
  · rw [c1] at hf; exact hf
end
