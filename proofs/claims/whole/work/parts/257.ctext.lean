/-! the class's reader: any line, a text -/
theorem bI_or (b : Bool) : bI b = 0 ∨ bI b = 1 := by cases b; exact Or.inl rfl; exact Or.inr rfl
section
variable {d : Nat} {A : qA} {S S' S'' : qS} {r t a n : Nat} {tp : Nat → Int32} {p y P : Psr} {bg : Bool} {td : Tld}
theorem t5_tr {kd : Int32} (hk : kd = 0 ∨ kd = 1) : t5P tp n kd (lnP tp n (fuK kd td) (bI bg) p) = trP tp n kd (fuT td) bg p ∧ t5R tp n kd (lnP tp n (fuK kd td) (bI bg) p) = trW tp n kd (fuT td) bg p := by
  have n2 : ¬ kd = 2 := by
    rcases hk with e | e <;> rw [e] <;> decide
  unfold t5P t5R trP trW fuK hiS loP
  rw [if_neg n2, if_neg n2, if_neg n2]
  exact ⟨rfl, rfl⟩
theorem t5_sl : t5P tp n 2 (lnP tp n (fuK 2 td) (bI bg) p) = slP tp n (fuS td) bg p ∧ t5R tp n 2 (lnP tp n (fuK 2 td) (bI bg) p) = slW tp n (fuS td) bg p := by
  unfold t5P t5R slP slW fuK hiS loP
  rw [if_pos rfl, if_pos rfl, if_pos rfl, if_neg (by decide), if_neg (by decide)]
  exact ⟨rfl, rfl⟩
theorem ln0 : lnP tp n false (bI false) p = flw 6 p := by
  rw [lnP, if_pos (show bI false = 0 from rfl), lnF, if_neg (by decide), gon_id flw_5]
/-- a line ahead of the first -/
theorem li_lack (c0 : wrd 0 p = false) (hw : wrd 6 p = true ∨ wrd 7 p = true ∨ wrd 8 p = true ∨ wrd 1 p = true ∨ wrd 2 p = true) : liP tp n false td0 p = flw 6 p ∧ liT tp n false td0 p = td0 := by
  have f1 : fuT td0 = false := rfl
  have f2 : fuS td0 = false := rfl
  have f3 : fuU td0 = false := rfl
  have f4 : fuG td0 = false := rfl
  have p0 : trP tp n 0 false false p = flw 6 p := by rw [trP, if_neg (by decide), ln0, t4P_id flw_5]
  have p1 : trP tp n 1 false false p = flw 6 p := by rw [trP, if_pos rfl, ln0, t4P_id flw_5, rlP_id flw_5]
  have p2 : slP tp n false false p = flw 6 p := by rw [slP, ln0, t4P_id flw_5]
  have p3 : usP tp n false false td0 p = flw 6 p := by rw [usP, us2, ln0, tdP_id flw_5, stP_id flw_5, gon_id flw_5, whP_id flw_5, gon_id flw_5]
  have p4 : gnP tp n false false td0 p = flw 6 p := by rw [gnP, gn2, ln0, tdP_id flw_5, stP_id flw_5, gon_id flw_5, udP_id flw_5, gon_id flw_5, whP_id flw_5, gon_id flw_5]
  unfold liP liT
  rw [c0, f1, f2, f3, f4, p0, p1, p2, p3, p4]
  have r0 : ∀ x, rwT (flw 6 p) x td0 = td0 := fun x => if_pos flw_5
  have u0 : ∀ x, usT (flw 6 p) x td0 = td0 := fun x => if_pos flw_5
  have g0 : ∀ x, gnT (flw 6 p) x td0 = td0 := fun x => if_pos flw_5
  rw [r0, r0, r0, u0, g0]
  cases c6 : wrd 6 p
  · cases c7 : wrd 7 p
    · cases c8 : wrd 8 p
      · cases c1 : wrd 1 p
        · cases c2 : wrd 2 p
          · rw [c6, c7, c8, c1, c2] at hw
            exact absurd hw (by decide)
          · exact ⟨rfl, rfl⟩
        · exact ⟨rfl, rfl⟩
      · exact ⟨rfl, rfl⟩
    · exact ⟨rfl, rfl⟩
  · exact ⟨rfl, rfl⟩
theorem liB_0 (c0 : wrd 0 p = false) : liB tp n bg p = bg := by rw [liB, if_neg (by rw [c0]; decide)]
set_option maxRecDepth 20000 in
set_option maxHeartbeats 1000000 in
theorem ct_rLine {f : Bool → qS → Prop} (h : Rx A S r t a tp n) (hd : Rd r t a) (hp : Tk S r tp n p) (hT : TdF A S a bg td) (ht : iTd bg td) (hf : ∀ b S', Ra S' r tp n (liP tp n bg td p) b → TdF A S' a (liB tp n bg p) (liT tp n bg td p) → Rz S S' r a → f b S') : Run (d + 8) 38 [.ref r] A S (kZ A f) := by
  refine Run.i (C := mX6_readLine) rfl rfl rfl fun J hJ => ?_
  have hk0 := h.1
  have ka := hT.2.1.1
  have ra := h.2.2.2.2.2.2.1
  have form : wrd 0 p = false → wrd 6 p = false → wrd 7 p = false → wrd 8 p = false → wrd 1 p = false → wrd 2 p = false → ∀ S1, Ra S1 r tp n (flw 1 p) false → Ro S S1 r → f false S1 := by
    intro c0 c6 c7 c8 c1 c2 S1 h1 l1
    have := hf false S1
    unfold liP liB liT at this
    rw [c0, c6, c7, c8, c1, c2] at this
    exact this h1 (hT.ro l1 hd) l1.rz
  have lack : bg = false → wrd 0 p = false → (wrd 6 p = true ∨ wrd 7 p = true ∨ wrd 8 p = true ∨ wrd 1 p = true ∨ wrd 2 p = true) → ∀ S1, Ra S1 r tp n (flw 6 p) false → Ro S S1 r → f false S1 := by
    intro hb c0 hw S1 h1 l1
    subst hb
    have e0 := ht.2 rfl
    subst e0
    have := hf false S1
    rw [(li_lack c0 hw).1, (li_lack c0 hw).2, liB_0 c0] at this
    exact this h1 (hT.ro l1 hd) l1.rz
  have hw0 : (gI S a 0 = 0 → bg = false) ∧ (¬ gI S a 0 = 0 → bg = true) := by
    rw [hT.1]
    exact q_eqb id id
  refine sX6_readLine_0 hJ ⟨hk0, fun z => ?_, fun z => ?_⟩
  · have h2 := hp.kd.2.1.1 z
    refine fun q1 e1 => ⟨hk0, wc rfl, ct_rWord h hp e1 (by decide) (q_eqb (fun c0 => ⟨hk0, wc rfl, ct_sortByWord h hp fun q6 e6 => ⟨hk0, wc rfl, ct_rWord h hp e6 (by decide) ?_⟩⟩) (fun c0 => ⟨hk0, wc rfl, ct_readWindow h hd hp h2 hT fun b S1 g1 t1 l1 => ⟨bI_or b, kZ_i (hf b S1 ?_ ?_ l1)⟩⟩))⟩
    · have any : 0 ≤ srV p → (wrd 6 p = true ∨ wrd 7 p = true ∨ wrd 8 p = true ∨ wrd 1 p = true ∨ wrd 2 p = true) := by
        intro z0
        unfold srV at z0
        cases c6 : wrd 6 p
        · cases c7 : wrd 7 p
          · cases c8 : wrd 8 p
            · rw [c6, c7, c8] at z0
              exact absurd z0 (by decide)
            · exact Or.inr (Or.inr (Or.inl rfl))
          · exact Or.inr (Or.inl rfl)
        · exact Or.inl rfl
      have none' : ¬ 0 ≤ srV p → wrd 6 p = false ∧ wrd 7 p = false ∧ wrd 8 p = false := by
        intro z0
        unfold srV at z0
        cases c6 : wrd 6 p
        · cases c7 : wrd 7 p
          · cases c8 : wrd 8 p
            · exact ⟨rfl, rfl, rfl⟩
            · rw [c6, c7, c8] at z0
              exact absurd (show (0 : Int32) ≤ 2 by decide) z0
          · rw [c6, c7] at z0
            exact absurd (show (0 : Int32) ≤ 1 by decide) z0
        · rw [c6] at z0
          exact absurd (show (0 : Int32) ≤ 0 by decide) z0
      have trade : 0 ≤ srV p → bg = true → ∀ b S1, Ra S1 r tp n (t5P tp n (srV p) (lnP tp n (fuK (srV p) td) (bI true) p)) b → TdF A S1 a true (rwT (t5P tp n (srV p) (lnP tp n (fuK (srV p) td) (bI true) p)) (t5R tp n (srV p) (lnP tp n (fuK (srV p) td) (bI true) p)) td) → Rz S S1 r a → f b S1 := by
        intro z0 hb b S1 g1 t1 l1
        subst hb
        have hf1 := hf b S1
        rw [liB_0 c0] at hf1
        unfold liP liT at hf1
        rw [c0] at hf1
        unfold srV at g1 t1 z0
        cases c6 : wrd 6 p
        · cases c7 : wrd 7 p
          · cases c8 : wrd 8 p
            · rw [c6, c7, c8] at z0
              exact absurd z0 (by decide)
            · rw [c6, c7, c8] at hf1 g1 t1
              simp only [Bool.false_eq_true, if_false, if_true] at hf1 g1 t1
              rw [t5_sl.1] at g1 t1
              rw [t5_sl.2] at t1
              exact hf1 g1 t1 l1
          · rw [c6, c7] at hf1 g1 t1
            simp only [Bool.false_eq_true, if_false, if_true] at hf1 g1 t1
            rw [(t5_tr (Or.inr rfl)).1] at g1 t1
            rw [(t5_tr (Or.inr rfl)).2] at t1
            exact hf1 g1 t1 l1
        · rw [c6] at hf1 g1 t1
          simp only [Bool.false_eq_true, if_false, if_true] at hf1 g1 t1
          rw [(t5_tr (Or.inl rfl)).1] at g1 t1
          rw [(t5_tr (Or.inl rfl)).2] at t1
          exact hf1 g1 t1 l1
      have unsure : ¬ 0 ≤ srV p → bg = true → wrd 1 p = true → ∀ b S1, Ra S1 r tp n (usP tp n (fuU td) true td p) b → TdF A S1 a true (usT (usP tp n (fuU td) true td p) (usX tp n (fuU td) true td p) td) → Rz S S1 r a → f b S1 := by
        intro z0 hb c1 b S1 g1 t1 l1
        subst hb
        obtain ⟨c6, c7, c8⟩ := none' z0
        have hf1 := hf b S1
        rw [liB_0 c0] at hf1
        unfold liP liT at hf1
        rw [c0, c6, c7, c8, c1] at hf1
        simp only [Bool.false_eq_true, if_false, if_true] at hf1
        exact hf1 g1 t1 l1
      have gain : ¬ 0 ≤ srV p → bg = true → wrd 1 p = false → wrd 2 p = true → ∀ b S1, Ra S1 r tp n (gnP tp n (fuG td) true td p) b → TdF A S1 a true (gnT (gnP tp n (fuG td) true td p) (gnX tp n (fuG td) true td p) td) → Rz S S1 r a → f b S1 := by
        intro z0 hb c1 c2 b S1 g1 t1 l1
        subst hb
        obtain ⟨c6, c7, c8⟩ := none' z0
        have hf1 := hf b S1
        rw [liB_0 c0] at hf1
        unfold liP liT at hf1
        rw [c0, c6, c7, c8, c1, c2] at hf1
        simp only [Bool.false_eq_true, if_false, if_true] at hf1
        exact hf1 g1 t1 l1
      have tru : bg = true → TdF A S a true td := fun e => by rw [← e]; exact hT
      refine ⟨fun zr => ⟨hk0, a, ra, ka, fun zw => ⟨fun zn => absurd zr (Int32.not_le.mpr zn), fun zn => ⟨hk0, wc rfl, ct_rTrade h hd hp h2 (tru (hw0.2 zw)) ht.1 fun b S1 g1 t1 l1 => ⟨bI_or b, kZ_i (trade zr (hw0.2 zw) b S1 g1 t1 l1)⟩⟩⟩, fun zw => ⟨hk0, wc rfl, ct_faultHere hk0 hp fun S1 g1 l1 => ⟨Or.inl rfl, kZ_0 (lack (hw0.1 zw) c0 (any zr) S1 g1 l1)⟩⟩⟩, fun zr => And.symm (q_eqb (fun c1 => fun q2 e2 => ⟨hk0, wc rfl, ct_rWord h hp e2 (by decide) (And.symm (q_eqb (fun c2 => ⟨hk0, wc rfl, ct_faultHere hk0 hp fun S1 g1 l1 => ⟨Or.inl rfl, kZ_0 (form c0 (none' zr).1 (none' zr).2.1 (none' zr).2.2 c1 c2 S1 g1 l1)⟩⟩) (fun c2 => ⟨hk0, a, ra, ka, fun zw => ⟨fun zn => ⟨fun _ => ⟨hk0, wc rfl, ct_rGain h hd hp h2 (tru (hw0.2 zw)) ht.1 fun b S1 g1 t1 l1 => ⟨bI_or b, kZ_i (gain zr (hw0.2 zw) c1 c2 b S1 g1 t1 l1)⟩⟩, fun zu => absurd (by rw [c1]; rfl) zu⟩, fun zn => absurd (Int32.not_le.mp zr) zn⟩, fun zw => ⟨hk0, wc rfl, ct_faultHere hk0 hp fun S1 g1 l1 => ⟨Or.inl rfl, kZ_0 (lack (hw0.1 zw) c0 (Or.inr (Or.inr (Or.inr (Or.inr c2)))) S1 g1 l1)⟩⟩⟩)))⟩) (fun c1 => ⟨hk0, a, ra, ka, fun zw => ⟨fun zn => ⟨fun zu => absurd zu (by rw [c1]; decide), fun _ => ⟨hk0, wc rfl, ct_rUnsure h hd hp h2 (tru (hw0.2 zw)) ht.1 fun b S1 g1 t1 l1 => ⟨bI_or b, kZ_i (unsure zr (hw0.2 zw) c1 b S1 g1 t1 l1)⟩⟩⟩, fun zn => absurd (Int32.not_le.mp zr) zn⟩, fun zw => ⟨hk0, wc rfl, ct_faultHere hk0 hp fun S1 g1 l1 => ⟨Or.inl rfl, kZ_0 (lack (hw0.1 zw) c0 (Or.inr (Or.inr (Or.inr (Or.inl c1)))) S1 g1 l1)⟩⟩⟩))⟩
    · rw [liP, if_pos c0]; exact g1
    · rw [liB, liT, if_pos c0, if_pos c0]; exact t1
  · have w : ∀ i, wrd i p = false := fun i => decide_eq_false (fun c => z (hp.kd.2.1.2 c.1))
    exact ⟨hk0, wc rfl, ct_faultHere hk0 hp fun S1 g1 l1 => ⟨Or.inl rfl, kZ_0 (form (w 0) (w 6) (w 7) (w 8) (w 1) (w 2) S1 g1 l1)⟩⟩
theorem liP_bg (h : ¬ (liP tp n bg td p).1.2.1 = 5) : liB tp n bg p = true := by
  unfold liP at h
  unfold liB
  cases c0 : wrd 0 p
  · rw [if_neg (by decide)]
    rw [c0, if_neg (by decide)] at h
    cases c6 : wrd 6 p
    · rw [c6, if_neg (by decide)] at h
      cases c7 : wrd 7 p
      · rw [c7, if_neg (by decide)] at h
        cases c8 : wrd 8 p
        · rw [c8, if_neg (by decide)] at h
          cases c1 : wrd 1 p
          · rw [c1, if_neg (by decide)] at h
            cases c2 : wrd 2 p
            · rw [c2, if_neg (by decide)] at h
              exact absurd flw_5 h
            · rw [c2, if_pos rfl] at h
              exact (gnP_ok h).2.1
          · rw [c1, if_pos rfl] at h
            exact (usP_ok h).2.1
        · rw [c8, if_pos rfl] at h
          exact (slP_ok h).2.1
      · rw [c7, if_pos rfl] at h
        exact (trP_ok (Or.inr rfl) h).2.1
    · rw [c6, if_pos rfl] at h
      exact (trP_ok (Or.inl rfl) h).2.1
  · rw [c0, if_pos rfl] at h
    rw [if_pos rfl, ldB, if_neg h]
theorem tok_end (hb : ∀ k, isBy (tp k)) (h1 : p.1.2.1 = 1) (hy : ¬ y.1.2.1 = 5) (hl : y.1.1 ≤ n) (e : p = gon tp n y) : p.1.2.2.1 = n := by
  rw [gon_e hy] at e
  have sl := (skp_le (tp := tp) (n := n) (n - y.1.1) y.1.1 (by omega)).1
  generalize skp tp n (n - y.1.1) y.1.1 = st at e sl
  rw [e] at h1 ⊢
  dsimp only at h1 ⊢
  rw [tokAt_pl]
  by_cases c : st < n
  · have hbn : byN tp n st = tp st &&& 255 := if_pos c
    have n1 : ¬ byN tp n st = -1 := by rw [hbn]; exact (by_all (hb st)).2.2.2.2.1
    rw [tokAt, if_neg n1] at h1
    split at h1
    · dsimp only at h1
      split at h1
      · exact absurd h1 (by decide)
      · exact absurd h1 (by decide)
    · split at h1
      · dsimp only at h1
        split at h1
        · exact absurd h1 (by decide)
        · exact absurd h1 (by decide)
      · split at h1
        · exact absurd (show (4 : Int32) = 1 from h1) (by decide)
        · exact absurd (show (0 : Int32) = 1 from h1) (by decide)
  · omega
theorem exR_id {R : Psr × Bool × Tld} (h : R.1.1.2.1 = 5) : exR R = R.1 := by
  have e1 : ex1 R.1 = R.1 := by rw [ex1, if_neg (by rw [h]; decide), flw_id h]
  have e2 : ex2 R.2.1 R.1 = R.1 := by rw [ex2, e1, flw_id h, ite_self]
  rw [exR, e2, ex3, if_pos h]
theorem exR_1 {R : Psr × Bool × Tld} (h : ¬ R.1.1.2.1 = 1) : exR R = flw 1 R.1 := by
  have e1 : ex1 R.1 = flw 1 R.1 := by rw [ex1, if_neg h]
  have e2 : ex2 R.2.1 R.1 = flw 1 R.1 := by rw [ex2, e1, flw_id flw_5, ite_self]
  rw [exR, e2, ex3, if_pos flw_5]
/-- what the class has at the end of a text -/
def Rt (A : qA) (S : qS) (r a n : Nat) (R : Psr × Bool × Tld) (b : Bool) : Prop := (b = false → (exR R).1.2.1 = 5 ∧ gI S r 0 = (exR R).2.1 ∧ gI S r 1 = (exR R).2.2) ∧ (b = true → R.1.1.2.1 = 1 ∧ R.1.1.2.2.1 = n ∧ R.2.1 = true) ∧ TdF A S a R.2.1 R.2.2 ∧ iTd R.2.1 R.2.2
def Rq (S S' : qS) (r a : Nat) : Prop := ∀ b, ¬ b = r → ¬ (a ≤ b ∧ b < a + 12) → ∀ k, gI S' b k = gI S b k ∧ gL S' b k = gL S b k ∧ gR S' b k = gR S b k
theorem Rq.trans (h : Rq S S' r a) (h' : Rq S' S'' r a) : Rq S S'' r a := fun b c1 c2 k => ⟨(h' b c1 c2 k).1.trans (h b c1 c2 k).1, (h' b c1 c2 k).2.1.trans (h b c1 c2 k).2.1, (h' b c1 c2 k).2.2.trans (h b c1 c2 k).2.2⟩
theorem Rz.q (h : Rz S S' r a) : Rq S S' r a := fun b c1 c2 k => ⟨(h b k c2).1 (fun z => c1 z.1), (h b k c2).2⟩
theorem Ro.q (h : Ro S S' r) : Rq S S' r a := h.rz.q
set_option maxRecDepth 20000 in
theorem ct_readText {nu : Int32} {wd : Int64} {wr : Int32} {td' : Tld} {f : Bool → qS → Prop} (hk0 : A.1 r = some (6, 0)) (kt : A.1 t = some (12, 900)) (hn : n ≤ 900) (htp : ∀ k, k < 900 → gI S t k = tp k) (hby : ∀ k, isBy (tp k)) (htr : ¬ t = r) (hd : Rd r t a) (hT : TdAt A S a td') (hf : ∀ b S', Rt A S' r a n (txR tp n nu wd wr) b → Rq S S' r a → f b S') : Run (d + 9) 37 [.ref r, .ref t, .int (nI n), .ref a] A S (kZ A f) := by
  refine Run.i (C := mX6_readText) rfl rfl rfl fun J hJ => ?_
  have ka := hT.1.1
  unfold txR at hf
  have loop : ∀ g j y bg td Sj (w1 w2 w3 : Option Value), Rx A Sj r t a tp n → Pd Sj r n y → j ≤ y.1.1 → n < (gon tp n y).1.1 + g → TdF A Sj a bg td → iTd bg td → Rq S Sj r a → (∀ b S', Rt A S' r a n (raG tp n g (gon tp n y) bg td) b → Rq S S' r a → f b S') → J 35 [some (.ref r), w1, w2, w3, some (.int (nI j))] [] A Sj := by
    intro g
    induction g with
    | zero =>
      intro j y bg td Sj w1 w2 w3 hx hy hj hg
      have := gon_le (tp := tp) hy.2.1
      omega
    | succ g ih =>
      intro j y bg td Sj w1 w2 w3 hx hy hj hg hTj htj lq hf
      have hyn := hy.2.1
      refine sX6_readText_35 hJ ⟨hk0, fun z => ?_, fun z => ⟨hk0, wc rfl, ct_stepP hx hy fun S1 h1 l1 => ⟨hk0, wc rfl, ?_⟩⟩⟩
      · rw [hx.2.2.2.1, nIlt (by omega) (by omega)] at z
        omega
      · have yg := (gon_ge (tp := tp) hyn).1
        have yl := gon_le (tp := tp) hyn
        have hx1 := hx.ro l1
        have t2 := htj.li (tp := tp) (n := n) (p := gon tp n y)
        generalize gon tp n y = p at h1 hf hg yg yl t2
        have P4 := liP_4 (tp := tp) (bg := bg) (td := td) yl
        have Pb := liP_bg (tp := tp) (n := n) (bg := bg) (td := td) (p := p)
        have Pl := liP_le (tp := tp) (bg := bg) (td := td) yl
        unfold raG at hf
        refine ct_rLine hx1 hd h1 (hTj.ro l1 hd) htj fun b S2 g2 T2 l2 => ?_
        generalize liP tp n bg td p = P at g2 hf P4 Pb Pl
        generalize liB tp n bg p = B2 at hf T2 t2 Pb
        generalize liT tp n bg td p = D2 at hf T2 t2
        have q2 : Rq S S2 r a := (lq.trans l1.q).trans l2.q
        have hx2 := hx1.rz l2 hd
        refine And.symm (q_eqb (fun cb => ⟨Or.inl rfl, kZ_0 ?_⟩) (fun cb => ?_))
        · subst cb
          have o := g2.over
          rw [if_neg (by rw [o]; decide)] at hf
          refine hf false S2 ⟨fun _ => ?_, fun z => by (cases z), T2, t2⟩ q2
          rw [exR_id (R := (P, B2, D2)) o]
          exact g2.1 rfl
        · subst cb
          obtain ⟨y2, ey2, hy2⟩ := g2.2 rfl
          refine ⟨hk0, wc rfl, ct_stepP hx2 hy2 fun S3 h3 l3 => ?_⟩
          rw [← ey2] at h3
          have q3 := q2.trans l3.q
          have T3 := T2.ro l3 hd
          refine ⟨hk0, fun z0 => ⟨hk0, fun z3 => ?_, fun z3 => ⟨hk0, wc rfl, ct_faultHere hk0 h3 fun S4 g4 l4 => ⟨Or.inl rfl, kZ_0 ?_⟩⟩⟩, fun z0 => ⟨Or.inr rfl, kZ_1 ?_⟩⟩
          · have s4 := h3.kd.2.2.2.1 z3
            rw [if_pos s4] at hf
            rw [nI_1]
            have := P4 s4
            have := (gon_ge (tp := tp) Pl).1
            exact ih (j + 1) P B2 D2 S3 _ _ _ (hx2.ro l3) (h3.pd (by rw [s4]; decide)) (by omega) (by omega) T3 t2 q3 hf
          · have n4 : ¬ P.1.2.1 = 4 := fun c => z3 (h3.kd.2.2.2.2 c)
            have n1 : ¬ P.1.2.1 = 1 := fun c => z0 (h3.kd.1.2 c)
            rw [if_neg n4] at hf
            refine hf false S4 ⟨fun _ => ?_, fun z => by (cases z), T3.ro l4 hd, t2⟩ (q3.trans l4.q)
            rw [exR_1 (R := (P, B2, D2)) n1]
            exact g4.1 rfl
          · have s1 := h3.kd.1.1 z0
            rw [if_neg (by rw [s1]; decide)] at hf
            exact hf true S3 ⟨fun z => by (cases z), fun _ => ⟨s1, tok_end hby s1 hy2.2.2 hy2.2.1 ey2, Pb (by rw [s1]; decide)⟩, T3, t2⟩ q3
  obtain ⟨d1, d2⟩ := hd
  refine sX6_readText_0 hJ ⟨hk0, fun S1 e1 => ⟨900, kt, wc rfl, hk0, fun S3 e3 => ⟨hk0, fun S4 e4 => ⟨hk0, a, by rw [e4, gR_uR, if_pos ⟨rfl, rfl⟩], ka, wc rfl, ?_⟩⟩⟩⟩
  rw [if_neg (by rw [nIlt (by omega) (by omega)]; omega)] at e3
  have s4 : ∀ b, ¬ b = r → ∀ k, gI S4 b k = gI S b k ∧ gL S4 b k = gL S b k ∧ gR S4 b k = gR S b k := by
    intro b hb k
    rw [e4, e3, e1]
    exact ⟨by rw [gI_uR, gI_uI, if_neg (fun z => hb z.1), gI_uR], rfl, by rw [gR_uR, if_neg (fun z => hb z.1), gR_uI, gR_uR, if_neg (fun z => hb z.1)]⟩
  have f4 : Fr S S4 r (r + 1) := fun b hb k => s4 b (by omega) k
  refine ct_forgetAll (hT.cel (fun b b1 b2 k => s4 b (by omega) k) f4) fun S6 h6 f6 => ⟨hk0, fun S7 e7 => ?_⟩
  have g6 : ∀ k, gI S6 r k = gI S4 r k ∧ gL S6 r k = gL S4 r k ∧ gR S6 r k = gR S4 r k := fun k => f6 r (by omega) k
  have q7 : Rq S S7 r a := by
    intro b c1 c2 k
    rw [e7]
    exact ⟨by rw [gI_uI, if_neg (fun z => c1 z.1)]; exact (f6 b (by omega) k).1.trans (s4 b c1 k).1, (f6 b (by omega) k).2.1.trans (s4 b c1 k).2.1, (f6 b (by omega) k).2.2.trans (s4 b c1 k).2.2⟩
  have r7 : ∀ k, gR S7 r k = gR S4 r k := fun k => by rw [e7]; exact (g6 k).2.2
  have x7 : Rx A S7 r t a tp n := by
    refine ⟨hk0, ?_, kt, ?_, hn, fun k hk => ?_, ?_, htr, hby⟩
    · rw [r7, e4, gR_uR, if_neg (by omega), e3, gR_uI, e1, gR_uR, if_pos ⟨rfl, rfl⟩]
    · rw [e7, gI_uI, if_neg (by omega), (g6 3).1, e4, gI_uR, e3, gI_uI, if_pos ⟨rfl, rfl⟩]
    · rw [(q7 t htr (by omega) k).1]; exact htp k hk
    · rw [r7, e4, gR_uR, if_pos ⟨rfl, rfl⟩]
  have T7 : TdF A S7 a false td0 := h6.cel (lo := r) (hi := r + 1) (fun b b1 b2 k => by rw [e7]; exact ⟨by rw [gI_uI, if_neg (by omega)], rfl, rfl⟩) (fun b hb k => by rw [e7]; exact ⟨by rw [gI_uI, if_neg (by omega)], rfl, rfl⟩)
  refine loop (n + 1) 0 ((0, 0, 0, nu, wd), 0, wr) false td0 S7 _ _ _ x7 ⟨by rw [e7, gI_uI, if_pos ⟨rfl, rfl⟩]; rfl, Nat.zero_le _, show ¬ (0 : Int32) = 5 by decide⟩ (Nat.zero_le _) (by omega) T7 iTd0 q7 fun b S' h1 l1 => hf b S' ?_ l1
  rw [show gon tp n ((0, 0, 0, nu, wd), 0, wr) = (tokN tp n (0, 0, 0, nu, wd), 0, wr) from if_neg (show ¬ (0 : Int32) = 5 by decide)] at h1
  exact h1
end
