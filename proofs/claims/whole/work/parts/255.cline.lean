/-! the class's reader: lines -/
def Rd (r t a : Nat) : Prop := (r < a ∨ a + 12 ≤ r) ∧ (t < a ∨ a + 12 ≤ t)
/-- nothing but the reader's ints and what is told changed -/
def Rz (S S' : qS) (r a : Nat) : Prop := ∀ b k, ¬ (a ≤ b ∧ b < a + 12) → (¬ (b = r ∧ (k < 2 ∨ 4 ≤ k ∧ k ≤ 7)) → gI S' b k = gI S b k) ∧ gL S' b k = gL S b k ∧ gR S' b k = gR S b k
section
variable {d : Nat} {A : qA} {S S' S'' : qS} {r t a n : Nat} {tp : Nat → Int32} {p y P : Psr} {bg : Bool} {td : Tld}
theorem Rz.rf : Rz S S r a := fun _ _ _ => ⟨fun _ => rfl, rfl, rfl⟩
theorem Rz.trans (h : Rz S S' r a) (h' : Rz S' S'' r a) : Rz S S'' r a := fun b k n => ⟨fun c => ((h' b k n).1 c).trans ((h b k n).1 c), (h' b k n).2.1.trans (h b k n).2.1, (h' b k n).2.2.trans (h b k n).2.2⟩
theorem Ro.rz (h : Ro S S' r) : Rz S S' r a := fun b k _ => ⟨fun c => h.1 b k c, h.2.1 b k, h.2.2 b k⟩
theorem Fr.rz (h : Fr S S' a (a + 12)) : Rz S S' r a := fun b k n => ⟨fun _ => (h b (by omega) k).1, (h b (by omega) k).2.1, (h b (by omega) k).2.2⟩
theorem Rx.rz (h : Rx A S r t a tp n) (l : Rz S S' r a) (hd : Rd r t a) : Rx A S' r t a tp n := by
  obtain ⟨h1, h2, h3, h4, h5, h6, h7, h8, h9⟩ := h
  obtain ⟨d1, d2⟩ := hd
  exact ⟨h1, (l _ _ (by omega)).2.2.trans h2, h3, ((l _ _ (by omega)).1 (by omega)).trans h4, h5, fun k hk => ((l _ _ (by omega)).1 (by omega)).trans (h6 k hk), (l _ _ (by omega)).2.2.trans h7, h8, h9⟩
theorem TdF.ro (h : TdF A S a bg td) (l : Ro S S' r) (hd : Rd r t a) : TdF A S' a bg td := by
  obtain ⟨d1, d2⟩ := hd
  exact h.cel (lo := r) (hi := r + 1) (fun b b1 b2 k => ⟨l.1 b k (by omega), l.2.1 b k, l.2.2 b k⟩) (fun b hb k => ⟨l.1 b k (by omega), l.2.1 b k, l.2.2 b k⟩)
theorem gon_5 (h : ¬ y.1.2.1 = 5) : ¬ (gon tp n y).1.2.1 = 5 := by
  rw [gon_e h]
  exact tokAt_n5
theorem wrd_5 {i : Nat} (h : p.1.2.1 = 5) : wrd i p = false := decide_eq_false (fun c => absurd (h.symm.trans c.1) (by decide))
theorem nds_id {i : Nat} (h : p.1.2.1 = 5) : nds tp n i p = p := by rw [nds, if_neg (by rw [wrd_5 h]; decide), flw_id h, gon_id h]
theorem rdw_id {lo hi : Int32} (h : p.1.2.1 = 5) : rdw tp n lo hi p = p := by rw [rdw, whP_id h, gon_id h]
theorem t4P_id {hs lp hp : Int32} (h : p.1.2.1 = 5) : t4P tp n hs lp hp p = p := by rw [t4P, rdw_id h, rdw_id h, rdw_id h, rdw_id h]
theorem rlP_id (h : p.1.2.1 = 5) : rlP tp n p = p := by
  rw [rlP, flw_id h, ite_self, gon_id h]
theorem udP_id (h : p.1.2.1 = 5) : udP p = p := by
  rw [udP, wrd_5 h, wrd_5 h, if_neg (by decide), if_neg (by decide), flw_id h]
theorem Ra.over (h : Ra S r tp n P false) : P.1.2.1 = 5 := (h.1 rfl).1
set_option maxRecDepth 20000 in
theorem ct_readWindow {f : Bool → qS → Prop} (h : Rx A S r t a tp n) (hd : Rd r t a) (hp : Tk S r tp n p) (h2 : p.1.2.1 = 2) (hT : TdF A S a bg td) (hf : ∀ b S', Ra S' r tp n (ldP tp n bg p) b → TdF A S' a (ldB tp n bg p) (ldT tp n bg p td) → Rz S S' r a → f b S') : Run (d + 6) 39 [.ref r] A S (kZ A f) := by
  refine Run.i (C := mX6_readWindow) rfl rfl rfl fun J hJ => ?_
  have hk0 := h.1
  have ka := hT.2.1.1
  have bad : ∀ S1, Ra S1 r tp n (ldP tp n bg p) false → Ro S S1 r → f false S1 := by
    intro S1 h1 l1
    refine hf false S1 h1 ?_ l1.rz
    rw [ldB, ldT, if_pos h1.over, if_pos h1.over]
    exact hT.ro l1 hd
  refine sX6_readWindow_0 hJ ⟨hk0, a, h.2.2.2.2.2.2.1, ka, ?_⟩
  rw [hT.1]
  refine q_eqb (fun c => ⟨hk0, wc rfl, ct_stepP h (hp.pd (by rw [h2]; decide)) fun S1 h1 l1 => ?_⟩) (fun c => ⟨hk0, wc rfl, ct_faultHere hk0 hp fun S1 h1 l1 => ⟨Or.inl rfl, kZ_0 (bad S1 ?_ l1)⟩⟩)
  · have e1 : ldP tp n bg p = gon tp n (whP 0 60 (nds tp n 3 (gon tp n p))) := by rw [ldP, ld1, c, if_neg (by decide)]
    have e2 : ld1 tp n bg p = nds tp n 3 (gon tp n p) := by rw [ld1, c, if_neg (by decide)]
    have hx1 := h.ro l1
    generalize gon tp n p = q at h1 e1 e2
    have form : wrd 3 q = false → ldP tp n bg p = flw 1 q := by
      intro z
      rw [e1, nds, if_neg (by rw [z]; decide), gon_id flw_5, whP_id flw_5, gon_id flw_5]
    refine ⟨hk0, fun z => ⟨hk0, wc rfl, ct_faultHere hk0 h1 fun S2 g2 l2 => ⟨Or.inl rfl, kZ_0 (bad S2 ?_ (l1.trans l2))⟩⟩, fun z => fun s es => ⟨hk0, wc rfl, ct_rWord hx1 h1 es (by decide) (And.symm (q_eqb (fun c3 => ⟨hk0, wc rfl, ct_faultHere hk0 h1 fun S2 g2 l2 => ⟨Or.inl rfl, kZ_0 (bad S2 ?_ (l1.trans l2))⟩⟩) (fun c3 => ⟨hk0, wc rfl, ct_rWhole hx1 (h1.pd (by rw [h1.kd.2.1.1 z]; decide)) fun b S2 g2 v2 l2 => And.symm (q_eqb (fun cb => ⟨Or.inl rfl, kZ_0 ?_⟩) (fun cb => ?_))⟩)))⟩⟩
    · rw [form (decide_eq_false fun c => z (h1.kd.2.1.2 c.1))]; exact g2
    · rw [form c3]; exact g2
    · subst cb
      refine bad S2 ?_ (l1.trans l2)
      rw [e1, nds, if_pos c3]
      exact g2
    · subst cb
      have e3 : ldP tp n bg p = gon tp n (whP 0 60 (gon tp n q)) := by rw [e1, nds, if_pos c3]
      rw [← e3] at g2
      have l := l1.trans l2
      have hx2 := h.ro l
      refine ⟨hk0, a, hx2.2.2.2.2.2.2.1, hk0, ka, fun S3 eS3 => ⟨hk0, a, by rw [eS3]; exact hx2.2.2.2.2.2.2.1, ka, Or.inr rfl, fun S4 eS4 => ⟨Or.inr rfl, kZ_1 (hf true S4 ?_ ?_ ?_)⟩⟩⟩
      · refine g2.ro fun k => ?_
        obtain ⟨d1, d2⟩ := hd
        have hra : ¬ r = a := by omega
        rw [eS4, gI_uI, if_neg (fun z => hra z.1), eS3, gI_uI, if_neg (fun z => hra z.1)]
      · obtain ⟨y, ey, hy⟩ := g2.2 rfl
        have n5 : ¬ (ldP tp n bg p).1.2.1 = 5 := by rw [ey]; exact gon_5 hy.2.2
        rw [ldB, ldT, if_neg n5, if_neg n5, eS4, eS3, v2 rfl, e2, nds, if_pos c3]
        exact (hT.ro l hd).win
      · rw [eS4, eS3]
        exact l.rz.trans (Fr.rz ((Fr.rf.uI (by omega) (by omega)).uI (by omega) (by omega)))
  · rw [ldP, ld1, c, if_pos rfl, gon_id flw_5, nds_id flw_5, whP_id flw_5, gon_id flw_5]
    exact h1
/-! trades -/
def hiS (kd : Int32) : Int32 := if kd = 2 then 9 else 999
def loP (kd : Int32) : Int32 := if kd = 2 then 1 else 0
def t5P (tp : Nat → Int32) (n : Nat) (kd : Int32) (p : Psr) : Psr := if kd = 1 then rlP tp n (t4P tp n (hiS kd) (loP kd) (hiS kd) p) else t4P tp n (hiS kd) (loP kd) (hiS kd) p
def t5R (tp : Nat → Int32) (n : Nat) (kd : Int32) (p : Psr) : Row := t4R tp n kd (hiS kd) (loP kd) (hiS kd) (if kd = 1 then rlV (t4P tp n (hiS kd) (loP kd) (hiS kd) p) else -2) p
def fuK (kd : Int32) (td : Tld) : Bool := if kd = 2 then fuS td else fuT td
theorem t5P_id {kd : Int32} (h : p.1.2.1 = 5) : t5P tp n kd p = p := by
  rw [t5P, t4P_id h, rlP_id h, ite_self]
theorem ln1 {full : Bool} : lnP tp n full (bI true) p = if full = true then flw 5 p else gon tp n p := by
  rw [lnP, if_neg (by decide), lnF]
  cases full
  · rw [if_neg (by decide), if_neg (by decide)]
  · rw [if_pos rfl, if_pos rfl, gon_id flw_5]
set_option maxRecDepth 20000 in
set_option maxHeartbeats 2000000 in
theorem ct_rTrade {kd : Int32} {f : Bool → qS → Prop} (h : Rx A S r t a tp n) (hd : Rd r t a) (hp : Tk S r tp n p) (h2 : p.1.2.1 = 2) (hT : TdF A S a true td) (ht : pTd td) (hf : ∀ b S', Ra S' r tp n (t5P tp n kd (lnP tp n (fuK kd td) (bI true) p)) b → TdF A S' a true (rwT (t5P tp n kd (lnP tp n (fuK kd td) (bI true) p)) (t5R tp n kd (lnP tp n (fuK kd td) (bI true) p)) td) → Rz S S' r a → f b S') : Run (d + 7) 40 [.ref r, .int kd] A S (kZ A f) := by
  refine Run.i (C := mX6_readTrade) rfl rfl rfl fun J hJ => ?_
  have hk0 := h.1
  have ka := hT.2.1.1
  have ra := h.2.2.2.2.2.2.1
  have tT := hT.2.2.2.1
  have r2 := hT.2.2.1.1
  have l16 := ht.2.2.1
  have s4 := ht.2.1.2.1
  have e16 : (16 ≤ nI td.2.1.length) = (fuT td = true) := by
    rw [show (16 : Int32) = nI 16 from rfl, nIle (by omega) (by omega), fuT, decide_eq_true_eq, show (16 : Int32) = nI 16 from rfl, nIeq (by omega) (by omega)]
    apply propext
    omega
  have sple := spl_le td.2.1 td.2.1.length
  have e4 : (nI (spl td.2.1 td.2.1.length) < 4) = ¬ (nI (spl td.2.1 td.2.1.length) = 4) := by
    rw [show (4 : Int32) = nI 4 from rfl, nIlt (by omega) (by omega), nIeq (by omega) (by omega)]
    apply propext
    omega
  rw [ln1] at hf
  have bad : ∀ P S1, t5P tp n kd (if fuK kd td = true then flw 5 p else gon tp n p) = P → Ra S1 r tp n P false → Ro S S1 r → f false S1 := by
    intro P S1 e h1 l1
    rw [← e] at h1
    refine hf false S1 h1 ?_ l1.rz
    rw [rwT, if_pos h1.over]
    exact hT.ro l1 hd
  have j44 : ∀ (w1 w2 w3 w4 w5 w6 w7 : Option Value), fuK kd td = true → J 44 [some (.ref r), w1, w2, w3, w4, w5, w6, w7] [] A S := by
    intro w1 w2 w3 w4 w5 w6 w7 hfu
    refine sX6_readTrade_44 hJ ⟨hk0, wc rfl, ct_faultHere hk0 hp fun S1 h1 l1 => ⟨Or.inl rfl, kZ_0 (bad (flw 5 p) S1 ?_ h1 l1)⟩⟩
    rw [if_pos hfu, t5P_id flw_5]
  have j50 : ∀ (B : Bool) (w3 w4 w5 w6 w7 : Option Value), (B = true ↔ kd = 2) → fuK kd td = false → J 50 [some (.ref r), some (.int kd), some (.int (bI B)), w3, w4, w5, w6, w7] [] A S := by
    intro B w3 w4 w5 w6 w7 hB hfu
    rw [hfu, if_neg (by decide)] at hf bad
    have hpd := hp.pd (by rw [h2]; decide)
    generalize ep0 : gon tp n p = p0 at hf bad
    have ehs : hiS kd = if B = true then 9 else 999 := by
      unfold hiS
      by_cases c : kd = 2
      · rw [if_pos c, if_pos (hB.2 c)]
      · rw [if_neg c, if_neg (fun z => c (hB.1 z))]
    have elp : loP kd = if B = true then 1 else 0 := by
      unfold loP
      by_cases c : kd = 2
      · rw [if_pos c, if_pos (hB.2 c)]
      · rw [if_neg c, if_neg (fun z => c (hB.1 z))]
    have e4P : t4P tp n (hiS kd) (loP kd) (hiS kd) p0 = gon tp n (whP (loP kd) (hiS kd) (gon tp n (whP 1 (hiS kd) (gon tp n (whP 0 999 (gon tp n (whP 0 2 p0))))))) := rfl
    have id4 : ∀ {P : Psr}, P.1.2.1 = 5 → (if kd = 1 then rlP tp n P else P) = P := by
      intro P z
      rw [rlP_id z, ite_self]
    have eR : t5R tp n kd p0 = (kd, whV 0 2 p0, whV 0 999 (gon tp n (whP 0 2 p0)), whV 1 (hiS kd) (gon tp n (whP 0 999 (gon tp n (whP 0 2 p0)))), whV (loP kd) (hiS kd) (gon tp n (whP 1 (hiS kd) (gon tp n (whP 0 999 (gon tp n (whP 0 2 p0)))))), if kd = 1 then rlV (t4P tp n (hiS kd) (loP kd) (hiS kd) p0) else -2) := rfl
    unfold t5P at hf bad
    rw [eR] at hf
    refine sX6_readTrade_50 hJ ⟨hk0, wc rfl, ct_rWhole h hpd fun b1 S1 g1 v1 l1 => ?_⟩
    rw [ep0] at g1 v1
    rw [e4P] at hf bad
    generalize gon tp n (whP 0 2 p0) = p1 at g1 hf bad
    generalize whV 0 2 p0 = x1 at v1 hf
    refine And.symm (q_eqb (fun cb => ⟨Or.inl rfl, kZ_0 ?_⟩) (fun cb => ⟨hk0, hk0, wc rfl, ?_⟩))
    · subst cb
      refine bad p1 S1 ?_ g1 l1
      rw [whP_id g1.over, gon_id g1.over, whP_id g1.over, gon_id g1.over, whP_id g1.over, gon_id g1.over, id4 g1.over]
    subst cb
    rw [v1 rfl]
    obtain ⟨y1, ey1, hy1⟩ := g1.2 rfl
    refine ct_rWhole (h.ro l1) hy1 fun b2 S2 g2 v2 l2 => ?_
    rw [← ey1] at g2 v2
    have l := l1.trans l2
    clear l1 v1 g1
    generalize gon tp n (whP 0 999 p1) = p2 at g2 hf bad
    generalize whV 0 999 p1 = x2 at v2 hf
    refine And.symm (q_eqb (fun cb => ⟨Or.inl rfl, kZ_0 ?_⟩) (fun cb => ⟨hk0, ?_⟩))
    · subst cb
      refine bad p2 S2 ?_ g2 l
      rw [whP_id g2.over, gon_id g2.over, whP_id g2.over, gon_id g2.over, id4 g2.over]
    subst cb
    rw [v2 rfl]
    obtain ⟨y2, ey2, hy2⟩ := g2.2 rfl
    clear v2 l2
    have j179 : ∀ P S3 (w2 : Option Value) (x3 x4 x6 : Int32), Ra S3 r tp n P true → Ro S S3 r → (∀ b S', Ra S' r tp n P b → TdF A S' a true (rwT P (kd, x1, x2, x3, x4, x6) td) → Rz S S' r a → f b S') → J 179 [some (.ref r), some (.int kd), w2, some (.int x1), some (.int x2), some (.int x3), some (.int x4), some (.int x6)] [] A S3 := by
      intro P S3 w2 x3 x4 x6 hR l3 hf
      have hx3 := h.ro l3
      have hT3 := hT.ro l3 hd
      refine sX6_readTrade_179 hJ ⟨hk0, a, hx3.2.2.2.2.2.2.1, ka, a + 1, hT3.2.2.1.1, tT.1.1, wc rfl, ct_add hT3.2.2.2.1 ?_ fun S4 h4 f4 => ⟨Or.inr rfl, kZ_1 (hf true S4 ?_ ?_ ?_)⟩⟩
      · have : fuT td = false := by
          by_cases c : kd = 2
          · rw [fuK, if_pos c] at hfu
            exact (Bool.or_eq_false_iff.mp hfu).1
          · rw [fuK, if_neg c] at hfu
            exact hfu
        exact fuT_f ht this
      · obtain ⟨d1, d2⟩ := hd
        exact hR.ro fun k => (f4 r (by omega) k).1
      · obtain ⟨y, ey, hy⟩ := hR.2 rfl
        have n5 : ¬ P.1.2.1 = 5 := by rw [ey]; exact gon_5 hy.2.2
        rw [rwT, if_neg n5]
        exact hT3.row h4 f4
      · exact l3.rz.trans (Fr.rz (f4.wide (by omega) (by omega)))
    have j135 : ∀ (hs lp : Int32) S3 (w2 w6 w7 : Option Value) (x3 : Int32) p3, hs = hiS kd → lp = loP kd → (∃ y, p3 = gon tp n y ∧ Pd S3 r n y) → Ro S S3 r → (∀ P S1, (if kd = 1 then rlP tp n (gon tp n (whP (loP kd) (hiS kd) p3)) else (gon tp n (whP (loP kd) (hiS kd) p3))) = P → Ra S1 r tp n P false → Ro S S1 r → f false S1) → (∀ b S', Ra S' r tp n (if kd = 1 then rlP tp n (gon tp n (whP (loP kd) (hiS kd) p3)) else (gon tp n (whP (loP kd) (hiS kd) p3))) b → TdF A S' a true (rwT (if kd = 1 then rlP tp n (gon tp n (whP (loP kd) (hiS kd) p3)) else (gon tp n (whP (loP kd) (hiS kd) p3))) (kd, x1, x2, x3, whV (loP kd) (hiS kd) p3, if kd = 1 then rlV (gon tp n (whP (loP kd) (hiS kd) p3)) else -2) td) → Rz S S' r a → f b S') → J 135 [some (.ref r), some (.int kd), w2, some (.int x1), some (.int x2), some (.int x3), w6, w7] [.int hs, .int lp, .ref r] A S3 := by
      intro hs lp S3 w2 w6 w7 x3 p3 ehs' elp' hy3 l3 bad hf
      subst ehs' elp'
      obtain ⟨y3, ey3, hy3⟩ := hy3
      refine sX6_readTrade_135 hJ ⟨hk0, wc rfl, ct_rWhole (h.ro l3) hy3 fun b4 S4 g4 v4 l4 => ?_⟩
      rw [← ey3] at g4 v4
      have l := l3.trans l4
      generalize gon tp n (whP (loP kd) (hiS kd) p3) = p4 at g4 hf bad
      generalize whV (loP kd) (hiS kd) p3 = x4 at v4 hf
      refine And.symm (q_eqb (fun cb => ⟨Or.inl rfl, kZ_0 ?_⟩) (fun cb => ⟨hk0, ?_⟩))
      · subst cb
        exact bad p4 S4 (id4 g4.over) g4 l
      subst cb
      rw [v4 rfl]
      refine ⟨fun z => ?_, fun z => ?_⟩
      · rw [if_neg z, if_neg z] at hf
        exact j179 p4 S4 _ x3 x4 (-2) g4 l hf
      · rw [if_pos z, if_pos z] at hf
        rw [if_pos z] at bad
        obtain ⟨y4, ey4, hy4⟩ := g4.2 rfl
        refine ⟨hk0, wc rfl, ct_stepP (h.ro l) hy4 fun S5 h5 l5 => ⟨hk0, wc rfl, ?_⟩⟩
        rw [← ey4] at h5
        have l := l.trans l5
        refine ct_ruleByWord (h.ro l) h5 ⟨fun zr => ?_, fun zr => ⟨hk0, wc rfl, ct_faultHere hk0 h5 fun S6 h6 l6 => ⟨Or.inl rfl, kZ_0 (bad (flw 1 p4) S6 ?_ h6 (l.trans l6))⟩⟩⟩
        · have nr : ¬ rlV p4 = -1 := fun e => by rw [e] at zr; exact absurd zr (by decide)
          have s2 : p4.1.2.1 = 2 := by
            by_cases c : p4.1.2.1 = 2
            · exact c
            · refine absurd ?_ nr
              have w : ∀ i, wrd i p4 = false := fun i => decide_eq_false (fun z => c z.1)
              rw [rlV, w, w, w, w]
              rfl
          have eP : rlP tp n p4 = gon tp n p4 := by rw [rlP, if_neg nr]
          refine j179 (rlP tp n p4) S5 _ x3 x4 (rlV p4) ⟨fun z => by (cases z), fun _ => ⟨p4, eP, h5.pd (by rw [s2]; decide)⟩⟩ l hf
        · have er : rlV p4 = -1 := by
            unfold rlV at zr ⊢
            split
            · rename_i c; rw [if_pos c] at zr; exact absurd (by decide) zr
            · rename_i c; rw [if_neg c] at zr
              split
              · rename_i c1; rw [if_pos c1] at zr; exact absurd (by decide) zr
              · rename_i c1; rw [if_neg c1] at zr
                split
                · rename_i c2; rw [if_pos c2] at zr; exact absurd (by decide) zr
                · rename_i c2; rw [if_neg c2] at zr
                  split
                  · rename_i c3; rw [if_pos c3] at zr; exact absurd (by decide) zr
                  · rfl
          rw [rlP, if_pos er, gon_id flw_5]
    have j99 : J 99 [some (.ref r), some (.int kd), some (.int (bI B)), some (.int x1), some (.int x2), w5, w6, w7] [.int (hiS kd), .int 1, .ref r] A S2 := by
      refine sX6_readTrade_99 hJ ⟨hk0, wc rfl, ct_rWhole (h.ro l) hy2 fun b3 S3 g3 v3 l3 => ?_⟩
      rw [← ey2] at g3 v3
      have l := l.trans l3
      generalize gon tp n (whP 1 (hiS kd) p2) = p3 at g3 hf bad
      generalize whV 1 (hiS kd) p2 = x3 at v3 hf
      refine And.symm (q_eqb (fun cb => ⟨Or.inl rfl, kZ_0 ?_⟩) (fun cb => ⟨hk0, ?_⟩))
      · subst cb
        refine bad p3 S3 ?_ g3 l
        rw [whP_id g3.over, gon_id g3.over, id4 g3.over]
      subst cb
      rw [v3 rfl]
      refine q_eqb (fun c => sX6_readTrade_123 hJ (q_eqb (fun c1 => ?_) (fun c1 => ?_))) (fun c => sX6_readTrade_123 hJ (q_eqb (fun c1 => ?_) (fun c1 => ?_)))
      · exact j135 999 0 S3 _ _ _ x3 p3 (by rw [ehs, c]; rfl) (by rw [elp, c]; rfl) (g3.2 rfl) l bad hf
      · rw [c] at c1; cases c1
      · rw [c] at c1; cases c1
      · exact j135 9 1 S3 _ _ _ x3 p3 (by rw [ehs, c]; rfl) (by rw [elp, c]; rfl) (g3.2 rfl) l bad hf
    refine q_eqb (fun c => ?_) (fun c => ?_)
    · rw [show hiS kd = 999 by rw [ehs, c]; rfl] at j99
      exact j99
    · rw [show hiS kd = 9 by rw [ehs, c]; rfl] at j99
      exact j99
  have j10 : ∀ (B : Bool), (B = true ↔ kd = 2) → J 10 [some (.ref r), some (.int kd), none, none, none, none, none, none] [.int (bI B)] A S := by
    intro B hB
    refine sX6_readTrade_10 hJ ⟨hk0, a, ra, ka, a + 1, r2, tT.1.1, ?_⟩
    rw [show gI S (a + 1) 7 = nI td.2.1.length from tT.2.2.1.1, e16]
    refine ⟨fun z => j44 _ _ _ _ _ _ _ ?_, fun z => q_eqb (fun cB => j50 B _ _ _ _ _ hB ?_) (fun cB => ⟨hk0, a, ra, ka, a + 1, r2, tT.1.1, wc rfl, ct_splits tT ?_⟩)⟩
    · unfold fuK fuS
      rw [z]
      split <;> rfl
    · have z : fuT td = false := Bool.eq_false_iff.mpr z
      unfold fuK
      rw [if_neg (fun c => by rw [hB.2 c] at cB; cases cB)]
      exact z
    · have z : fuT td = false := Bool.eq_false_iff.mpr z
      have k2 := hB.1 cB
      rw [e4]
      refine ⟨fun z4 => j50 B _ _ _ _ _ hB ?_, fun z4 => j44 _ _ _ _ _ _ _ ?_⟩
      · unfold fuK fuS
        rw [if_pos k2, z, decide_eq_false z4]; rfl
      · unfold fuK fuS
        rw [if_pos k2, z, decide_eq_true (Classical.not_not.mp z4)]; rfl
  exact sX6_readTrade_0 hJ ⟨fun z => j10 false ⟨fun c => by (cases c), fun c => absurd c z⟩, fun z => j10 true ⟨fun _ => z, fun _ => rfl⟩⟩
end
