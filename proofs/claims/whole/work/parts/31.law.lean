/-! THE LAW, in the pure layer -/
def LI (x i : Nat) (A : qA) (S : qS) (V : VSt) : Prop := AOk A ∧ A.1 (x + 494) = some (14, 1) ∧ XAt A S x V ∧ MAt A S (x + 467) V ∧ vWk V ∧ x + 494 < A.2.1 ∧ A.2.2.1 ≤ 600 + 6 * i ∧ A.2.2.2 ≤ 40000 + 174 * i
section
variable {A A' : qA} {S S' : qS} {x m lo hi : Nat} {V : VSt} {tA tB nA nB bA bB : Nat} {π : Nat → Nat}
theorem MAt.keep (h : MAt A S m V) (e : ∀ b, m ≤ b → ¬ b = m + 27 → ∀ k, gI S' b k = gI S b k ∧ gL S' b k = gL S b k ∧ gR S' b k = gR S b k) : MAt A S' m V := by
  obtain ⟨hI, ⟨H, hH⟩, ⟨c1, c2, c3, c4, c5, c6, c7, c8, c9, c10⟩, hL⟩ := h
  have g : ∀ j, j < 27 → ∀ k, gI S' (m + j) k = gI S (m + j) k := fun j hj k => (e (m + j) (by omega) (by omega) k).1
  have g0 : ∀ k, gI S' m k = gI S m k := fun k => g 0 (by omega) k
  exact ⟨⟨hI.1, hI.2.fr fun k => (e m (by omega) (by omega) k).2.2⟩, ⟨H, hH.cel fun b b1 b2 k => ⟨(e b (by omega) (by omega) k).1, (e b (by omega) (by omega) k).2.1⟩⟩, ⟨fun k hk => (g 1 (by omega) k).trans (c1 k hk), (g0 _).trans c2, c3.same fun k => g 2 (by omega) k, (g0 _).trans c4, fun i hi => (c5 i hi).cel fun k => g 4 (by omega) k, (g0 _).trans c6, fun i hi => (c7 i hi).cel fun k => g 5 (by omega) k, (g0 _).trans c8, (g0 _).trans c9, (g0 _).trans c10⟩, hL.fr (e m (by omega) (by omega) 3).2.2 fun b hb k => ⟨(e b (by omega) (by omega) k).1, (e b (by omega) (by omega) k).2.2⟩⟩
theorem MAt.fr (h : MAt A S m V) (hF : Fr S S' lo hi) (hd : hi ≤ m) : MAt A S' m V := h.keep fun b hb _ k => hF b (by omega) k
theorem mLed.ax1 {o : Option Tld} (h : mLed A S m o) (e : Ax A A') : mLed A' S m o := by
  unfold mLed at *
  cases o with
  | none => exact h
  | some td =>
    obtain ⟨q, h1, h2, h3⟩ := h
    exact ⟨q, h1, h2, h3.ax e⟩
theorem MAt.ax (h : MAt A S m V) (e : Ax A A') : MAt A' S m V := ⟨⟨mK.ax h.1.1 e, h.1.2⟩, h.2.1, h.2.2.1, h.2.2.2.ax1 e⟩
theorem XP.keep (h : XP A S x V tA tB nA nB bA bB π) (hF : Fr S S' lo hi) (e : ∀ b, x ≤ b → b < x + 467 → ∀ k, gI S' b k = gI S b k ∧ gL S' b k = gL S b k ∧ gR S' b k = gR S b k) : XP A S' x V tA tB nA nB bA bB π := by
  obtain ⟨hK, ⟨⟨f1, f2, f3, f4, f5, f6, f7, f8, f9, f10, f11⟩, f12, f13, f14, f15⟩, hD, hI, hXT, hQ, hA, ⟨td', hB'⟩, hN, ⟨T, hT⟩, hb, hB⟩ := h
  have hD' := hD
  obtain ⟨d1, d2, d3, d4, d5⟩ := hD'
  have r : ∀ b, x ≤ b → b < x + 467 → ∀ k, gR S' b k = gR S b k := fun b b1 b2 k => (e b b1 b2 k).2.2
  refine ⟨hK, ⟨⟨(r x (by omega) (by omega) _).trans f1, (r x (by omega) (by omega) _).trans f2, (r x (by omega) (by omega) _).trans f3, (r x (by omega) (by omega) _).trans f4, (r x (by omega) (by omega) _).trans f5, (r x (by omega) (by omega) _).trans f6, (r x (by omega) (by omega) _).trans f7, (r x (by omega) (by omega) _).trans f8, (r x (by omega) (by omega) _).trans f9, (r x (by omega) (by omega) _).trans f10, (r x (by omega) (by omega) _).trans f11⟩, (r _ (by omega) (by omega) _).trans f12, (r _ (by omega) (by omega) _).trans f13, fun i hi => (r _ (by omega) (by omega) _).trans (f14 i hi), fun i hi => (r _ (by omega) (by omega) _).trans (f15 i hi)⟩, hD, hI.cel fun b hb k => (e b (by omega) (by omega) k).1, ⟨fun i hi => ?_, fun i hi => ?_⟩, ?_, hA.cel (fun b b1 b2 k => e b (by omega) (by omega) k) hF, ⟨td', hB'.cel (fun b b1 b2 k => e b (by omega) (by omega) k) hF⟩, hN.cel (fun b b1 b2 k => e b (by omega) (by omega) k) hF, ⟨T, hT.cel (fun b b1 b2 k => e b (by omega) (by omega) k) hF⟩, hb.cel (fun b b1 b2 k => e b (by omega) (by omega) k) hF, hB.cel (fun b b1 b2 k => e b (by omega) (by omega) k) hF⟩
  · obtain ⟨T, h1, h2⟩ := hXT.1 i hi
    have := d4 i hi
    exact ⟨T, h1.cel (fun b b1 b2 k => e b (by omega) (by omega) k) hF, h2⟩
  · obtain ⟨T, h1, h2⟩ := hXT.2 i hi
    exact ⟨T, h1.cel (fun b b1 b2 k => e b (by omega) (by omega) k) hF, h2⟩
  · obtain ⟨bb, g1, g2⟩ := hQ
    exact ⟨bb, (e _ (by omega) (by omega) _).1.trans g1, fun c => ⟨(e _ (by omega) (by omega) _).1.trans (g2 c).1, fun i hi => (e _ (by omega) (by omega) _).1.trans ((g2 c).2 i hi)⟩⟩
theorem XAt.fr (h : XAt A S x V) (hF : Fr S S' lo hi) (hd : x + 467 ≤ lo) : XAt A S' x V := by
  obtain ⟨tA, tB, nA, nB, bA, bB, π, h⟩ := h
  exact ⟨tA, tB, nA, nB, bA, bB, π, h.keep hF fun b b1 b2 k => hF b (by omega) k⟩
theorem BN.ax {B : Nat} {w last : Int32} {T : List Row} (h : BN A S B w last T) (e : Ax A A') : BN A' S B w last T := by
  obtain ⟨s, o, pl, h1, h2⟩ := h
  exact ⟨s, o, pl, BkAt.ax h1 e, h2⟩
theorem BA.ax {B : Nat} (h : BA A S B) (e : Ax A A') : BA A' S B := by
  obtain ⟨H, G, O, z, E, h⟩ := h
  exact ⟨H, G, O, z, E, h.ax e⟩
theorem XAt.ax (h : XAt A S x V) (e : Ax A A') : XAt A' S x V := by
  obtain ⟨tA, tB, nA, nB, bA, bB, π, ⟨k1, k2, k3, k4, k5, k6, k7, k8⟩, hX, hD, hI, hXT, hQ, hA, ⟨td', hB'⟩, hN, ⟨T, hT⟩, hb, hB⟩ := h
  refine ⟨tA, tB, nA, nB, bA, bB, π, ⟨e _ _ k1, e _ _ k2, e _ _ k3, e _ _ k4, e _ _ k5, e _ _ k6, e _ _ k7, e _ _ k8⟩, hX, hD, hI, ⟨fun i hi => ?_, fun i hi => ?_⟩, hQ, hA.ax e, ⟨td', hB'.ax e⟩, hN.ax e, ⟨T, hT.ax e⟩, hb.ax e, hB.ax e⟩
  · obtain ⟨T, h1, h2⟩ := hXT.1 i hi
    exact ⟨T, h1.ax e, h2⟩
  · obtain ⟨T, h1, h2⟩ := hXT.2 i hi
    exact ⟨T, h1.ax e, h2⟩
theorem XAt.k9 (h : XAt A S x V) : A.1 x = some (9, 0) := by
  obtain ⟨tA, tB, nA, nB, bA, bB, π, h⟩ := h
  exact h.1.1
theorem law_lt {L j : Nat} (hL : L ≤ 3072) (hj : j ≤ 10000) : (nI L - 6 < nI j) ↔ L < j + 6 := by
  have e : (nI L - 6).toInt = (L : Int) - 6 := by
    rw [Int32.toInt_sub, nI_toInt (by omega)]
    exact Int.bmod_eq_of_le (by simp; omega) (by simp; omega)
  rw [Int32.lt_iff_toInt_lt, e, nI_toInt (by omega)]
  omega
theorem vp_add {j c L : Nat} (h : j + c < L) (hL : L ≤ 3072) : vp_in (nI j + nI c) L := by
  rw [nI_add]
  exact vp_n h (by omega)
end
section
variable {b L : Nat} {xs : Nat → Int32} {K : qK} {J : qJ} {A : qA} {S : qS} {x i : Nat} {V : VSt} {w5 w6 : Option Value}
set_option maxRecDepth 20000 in
theorem lc_0 (hJ : Cl (mL_law b L xs) (Run 14) K (601024, 7293034) J) (I : LI x i A S V) (hi : 6 * i + 6 ≤ L) (hL : L ≤ 3072) (go : ∀ (A' : qA) (S' : qS) (V' : VSt) (w5 w6 : Option Value), LI x (i + 1) A' S' V' → J 1706 [some (.ref b), some (.ref x), some (.ref (x + 467)), some (.ref (x + 494)), some (.int (nI (6 * i))), w5, w6] [] A' S') : J 252 [some (.ref b), some (.ref x), some (.ref (x + 467)), some (.ref (x + 494)), some (.int (nI (6 * i))), w5, w6] [] A S := by
  obtain ⟨hA, ho, hX, hM, hw, hz, hc, hs⟩ := I
  have hv := hw.1
  have k9 := hX.k9
  have k11 := hM.1.1.1
  have vp1 : vp_in (nI (6 * i) + 1) L := vp_add (c := 1) (by omega) hL
  have vp2 : vp_in (nI (6 * i) + 2) L := vp_add (c := 2) (by omega) hL
  have vp3 : vp_in (nI (6 * i) + 3) L := vp_add (c := 3) (by omega) hL
  have vp4 : vp_in (nI (6 * i) + 4) L := vp_add (c := 4) (by omega) hL
  have vp5 : vp_in (nI (6 * i) + 5) L := vp_add (c := 5) (by omega) hL
  exact sL_law_252 hJ ⟨rfl, vp1, rfl, vp2, rfl, vp3, rfl, vp4, rfl, vp5, k9, wc rfl, ct_feed hX hv fun S1 h1 f1 => ⟨rfl, vp1, rfl, vp2, rfl, vp3, rfl, vp4, rfl, vp5, k11, wc rfl, cm_feed (hM.fr f1 (by omega)) hv fun S2 h2 f2 => ⟨fun _ => go A S2 _ _ _ ⟨hA, ho, h1.fr f2 (Nat.le_refl _), h2, hw.feed, hz, by omega, by omega⟩, fun z => absurd rfl z⟩⟩⟩
set_option maxRecDepth 20000 in
theorem lc_1 (hJ : Cl (mL_law b L xs) (Run 14) K (601024, 7293034) J) (I : LI x i A S V) (hi : 6 * i + 6 ≤ L) (hL : L ≤ 3072) (go : ∀ (A' : qA) (S' : qS) (V' : VSt) (w5 w6 : Option Value), LI x (i + 1) A' S' V' → J 1706 [some (.ref b), some (.ref x), some (.ref (x + 467)), some (.ref (x + 494)), some (.int (nI (6 * i))), w5, w6] [] A' S') : J 325 [some (.ref b), some (.ref x), some (.ref (x + 467)), some (.ref (x + 494)), some (.int (nI (6 * i))), w5, w6] [] A S := by
  obtain ⟨hA, ho, hX, hM, hw, hz, hc, hs⟩ := I
  have hv := hw.1
  have k9 := hX.k9
  have k11 := hM.1.1.1
  have vp1 : vp_in (nI (6 * i) + 1) L := vp_add (c := 1) (by omega) hL
  have vp2 : vp_in (nI (6 * i) + 2) L := vp_add (c := 2) (by omega) hL
  have vp3 : vp_in (nI (6 * i) + 3) L := vp_add (c := 3) (by omega) hL
  have vp4 : vp_in (nI (6 * i) + 4) L := vp_add (c := 4) (by omega) hL
  have vp5 : vp_in (nI (6 * i) + 5) L := vp_add (c := 5) (by omega) hL
  have hk : gI S (x + 467) 11 = gI S (x + 467) 11 := rfl
  refine sL_law_325 hJ ⟨rfl, vp1, k9, wc rfl, ct_ledger (nu := gI S (x + 467) 11) (wd := gL S (x + 467) 14) (wr := gI S (x + 467) 13) hX hv hw.2 fun S1 h1 f1 => ⟨rfl, vp1, k11, wc rfl, by show A.2.2.1 + 6 ≤ 601024; omega, by show A.2.2.2 + 174 ≤ 7293034; omega, cm_ledger (hM.fr f1 (by omega)) hv hA (by omega) fun A2 S2 a1 a2 a3 a4 a5 h2 f2 => ?_⟩⟩
  have e1 : gI S1 (x + 467) 11 = gI S (x + 467) 11 := (f1 _ (by omega) 11).1
  have e2 : gL S1 (x + 467) 14 = gL S (x + 467) 14 := (f1 _ (by omega) 14).2.1
  have e3 : gI S1 (x + 467) 13 = gI S (x + 467) 13 := (f1 _ (by omega) 13).1
  rw [e1, e2, e3] at h2 ⊢
  exact ⟨fun _ => go A2 S2 _ _ _ ⟨a1, a2 _ _ ho, (h1.fr f2 (Nat.le_refl _)).ax a2, h2, hw.led, by omega, by omega, by omega⟩, fun z => absurd rfl z⟩
set_option maxRecDepth 20000 in
theorem lc_2 (hJ : Cl (mL_law b L xs) (Run 14) K (601024, 7293034) J) (I : LI x i A S V) (hi : 6 * i + 6 ≤ L) (hL : L ≤ 3072) (go : ∀ (A' : qA) (S' : qS) (V' : VSt) (w5 w6 : Option Value), LI x (i + 1) A' S' V' → J 1706 [some (.ref b), some (.ref x), some (.ref (x + 467)), some (.ref (x + 494)), some (.int (nI (6 * i))), w5, w6] [] A' S') : J 350 [some (.ref b), some (.ref x), some (.ref (x + 467)), some (.ref (x + 494)), some (.int (nI (6 * i))), w5, w6] [] A S := by
  obtain ⟨hA, ho, hX, hM, hw, hz, hc, hs⟩ := I
  have hv := hw.1
  have k9 := hX.k9
  have k11 := hM.1.1.1
  have vp1 : vp_in (nI (6 * i) + 1) L := vp_add (c := 1) (by omega) hL
  have vp2 : vp_in (nI (6 * i) + 2) L := vp_add (c := 2) (by omega) hL
  have vp3 : vp_in (nI (6 * i) + 3) L := vp_add (c := 3) (by omega) hL
  have vp4 : vp_in (nI (6 * i) + 4) L := vp_add (c := 4) (by omega) hL
  have vp5 : vp_in (nI (6 * i) + 5) L := vp_add (c := 5) (by omega) hL
  exact sL_law_350 hJ ⟨k9, wc rfl, ct_fault hX fun S1 h1 f1 => ⟨k11, wc rfl, cm_fault (hM.fr f1 (by omega)) fun S2 h2 f2 => ⟨fun _ => go A S2 _ _ _ ⟨hA, ho, h1.fr f2 (Nat.le_refl _), h2, hw, hz, by omega, by omega⟩, fun z => absurd rfl z⟩⟩⟩
set_option maxRecDepth 20000 in
theorem lc_3 (hJ : Cl (mL_law b L xs) (Run 14) K (601024, 7293034) J) (I : LI x i A S V) (hi : 6 * i + 6 ≤ L) (hL : L ≤ 3072) (go : ∀ (A' : qA) (S' : qS) (V' : VSt) (w5 w6 : Option Value), LI x (i + 1) A' S' V' → J 1706 [some (.ref b), some (.ref x), some (.ref (x + 467)), some (.ref (x + 494)), some (.int (nI (6 * i))), w5, w6] [] A' S') : J 363 [some (.ref b), some (.ref x), some (.ref (x + 467)), some (.ref (x + 494)), some (.int (nI (6 * i))), w5, w6] [] A S := by
  obtain ⟨hA, ho, hX, hM, hw, hz, hc, hs⟩ := I
  have hv := hw.1
  have k9 := hX.k9
  have k11 := hM.1.1.1
  have vp1 : vp_in (nI (6 * i) + 1) L := vp_add (c := 1) (by omega) hL
  have vp2 : vp_in (nI (6 * i) + 2) L := vp_add (c := 2) (by omega) hL
  have vp3 : vp_in (nI (6 * i) + 3) L := vp_add (c := 3) (by omega) hL
  have vp4 : vp_in (nI (6 * i) + 4) L := vp_add (c := 4) (by omega) hL
  have vp5 : vp_in (nI (6 * i) + 5) L := vp_add (c := 5) (by omega) hL
  exact sL_law_363 hJ ⟨k9, wc rfl, ct_where hX fun S1 h1 f1 => ⟨k11, wc rfl, cm_where (hM.fr f1 (by omega)) fun S2 h2 f2 => ⟨fun _ => go A S2 _ _ _ ⟨hA, ho, h1.fr f2 (Nat.le_refl _), h2, hw, hz, by omega, by omega⟩, fun z => absurd rfl z⟩⟩⟩
set_option maxRecDepth 20000 in
theorem lc_4 (hJ : Cl (mL_law b L xs) (Run 14) K (601024, 7293034) J) (I : LI x i A S V) (hi : 6 * i + 6 ≤ L) (hL : L ≤ 3072) (go : ∀ (A' : qA) (S' : qS) (V' : VSt) (w5 w6 : Option Value), LI x (i + 1) A' S' V' → J 1706 [some (.ref b), some (.ref x), some (.ref (x + 467)), some (.ref (x + 494)), some (.int (nI (6 * i))), w5, w6] [] A' S') : J 376 [some (.ref b), some (.ref x), some (.ref (x + 467)), some (.ref (x + 494)), some (.int (nI (6 * i))), w5, w6] [] A S := by
  obtain ⟨hA, ho, hX, hM, hw, hz, hc, hs⟩ := I
  have hv := hw.1
  have k9 := hX.k9
  have k11 := hM.1.1.1
  have vp1 : vp_in (nI (6 * i) + 1) L := vp_add (c := 1) (by omega) hL
  have vp2 : vp_in (nI (6 * i) + 2) L := vp_add (c := 2) (by omega) hL
  have vp3 : vp_in (nI (6 * i) + 3) L := vp_add (c := 3) (by omega) hL
  have vp4 : vp_in (nI (6 * i) + 4) L := vp_add (c := 4) (by omega) hL
  have vp5 : vp_in (nI (6 * i) + 5) L := vp_add (c := 5) (by omega) hL
  exact sL_law_376 hJ ⟨rfl, vp1, rfl, vp2, k9, wc rfl, ct_trade hX hv fun S1 h1 f1 => ⟨rfl, vp1, rfl, vp2, k11, wc rfl, cm_trade (hM.fr f1 (by omega)) hv fun S2 h2 f2 => ⟨fun _ => go A S2 _ _ _ ⟨hA, ho, h1.fr f2 (Nat.le_refl _), h2, hw, hz, by omega, by omega⟩, fun z => absurd rfl z⟩⟩⟩
set_option maxRecDepth 20000 in
theorem lc_5 (hJ : Cl (mL_law b L xs) (Run 14) K (601024, 7293034) J) (I : LI x i A S V) (hi : 6 * i + 6 ≤ L) (hL : L ≤ 3072) (go : ∀ (A' : qA) (S' : qS) (V' : VSt) (w5 w6 : Option Value), LI x (i + 1) A' S' V' → J 1706 [some (.ref b), some (.ref x), some (.ref (x + 467)), some (.ref (x + 494)), some (.int (nI (6 * i))), w5, w6] [] A' S') : J 413 [some (.ref b), some (.ref x), some (.ref (x + 467)), some (.ref (x + 494)), some (.int (nI (6 * i))), w5, w6] [] A S := by
  obtain ⟨hA, ho, hX, hM, hw, hz, hc, hs⟩ := I
  have hv := hw.1
  have k9 := hX.k9
  have k11 := hM.1.1.1
  have vp1 : vp_in (nI (6 * i) + 1) L := vp_add (c := 1) (by omega) hL
  have vp2 : vp_in (nI (6 * i) + 2) L := vp_add (c := 2) (by omega) hL
  have vp3 : vp_in (nI (6 * i) + 3) L := vp_add (c := 3) (by omega) hL
  have vp4 : vp_in (nI (6 * i) + 4) L := vp_add (c := 4) (by omega) hL
  have vp5 : vp_in (nI (6 * i) + 5) L := vp_add (c := 5) (by omega) hL
  exact sL_law_413 hJ ⟨rfl, vp1, k9, wc rfl, ct_booked hX hv fun S1 h1 f1 => ⟨rfl, vp1, k11, wc rfl, cm_booked (hM.fr f1 (by omega)) hv fun S2 h2 f2 => ⟨fun _ => go A S2 _ _ _ ⟨hA, ho, h1.fr f2 (Nat.le_refl _), h2, hw, hz, by omega, by omega⟩, fun z => absurd rfl z⟩⟩⟩
set_option maxRecDepth 20000 in
theorem lc_6 (hJ : Cl (mL_law b L xs) (Run 14) K (601024, 7293034) J) (I : LI x i A S V) (hi : 6 * i + 6 ≤ L) (hL : L ≤ 3072) (go : ∀ (A' : qA) (S' : qS) (V' : VSt) (w5 w6 : Option Value), LI x (i + 1) A' S' V' → J 1706 [some (.ref b), some (.ref x), some (.ref (x + 467)), some (.ref (x + 494)), some (.int (nI (6 * i))), w5, w6] [] A' S') : J 438 [some (.ref b), some (.ref x), some (.ref (x + 467)), some (.ref (x + 494)), some (.int (nI (6 * i))), w5, w6] [] A S := by
  obtain ⟨hA, ho, hX, hM, hw, hz, hc, hs⟩ := I
  have hv := hw.1
  have k9 := hX.k9
  have k11 := hM.1.1.1
  have vp1 : vp_in (nI (6 * i) + 1) L := vp_add (c := 1) (by omega) hL
  have vp2 : vp_in (nI (6 * i) + 2) L := vp_add (c := 2) (by omega) hL
  have vp3 : vp_in (nI (6 * i) + 3) L := vp_add (c := 3) (by omega) hL
  have vp4 : vp_in (nI (6 * i) + 4) L := vp_add (c := 4) (by omega) hL
  have vp5 : vp_in (nI (6 * i) + 5) L := vp_add (c := 5) (by omega) hL
  exact sL_law_438 hJ ⟨rfl, vp1, k9, wc rfl, ct_held hX fun S1 h1 f1 => ⟨rfl, vp1, k11, wc rfl, cm_held (hM.fr f1 (by omega)) hv fun S2 h2 f2 => ⟨fun _ => go A S2 _ _ _ ⟨hA, ho, h1.fr f2 (Nat.le_refl _), h2, hw, hz, by omega, by omega⟩, fun z => absurd rfl z⟩⟩⟩
set_option maxRecDepth 20000 in
theorem lc_7 (hJ : Cl (mL_law b L xs) (Run 14) K (601024, 7293034) J) (I : LI x i A S V) (hi : 6 * i + 6 ≤ L) (hL : L ≤ 3072) (go : ∀ (A' : qA) (S' : qS) (V' : VSt) (w5 w6 : Option Value), LI x (i + 1) A' S' V' → J 1706 [some (.ref b), some (.ref x), some (.ref (x + 467)), some (.ref (x + 494)), some (.int (nI (6 * i))), w5, w6] [] A' S') : J 463 [some (.ref b), some (.ref x), some (.ref (x + 467)), some (.ref (x + 494)), some (.int (nI (6 * i))), w5, w6] [] A S := by
  obtain ⟨hA, ho, hX, hM, hw, hz, hc, hs⟩ := I
  have hv := hw.1
  have k9 := hX.k9
  have k11 := hM.1.1.1
  have vp1 : vp_in (nI (6 * i) + 1) L := vp_add (c := 1) (by omega) hL
  have vp2 : vp_in (nI (6 * i) + 2) L := vp_add (c := 2) (by omega) hL
  have vp3 : vp_in (nI (6 * i) + 3) L := vp_add (c := 3) (by omega) hL
  have vp4 : vp_in (nI (6 * i) + 4) L := vp_add (c := 4) (by omega) hL
  have vp5 : vp_in (nI (6 * i) + 5) L := vp_add (c := 5) (by omega) hL
  exact sL_law_463 hJ ⟨rfl, vp1, k9, wc rfl, ct_cost hX fun S1 h1 f1 => ⟨rfl, vp1, k11, wc rfl, cm_cost (hM.fr f1 (by omega)) hv fun S2 h2 f2 => ⟨fun _ => go A S2 _ _ _ ⟨hA, ho, h1.fr f2 (Nat.le_refl _), h2, hw, hz, by omega, by omega⟩, fun z => absurd ((lgc_eq _ _).2 rfl) z⟩⟩⟩
set_option maxRecDepth 20000 in
theorem lc_8 (hJ : Cl (mL_law b L xs) (Run 14) K (601024, 7293034) J) (I : LI x i A S V) (hi : 6 * i + 6 ≤ L) (hL : L ≤ 3072) (go : ∀ (A' : qA) (S' : qS) (V' : VSt) (w5 w6 : Option Value), LI x (i + 1) A' S' V' → J 1706 [some (.ref b), some (.ref x), some (.ref (x + 467)), some (.ref (x + 494)), some (.int (nI (6 * i))), w5, w6] [] A' S') : J 489 [some (.ref b), some (.ref x), some (.ref (x + 467)), some (.ref (x + 494)), some (.int (nI (6 * i))), w5, w6] [] A S := by
  obtain ⟨hA, ho, hX, hM, hw, hz, hc, hs⟩ := I
  have hv := hw.1
  have k9 := hX.k9
  have k11 := hM.1.1.1
  have vp1 : vp_in (nI (6 * i) + 1) L := vp_add (c := 1) (by omega) hL
  have vp2 : vp_in (nI (6 * i) + 2) L := vp_add (c := 2) (by omega) hL
  have vp3 : vp_in (nI (6 * i) + 3) L := vp_add (c := 3) (by omega) hL
  have vp4 : vp_in (nI (6 * i) + 4) L := vp_add (c := 4) (by omega) hL
  have vp5 : vp_in (nI (6 * i) + 5) L := vp_add (c := 5) (by omega) hL
  exact sL_law_489 hJ ⟨rfl, vp1, k9, wc rfl, ct_lots hX fun S1 h1 f1 => ⟨rfl, vp1, k11, wc rfl, cm_lots (hM.fr f1 (by omega)) hv fun S2 h2 f2 => ⟨fun _ => go A S2 _ _ _ ⟨hA, ho, h1.fr f2 (Nat.le_refl _), h2, hw, hz, by omega, by omega⟩, fun z => absurd rfl z⟩⟩⟩
set_option maxRecDepth 20000 in
theorem lc_9 (hJ : Cl (mL_law b L xs) (Run 14) K (601024, 7293034) J) (I : LI x i A S V) (hi : 6 * i + 6 ≤ L) (hL : L ≤ 3072) (go : ∀ (A' : qA) (S' : qS) (V' : VSt) (w5 w6 : Option Value), LI x (i + 1) A' S' V' → J 1706 [some (.ref b), some (.ref x), some (.ref (x + 467)), some (.ref (x + 494)), some (.int (nI (6 * i))), w5, w6] [] A' S') : J 514 [some (.ref b), some (.ref x), some (.ref (x + 467)), some (.ref (x + 494)), some (.int (nI (6 * i))), w5, w6] [] A S := by
  obtain ⟨hA, ho, hX, hM, hw, hz, hc, hs⟩ := I
  have hv := hw.1
  have k9 := hX.k9
  have k11 := hM.1.1.1
  have vp1 : vp_in (nI (6 * i) + 1) L := vp_add (c := 1) (by omega) hL
  have vp2 : vp_in (nI (6 * i) + 2) L := vp_add (c := 2) (by omega) hL
  have vp3 : vp_in (nI (6 * i) + 3) L := vp_add (c := 3) (by omega) hL
  have vp4 : vp_in (nI (6 * i) + 4) L := vp_add (c := 4) (by omega) hL
  have vp5 : vp_in (nI (6 * i) + 5) L := vp_add (c := 5) (by omega) hL
  exact sL_law_514 hJ ⟨rfl, vp1, rfl, vp2, rfl, vp3, k9, wc rfl, ct_lot hX fun S1 h1 f1 => ⟨rfl, vp1, rfl, vp2, rfl, vp3, k11, wc rfl, cm_lot (hM.fr f1 (by omega)) hv fun S2 h2 f2 => ⟨fun _ => go A S2 _ _ _ ⟨hA, ho, h1.fr f2 (Nat.le_refl _), h2, hw, hz, by omega, by omega⟩, fun z => absurd rfl z⟩⟩⟩
set_option maxRecDepth 20000 in
theorem lc_10 (hJ : Cl (mL_law b L xs) (Run 14) K (601024, 7293034) J) (I : LI x i A S V) (hi : 6 * i + 6 ≤ L) (hL : L ≤ 3072) (go : ∀ (A' : qA) (S' : qS) (V' : VSt) (w5 w6 : Option Value), LI x (i + 1) A' S' V' → J 1706 [some (.ref b), some (.ref x), some (.ref (x + 467)), some (.ref (x + 494)), some (.int (nI (6 * i))), w5, w6] [] A' S') : J 563 [some (.ref b), some (.ref x), some (.ref (x + 467)), some (.ref (x + 494)), some (.int (nI (6 * i))), w5, w6] [] A S := by
  obtain ⟨hA, ho, hX, hM, hw, hz, hc, hs⟩ := I
  have hv := hw.1
  have k9 := hX.k9
  have k11 := hM.1.1.1
  have vp1 : vp_in (nI (6 * i) + 1) L := vp_add (c := 1) (by omega) hL
  have vp2 : vp_in (nI (6 * i) + 2) L := vp_add (c := 2) (by omega) hL
  have vp3 : vp_in (nI (6 * i) + 3) L := vp_add (c := 3) (by omega) hL
  have vp4 : vp_in (nI (6 * i) + 4) L := vp_add (c := 4) (by omega) hL
  have vp5 : vp_in (nI (6 * i) + 5) L := vp_add (c := 5) (by omega) hL
  exact sL_law_563 hJ ⟨rfl, vp1, rfl, vp2, k9, wc rfl, ct_lotCost hX fun S1 h1 f1 => ⟨rfl, vp1, rfl, vp2, k11, wc rfl, cm_lotCost (hM.fr f1 (by omega)) hv fun S2 h2 f2 => ⟨fun _ => go A S2 _ _ _ ⟨hA, ho, h1.fr f2 (Nat.le_refl _), h2, hw, hz, by omega, by omega⟩, fun z => absurd ((lgc_eq _ _).2 rfl) z⟩⟩⟩
set_option maxRecDepth 20000 in
theorem lc_11 (hJ : Cl (mL_law b L xs) (Run 14) K (601024, 7293034) J) (I : LI x i A S V) (hi : 6 * i + 6 ≤ L) (hL : L ≤ 3072) (go : ∀ (A' : qA) (S' : qS) (V' : VSt) (w5 w6 : Option Value), LI x (i + 1) A' S' V' → J 1706 [some (.ref b), some (.ref x), some (.ref (x + 467)), some (.ref (x + 494)), some (.int (nI (6 * i))), w5, w6] [] A' S') : J 601 [some (.ref b), some (.ref x), some (.ref (x + 467)), some (.ref (x + 494)), some (.int (nI (6 * i))), w5, w6] [] A S := by
  obtain ⟨hA, ho, hX, hM, hw, hz, hc, hs⟩ := I
  have hv := hw.1
  have k9 := hX.k9
  have k11 := hM.1.1.1
  have vp1 : vp_in (nI (6 * i) + 1) L := vp_add (c := 1) (by omega) hL
  have vp2 : vp_in (nI (6 * i) + 2) L := vp_add (c := 2) (by omega) hL
  have vp3 : vp_in (nI (6 * i) + 3) L := vp_add (c := 3) (by omega) hL
  have vp4 : vp_in (nI (6 * i) + 4) L := vp_add (c := 4) (by omega) hL
  have vp5 : vp_in (nI (6 * i) + 5) L := vp_add (c := 5) (by omega) hL
  exact sL_law_601 hJ ⟨rfl, vp1, rfl, vp2, fun z0 => ⟨k9, wc rfl, ct_mean (lo := false) hX hv fun S1 h1 f1 => ⟨rfl, vp1, rfl, vp2, ⟨fun _ => ⟨k11, wc rfl, cm_mean (lo := false) (hM.fr f1 (by omega)) hv fun S2 h2 f2 => ⟨fun _ => go A S2 _ _ _ ⟨hA, ho, h1.fr f2 (Nat.le_refl _), h2, hw, hz, by omega, by omega⟩, fun z => absurd ((lgc_eq _ _).2 rfl) z⟩⟩, fun y => absurd z0 y⟩⟩⟩, fun z0 => ⟨k9, wc rfl, ct_mean (lo := true) hX hv fun S1 h1 f1 => ⟨rfl, vp1, rfl, vp2, ⟨fun y => absurd y z0, fun _ => ⟨k11, wc rfl, cm_mean (lo := true) (hM.fr f1 (by omega)) hv fun S2 h2 f2 => ⟨fun _ => go A S2 _ _ _ ⟨hA, ho, h1.fr f2 (Nat.le_refl _), h2, hw, hz, by omega, by omega⟩, fun z => absurd ((lgc_eq _ _).2 rfl) z⟩⟩⟩⟩⟩⟩
set_option maxRecDepth 20000 in
theorem lc_12 (hJ : Cl (mL_law b L xs) (Run 14) K (601024, 7293034) J) (I : LI x i A S V) (hi : 6 * i + 6 ≤ L) (hL : L ≤ 3072) (go : ∀ (A' : qA) (S' : qS) (V' : VSt) (w5 w6 : Option Value), LI x (i + 1) A' S' V' → J 1706 [some (.ref b), some (.ref x), some (.ref (x + 467)), some (.ref (x + 494)), some (.int (nI (6 * i))), w5, w6] [] A' S') : J 655 [some (.ref b), some (.ref x), some (.ref (x + 467)), some (.ref (x + 494)), some (.int (nI (6 * i))), w5, w6] [] A S := by
  obtain ⟨hA, ho, hX, hM, hw, hz, hc, hs⟩ := I
  have hv := hw.1
  have k9 := hX.k9
  have k11 := hM.1.1.1
  have vp1 : vp_in (nI (6 * i) + 1) L := vp_add (c := 1) (by omega) hL
  have vp2 : vp_in (nI (6 * i) + 2) L := vp_add (c := 2) (by omega) hL
  have vp3 : vp_in (nI (6 * i) + 3) L := vp_add (c := 3) (by omega) hL
  have vp4 : vp_in (nI (6 * i) + 4) L := vp_add (c := 4) (by omega) hL
  have vp5 : vp_in (nI (6 * i) + 5) L := vp_add (c := 5) (by omega) hL
  exact sL_law_655 hJ ⟨rfl, vp1, rfl, vp2, k9, wc rfl, ct_worth hX fun S1 h1 f1 => ⟨rfl, vp1, rfl, vp2, k11, wc rfl, cm_worth (hM.fr f1 (by omega)) hv fun S2 h2 f2 => ⟨fun _ => go A S2 _ _ _ ⟨hA, ho, h1.fr f2 (Nat.le_refl _), h2, hw, hz, by omega, by omega⟩, fun z => absurd ((lgc_eq _ _).2 rfl) z⟩⟩⟩
set_option maxRecDepth 20000 in
theorem lc_13 (hJ : Cl (mL_law b L xs) (Run 14) K (601024, 7293034) J) (I : LI x i A S V) (hi : 6 * i + 6 ≤ L) (hL : L ≤ 3072) (go : ∀ (A' : qA) (S' : qS) (V' : VSt) (w5 w6 : Option Value), LI x (i + 1) A' S' V' → J 1706 [some (.ref b), some (.ref x), some (.ref (x + 467)), some (.ref (x + 494)), some (.int (nI (6 * i))), w5, w6] [] A' S') : J 693 [some (.ref b), some (.ref x), some (.ref (x + 467)), some (.ref (x + 494)), some (.int (nI (6 * i))), w5, w6] [] A S := by
  obtain ⟨hA, ho, hX, hM, hw, hz, hc, hs⟩ := I
  have hv := hw.1
  have k9 := hX.k9
  have k11 := hM.1.1.1
  have vp1 : vp_in (nI (6 * i) + 1) L := vp_add (c := 1) (by omega) hL
  have vp2 : vp_in (nI (6 * i) + 2) L := vp_add (c := 2) (by omega) hL
  have vp3 : vp_in (nI (6 * i) + 3) L := vp_add (c := 3) (by omega) hL
  have vp4 : vp_in (nI (6 * i) + 4) L := vp_add (c := 4) (by omega) hL
  have vp5 : vp_in (nI (6 * i) + 5) L := vp_add (c := 5) (by omega) hL
  exact sL_law_693 hJ ⟨k9, wc rfl, ct_chain hX fun S1 h1 f1 => ⟨k11, wc rfl, cm_chain (hM.fr f1 (by omega)) hv fun S2 h2 f2 => ⟨fun _ => go A S2 _ _ _ ⟨hA, ho, h1.fr f2 (Nat.le_refl _), h2, hw, hz, by omega, by omega⟩, fun z => absurd rfl z⟩⟩⟩
set_option maxRecDepth 20000 in
theorem lc_14 (hJ : Cl (mL_law b L xs) (Run 14) K (601024, 7293034) J) (I : LI x i A S V) (hi : 6 * i + 6 ≤ L) (hL : L ≤ 3072) (go : ∀ (A' : qA) (S' : qS) (V' : VSt) (w5 w6 : Option Value), LI x (i + 1) A' S' V' → J 1706 [some (.ref b), some (.ref x), some (.ref (x + 467)), some (.ref (x + 494)), some (.int (nI (6 * i))), w5, w6] [] A' S') : J 706 [some (.ref b), some (.ref x), some (.ref (x + 467)), some (.ref (x + 494)), some (.int (nI (6 * i))), w5, w6] [] A S := by
  obtain ⟨hA, ho, hX, hM, hw, hz, hc, hs⟩ := I
  have hv := hw.1
  have k9 := hX.k9
  have k11 := hM.1.1.1
  have vp1 : vp_in (nI (6 * i) + 1) L := vp_add (c := 1) (by omega) hL
  have vp2 : vp_in (nI (6 * i) + 2) L := vp_add (c := 2) (by omega) hL
  have vp3 : vp_in (nI (6 * i) + 3) L := vp_add (c := 3) (by omega) hL
  have vp4 : vp_in (nI (6 * i) + 4) L := vp_add (c := 4) (by omega) hL
  have vp5 : vp_in (nI (6 * i) + 5) L := vp_add (c := 5) (by omega) hL
  exact sL_law_706 hJ ⟨rfl, vp1, k9, wc rfl, ct_gain hX hv fun S1 h1 f1 => ⟨rfl, vp1, k11, wc rfl, cm_gain (hM.fr f1 (by omega)) hv fun S2 h2 f2 => ⟨fun _ => go A S2 _ _ _ ⟨hA, ho, h1.fr f2 (Nat.le_refl _), h2, hw, hz, by omega, by omega⟩, fun z => absurd ((lgc_eq _ _).2 rfl) z⟩⟩⟩
set_option maxRecDepth 20000 in
theorem lc_15 (hJ : Cl (mL_law b L xs) (Run 14) K (601024, 7293034) J) (I : LI x i A S V) (hi : 6 * i + 6 ≤ L) (hL : L ≤ 3072) (go : ∀ (A' : qA) (S' : qS) (V' : VSt) (w5 w6 : Option Value), LI x (i + 1) A' S' V' → J 1706 [some (.ref b), some (.ref x), some (.ref (x + 467)), some (.ref (x + 494)), some (.int (nI (6 * i))), w5, w6] [] A' S') : J 732 [some (.ref b), some (.ref x), some (.ref (x + 467)), some (.ref (x + 494)), some (.int (nI (6 * i))), w5, w6] [] A S := by
  obtain ⟨hA, ho, hX, hM, hw, hz, hc, hs⟩ := I
  have hv := hw.1
  have k9 := hX.k9
  have k11 := hM.1.1.1
  have vp1 : vp_in (nI (6 * i) + 1) L := vp_add (c := 1) (by omega) hL
  have vp2 : vp_in (nI (6 * i) + 2) L := vp_add (c := 2) (by omega) hL
  have vp3 : vp_in (nI (6 * i) + 3) L := vp_add (c := 3) (by omega) hL
  have vp4 : vp_in (nI (6 * i) + 4) L := vp_add (c := 4) (by omega) hL
  have vp5 : vp_in (nI (6 * i) + 5) L := vp_add (c := 5) (by omega) hL
  exact sL_law_732 hJ ⟨rfl, vp1, k9, wc rfl, ct_deferred hX hv fun S1 h1 f1 => ⟨rfl, vp1, k11, wc rfl, cm_deferred (hM.fr f1 (by omega)) hv fun S2 h2 f2 => ⟨fun _ => go A S2 _ _ _ ⟨hA, ho, h1.fr f2 (Nat.le_refl _), h2, hw, hz, by omega, by omega⟩, fun z => absurd ((lgc_eq _ _).2 rfl) z⟩⟩⟩
set_option maxRecDepth 20000 in
theorem lc_16 (hJ : Cl (mL_law b L xs) (Run 14) K (601024, 7293034) J) (I : LI x i A S V) (hi : 6 * i + 6 ≤ L) (hL : L ≤ 3072) (go : ∀ (A' : qA) (S' : qS) (V' : VSt) (w5 w6 : Option Value), LI x (i + 1) A' S' V' → J 1706 [some (.ref b), some (.ref x), some (.ref (x + 467)), some (.ref (x + 494)), some (.int (nI (6 * i))), w5, w6] [] A' S') : J 758 [some (.ref b), some (.ref x), some (.ref (x + 467)), some (.ref (x + 494)), some (.int (nI (6 * i))), w5, w6] [] A S := by
  obtain ⟨hA, ho, hX, hM, hw, hz, hc, hs⟩ := I
  have hv := hw.1
  have k9 := hX.k9
  have k11 := hM.1.1.1
  have vp1 : vp_in (nI (6 * i) + 1) L := vp_add (c := 1) (by omega) hL
  have vp2 : vp_in (nI (6 * i) + 2) L := vp_add (c := 2) (by omega) hL
  have vp3 : vp_in (nI (6 * i) + 3) L := vp_add (c := 3) (by omega) hL
  have vp4 : vp_in (nI (6 * i) + 4) L := vp_add (c := 4) (by omega) hL
  have vp5 : vp_in (nI (6 * i) + 5) L := vp_add (c := 5) (by omega) hL
  exact sL_law_758 hJ ⟨rfl, vp1, k9, wc rfl, ct_pieces hX hv fun S1 h1 f1 => ⟨rfl, vp1, k11, wc rfl, cm_pieces (hM.fr f1 (by omega)) hv fun S2 h2 f2 => ⟨fun _ => go A S2 _ _ _ ⟨hA, ho, h1.fr f2 (Nat.le_refl _), h2, hw, hz, by omega, by omega⟩, fun z => absurd rfl z⟩⟩⟩
set_option maxRecDepth 20000 in
theorem lc_17 (hJ : Cl (mL_law b L xs) (Run 14) K (601024, 7293034) J) (I : LI x i A S V) (hi : 6 * i + 6 ≤ L) (hL : L ≤ 3072) (go : ∀ (A' : qA) (S' : qS) (V' : VSt) (w5 w6 : Option Value), LI x (i + 1) A' S' V' → J 1706 [some (.ref b), some (.ref x), some (.ref (x + 467)), some (.ref (x + 494)), some (.int (nI (6 * i))), w5, w6] [] A' S') : J 783 [some (.ref b), some (.ref x), some (.ref (x + 467)), some (.ref (x + 494)), some (.int (nI (6 * i))), w5, w6] [] A S := by
  obtain ⟨hA, ho, hX, hM, hw, hz, hc, hs⟩ := I
  have hv := hw.1
  have k9 := hX.k9
  have k11 := hM.1.1.1
  have vp1 : vp_in (nI (6 * i) + 1) L := vp_add (c := 1) (by omega) hL
  have vp2 : vp_in (nI (6 * i) + 2) L := vp_add (c := 2) (by omega) hL
  have vp3 : vp_in (nI (6 * i) + 3) L := vp_add (c := 3) (by omega) hL
  have vp4 : vp_in (nI (6 * i) + 4) L := vp_add (c := 4) (by omega) hL
  have vp5 : vp_in (nI (6 * i) + 5) L := vp_add (c := 5) (by omega) hL
  exact sL_law_783 hJ ⟨rfl, vp1, rfl, vp2, rfl, vp3, k9, wc rfl, ct_piece hX hv fun S1 h1 f1 => ⟨rfl, vp1, rfl, vp2, rfl, vp3, k11, wc rfl, cm_piece (hM.fr f1 (by omega)) hv fun S2 h2 f2 => ⟨fun _ => go A S2 _ _ _ ⟨hA, ho, h1.fr f2 (Nat.le_refl _), h2, hw, hz, by omega, by omega⟩, fun z => absurd rfl z⟩⟩⟩
set_option maxRecDepth 20000 in
theorem lc_18 (hJ : Cl (mL_law b L xs) (Run 14) K (601024, 7293034) J) (I : LI x i A S V) (hi : 6 * i + 6 ≤ L) (hL : L ≤ 3072) (go : ∀ (A' : qA) (S' : qS) (V' : VSt) (w5 w6 : Option Value), LI x (i + 1) A' S' V' → J 1706 [some (.ref b), some (.ref x), some (.ref (x + 467)), some (.ref (x + 494)), some (.int (nI (6 * i))), w5, w6] [] A' S') : J 832 [some (.ref b), some (.ref x), some (.ref (x + 467)), some (.ref (x + 494)), some (.int (nI (6 * i))), w5, w6] [] A S := by
  obtain ⟨hA, ho, hX, hM, hw, hz, hc, hs⟩ := I
  have hv := hw.1
  have k9 := hX.k9
  have k11 := hM.1.1.1
  have vp1 : vp_in (nI (6 * i) + 1) L := vp_add (c := 1) (by omega) hL
  have vp2 : vp_in (nI (6 * i) + 2) L := vp_add (c := 2) (by omega) hL
  have vp3 : vp_in (nI (6 * i) + 3) L := vp_add (c := 3) (by omega) hL
  have vp4 : vp_in (nI (6 * i) + 4) L := vp_add (c := 4) (by omega) hL
  have vp5 : vp_in (nI (6 * i) + 5) L := vp_add (c := 5) (by omega) hL
  exact sL_law_832 hJ ⟨rfl, vp1, rfl, vp2, rfl, vp3, k9, wc rfl, ct_pieceSum hX hv fun S1 h1 f1 => ⟨rfl, vp1, rfl, vp2, rfl, vp3, k11, wc rfl, cm_pieceSum (hM.fr f1 (by omega)) hv fun S2 h2 f2 => ⟨fun _ => go A S2 _ _ _ ⟨hA, ho, h1.fr f2 (Nat.le_refl _), h2, hw, hz, by omega, by omega⟩, fun z => absurd ((lgc_eq _ _).2 rfl) z⟩⟩⟩
set_option maxRecDepth 20000 in
theorem lc_19 (hJ : Cl (mL_law b L xs) (Run 14) K (601024, 7293034) J) (I : LI x i A S V) (hi : 6 * i + 6 ≤ L) (hL : L ≤ 3072) (go : ∀ (A' : qA) (S' : qS) (V' : VSt) (w5 w6 : Option Value), LI x (i + 1) A' S' V' → J 1706 [some (.ref b), some (.ref x), some (.ref (x + 467)), some (.ref (x + 494)), some (.int (nI (6 * i))), w5, w6] [] A' S') : J 882 [some (.ref b), some (.ref x), some (.ref (x + 467)), some (.ref (x + 494)), some (.int (nI (6 * i))), w5, w6] [] A S := by
  obtain ⟨hA, ho, hX, hM, hw, hz, hc, hs⟩ := I
  have hv := hw.1
  have k9 := hX.k9
  have k11 := hM.1.1.1
  have vp1 : vp_in (nI (6 * i) + 1) L := vp_add (c := 1) (by omega) hL
  have vp2 : vp_in (nI (6 * i) + 2) L := vp_add (c := 2) (by omega) hL
  have vp3 : vp_in (nI (6 * i) + 3) L := vp_add (c := 3) (by omega) hL
  have vp4 : vp_in (nI (6 * i) + 4) L := vp_add (c := 4) (by omega) hL
  have vp5 : vp_in (nI (6 * i) + 5) L := vp_add (c := 5) (by omega) hL
  exact sL_law_882 hJ ⟨k9, wc rfl, ct_gains hX fun S1 h1 f1 => ⟨k11, wc rfl, cm_gains (hM.fr f1 (by omega)) hv fun S2 h2 f2 => ⟨fun _ => go A S2 _ _ _ ⟨hA, ho, h1.fr f2 (Nat.le_refl _), h2, hw, hz, by omega, by omega⟩, fun z => absurd ((lgc_eq _ _).2 rfl) z⟩⟩⟩
set_option maxRecDepth 20000 in
theorem lc_20 (hJ : Cl (mL_law b L xs) (Run 14) K (601024, 7293034) J) (I : LI x i A S V) (hi : 6 * i + 6 ≤ L) (hL : L ≤ 3072) (go : ∀ (A' : qA) (S' : qS) (V' : VSt) (w5 w6 : Option Value), LI x (i + 1) A' S' V' → J 1706 [some (.ref b), some (.ref x), some (.ref (x + 467)), some (.ref (x + 494)), some (.int (nI (6 * i))), w5, w6] [] A' S') : J 896 [some (.ref b), some (.ref x), some (.ref (x + 467)), some (.ref (x + 494)), some (.int (nI (6 * i))), w5, w6] [] A S := by
  obtain ⟨hA, ho, hX, hM, hw, hz, hc, hs⟩ := I
  have hv := hw.1
  have k9 := hX.k9
  have k11 := hM.1.1.1
  have vp1 : vp_in (nI (6 * i) + 1) L := vp_add (c := 1) (by omega) hL
  have vp2 : vp_in (nI (6 * i) + 2) L := vp_add (c := 2) (by omega) hL
  have vp3 : vp_in (nI (6 * i) + 3) L := vp_add (c := 3) (by omega) hL
  have vp4 : vp_in (nI (6 * i) + 4) L := vp_add (c := 4) (by omega) hL
  have vp5 : vp_in (nI (6 * i) + 5) L := vp_add (c := 5) (by omega) hL
  exact sL_law_896 hJ ⟨k9, wc rfl, ct_deferrals hX fun S1 h1 f1 => ⟨k11, wc rfl, cm_deferrals (hM.fr f1 (by omega)) hv fun S2 h2 f2 => ⟨fun _ => go A S2 _ _ _ ⟨hA, ho, h1.fr f2 (Nat.le_refl _), h2, hw, hz, by omega, by omega⟩, fun z => absurd ((lgc_eq _ _).2 rfl) z⟩⟩⟩
set_option maxRecDepth 20000 in
theorem lc_21 (hJ : Cl (mL_law b L xs) (Run 14) K (601024, 7293034) J) (I : LI x i A S V) (hi : 6 * i + 6 ≤ L) (hL : L ≤ 3072) (go : ∀ (A' : qA) (S' : qS) (V' : VSt) (w5 w6 : Option Value), LI x (i + 1) A' S' V' → J 1706 [some (.ref b), some (.ref x), some (.ref (x + 467)), some (.ref (x + 494)), some (.int (nI (6 * i))), w5, w6] [] A' S') : J 910 [some (.ref b), some (.ref x), some (.ref (x + 467)), some (.ref (x + 494)), some (.int (nI (6 * i))), w5, w6] [] A S := by
  obtain ⟨hA, ho, hX, hM, hw, hz, hc, hs⟩ := I
  have hv := hw.1
  have k9 := hX.k9
  have k11 := hM.1.1.1
  have vp1 : vp_in (nI (6 * i) + 1) L := vp_add (c := 1) (by omega) hL
  have vp2 : vp_in (nI (6 * i) + 2) L := vp_add (c := 2) (by omega) hL
  have vp3 : vp_in (nI (6 * i) + 3) L := vp_add (c := 3) (by omega) hL
  have vp4 : vp_in (nI (6 * i) + 4) L := vp_add (c := 4) (by omega) hL
  have vp5 : vp_in (nI (6 * i) + 5) L := vp_add (c := 5) (by omega) hL
  exact sL_law_910 hJ ⟨k9, wc rfl, ct_lost hX fun S1 h1 f1 => ⟨k11, wc rfl, cm_lost (hM.fr f1 (by omega)) hv fun S2 h2 f2 => ⟨fun _ => go A S2 _ _ _ ⟨hA, ho, h1.fr f2 (Nat.le_refl _), h2, hw, hz, by omega, by omega⟩, fun z => absurd ((lgc_eq _ _).2 rfl) z⟩⟩⟩
set_option maxRecDepth 20000 in
theorem lc_22 (hJ : Cl (mL_law b L xs) (Run 14) K (601024, 7293034) J) (I : LI x i A S V) (hi : 6 * i + 6 ≤ L) (hL : L ≤ 3072) (go : ∀ (A' : qA) (S' : qS) (V' : VSt) (w5 w6 : Option Value), LI x (i + 1) A' S' V' → J 1706 [some (.ref b), some (.ref x), some (.ref (x + 467)), some (.ref (x + 494)), some (.int (nI (6 * i))), w5, w6] [] A' S') : J 924 [some (.ref b), some (.ref x), some (.ref (x + 467)), some (.ref (x + 494)), some (.int (nI (6 * i))), w5, w6] [] A S := by
  obtain ⟨hA, ho, hX, hM, hw, hz, hc, hs⟩ := I
  have hv := hw.1
  have k9 := hX.k9
  have k11 := hM.1.1.1
  have vp1 : vp_in (nI (6 * i) + 1) L := vp_add (c := 1) (by omega) hL
  have vp2 : vp_in (nI (6 * i) + 2) L := vp_add (c := 2) (by omega) hL
  have vp3 : vp_in (nI (6 * i) + 3) L := vp_add (c := 3) (by omega) hL
  have vp4 : vp_in (nI (6 * i) + 4) L := vp_add (c := 4) (by omega) hL
  have vp5 : vp_in (nI (6 * i) + 5) L := vp_add (c := 5) (by omega) hL
  exact sL_law_924 hJ ⟨k9, wc rfl, ct_open hX fun S1 h1 f1 => ⟨k11, wc rfl, cm_open (hM.fr f1 (by omega)) hv fun S2 h2 f2 => ⟨fun _ => go A S2 _ _ _ ⟨hA, ho, h1.fr f2 (Nat.le_refl _), h2, hw, hz, by omega, by omega⟩, fun z => absurd rfl z⟩⟩⟩
set_option maxRecDepth 20000 in
theorem lc_23 (hJ : Cl (mL_law b L xs) (Run 14) K (601024, 7293034) J) (I : LI x i A S V) (hi : 6 * i + 6 ≤ L) (hL : L ≤ 3072) (go : ∀ (A' : qA) (S' : qS) (V' : VSt) (w5 w6 : Option Value), LI x (i + 1) A' S' V' → J 1706 [some (.ref b), some (.ref x), some (.ref (x + 467)), some (.ref (x + 494)), some (.int (nI (6 * i))), w5, w6] [] A' S') : J 937 [some (.ref b), some (.ref x), some (.ref (x + 467)), some (.ref (x + 494)), some (.int (nI (6 * i))), w5, w6] [] A S := by
  obtain ⟨hA, ho, hX, hM, hw, hz, hc, hs⟩ := I
  have hv := hw.1
  have k9 := hX.k9
  have k11 := hM.1.1.1
  have vp1 : vp_in (nI (6 * i) + 1) L := vp_add (c := 1) (by omega) hL
  have vp2 : vp_in (nI (6 * i) + 2) L := vp_add (c := 2) (by omega) hL
  have vp3 : vp_in (nI (6 * i) + 3) L := vp_add (c := 3) (by omega) hL
  have vp4 : vp_in (nI (6 * i) + 4) L := vp_add (c := 4) (by omega) hL
  have vp5 : vp_in (nI (6 * i) + 5) L := vp_add (c := 5) (by omega) hL
  exact sL_law_937 hJ ⟨rfl, vp1, rfl, vp2, k9, wc rfl, ct_byRule hX hv fun S1 h1 f1 => ⟨rfl, vp1, rfl, vp2, k11, wc rfl, cm_byRule (hM.fr f1 (by omega)) hv fun S2 h2 f2 => ⟨fun _ => go A S2 _ _ _ ⟨hA, ho, h1.fr f2 (Nat.le_refl _), h2, hw, hz, by omega, by omega⟩, fun z => absurd ((lgc_eq _ _).2 rfl) z⟩⟩⟩
set_option maxRecDepth 20000 in
theorem lc_24 (hJ : Cl (mL_law b L xs) (Run 14) K (601024, 7293034) J) (I : LI x i A S V) (hi : 6 * i + 6 ≤ L) (hL : L ≤ 3072) (go : ∀ (A' : qA) (S' : qS) (V' : VSt) (w5 w6 : Option Value), LI x (i + 1) A' S' V' → J 1706 [some (.ref b), some (.ref x), some (.ref (x + 467)), some (.ref (x + 494)), some (.int (nI (6 * i))), w5, w6] [] A' S') : J 975 [some (.ref b), some (.ref x), some (.ref (x + 467)), some (.ref (x + 494)), some (.int (nI (6 * i))), w5, w6] [] A S := by
  obtain ⟨hA, ho, hX, hM, hw, hz, hc, hs⟩ := I
  have hv := hw.1
  have k9 := hX.k9
  have k11 := hM.1.1.1
  have vp1 : vp_in (nI (6 * i) + 1) L := vp_add (c := 1) (by omega) hL
  have vp2 : vp_in (nI (6 * i) + 2) L := vp_add (c := 2) (by omega) hL
  have vp3 : vp_in (nI (6 * i) + 3) L := vp_add (c := 3) (by omega) hL
  have vp4 : vp_in (nI (6 * i) + 4) L := vp_add (c := 4) (by omega) hL
  have vp5 : vp_in (nI (6 * i) + 5) L := vp_add (c := 5) (by omega) hL
  exact sL_law_975 hJ ⟨rfl, vp1, k9, wc rfl, ct_leastRule hX hv fun S1 h1 f1 => ⟨rfl, vp1, k11, wc rfl, cm_leastRule (hM.fr f1 (by omega)) hv fun S2 h2 f2 => ⟨fun _ => go A S2 _ _ _ ⟨hA, ho, h1.fr f2 (Nat.le_refl _), h2, hw, hz, by omega, by omega⟩, fun z => absurd rfl z⟩⟩⟩
set_option maxRecDepth 20000 in
theorem lc_25 (hJ : Cl (mL_law b L xs) (Run 14) K (601024, 7293034) J) (I : LI x i A S V) (hi : 6 * i + 6 ≤ L) (hL : L ≤ 3072) (go : ∀ (A' : qA) (S' : qS) (V' : VSt) (w5 w6 : Option Value), LI x (i + 1) A' S' V' → J 1706 [some (.ref b), some (.ref x), some (.ref (x + 467)), some (.ref (x + 494)), some (.int (nI (6 * i))), w5, w6] [] A' S') : J 1000 [some (.ref b), some (.ref x), some (.ref (x + 467)), some (.ref (x + 494)), some (.int (nI (6 * i))), w5, w6] [] A S := by
  obtain ⟨hA, ho, hX, hM, hw, hz, hc, hs⟩ := I
  have hv := hw.1
  have k9 := hX.k9
  have k11 := hM.1.1.1
  have vp1 : vp_in (nI (6 * i) + 1) L := vp_add (c := 1) (by omega) hL
  have vp2 : vp_in (nI (6 * i) + 2) L := vp_add (c := 2) (by omega) hL
  have vp3 : vp_in (nI (6 * i) + 3) L := vp_add (c := 3) (by omega) hL
  have vp4 : vp_in (nI (6 * i) + 4) L := vp_add (c := 4) (by omega) hL
  have vp5 : vp_in (nI (6 * i) + 5) L := vp_add (c := 5) (by omega) hL
  exact sL_law_1000 hJ ⟨rfl, vp1, k9, wc rfl, ct_byWindow hX hv fun S1 h1 f1 => ⟨rfl, vp1, k11, wc rfl, cm_byWindow (hM.fr f1 (by omega)) hv fun S2 h2 f2 => ⟨fun _ => go A S2 _ _ _ ⟨hA, ho, h1.fr f2 (Nat.le_refl _), h2, hw, hz, by omega, by omega⟩, fun z => absurd ((lgc_eq _ _).2 rfl) z⟩⟩⟩
set_option maxRecDepth 20000 in
theorem lc_26 (hJ : Cl (mL_law b L xs) (Run 14) K (601024, 7293034) J) (I : LI x i A S V) (hi : 6 * i + 6 ≤ L) (hL : L ≤ 3072) (go : ∀ (A' : qA) (S' : qS) (V' : VSt) (w5 w6 : Option Value), LI x (i + 1) A' S' V' → J 1706 [some (.ref b), some (.ref x), some (.ref (x + 467)), some (.ref (x + 494)), some (.int (nI (6 * i))), w5, w6] [] A' S') : J 1026 [some (.ref b), some (.ref x), some (.ref (x + 467)), some (.ref (x + 494)), some (.int (nI (6 * i))), w5, w6] [] A S := by
  obtain ⟨hA, ho, hX, hM, hw, hz, hc, hs⟩ := I
  have hv := hw.1
  have k9 := hX.k9
  have k11 := hM.1.1.1
  have vp1 : vp_in (nI (6 * i) + 1) L := vp_add (c := 1) (by omega) hL
  have vp2 : vp_in (nI (6 * i) + 2) L := vp_add (c := 2) (by omega) hL
  have vp3 : vp_in (nI (6 * i) + 3) L := vp_add (c := 3) (by omega) hL
  have vp4 : vp_in (nI (6 * i) + 4) L := vp_add (c := 4) (by omega) hL
  have vp5 : vp_in (nI (6 * i) + 5) L := vp_add (c := 5) (by omega) hL
  exact sL_law_1026 hJ ⟨rfl, vp1, k9, wc rfl, ct_until hX hv fun S1 h1 f1 => ⟨rfl, vp1, k11, wc rfl, cm_until (hM.fr f1 (by omega)) hv fun S2 h2 f2 => ⟨fun _ => go A S2 _ _ _ ⟨hA, ho, h1.fr f2 (Nat.le_refl _), h2, hw, hz, by omega, by omega⟩, fun z => absurd ((lgc_eq _ _).2 rfl) z⟩⟩⟩
set_option maxRecDepth 20000 in
theorem lc_27 (hJ : Cl (mL_law b L xs) (Run 14) K (601024, 7293034) J) (I : LI x i A S V) (hi : 6 * i + 6 ≤ L) (hL : L ≤ 3072) (go : ∀ (A' : qA) (S' : qS) (V' : VSt) (w5 w6 : Option Value), LI x (i + 1) A' S' V' → J 1706 [some (.ref b), some (.ref x), some (.ref (x + 467)), some (.ref (x + 494)), some (.int (nI (6 * i))), w5, w6] [] A' S') : J 1052 [some (.ref b), some (.ref x), some (.ref (x + 467)), some (.ref (x + 494)), some (.int (nI (6 * i))), w5, w6] [] A S := by
  obtain ⟨hA, ho, hX, hM, hw, hz, hc, hs⟩ := I
  have hv := hw.1
  have k9 := hX.k9
  have k11 := hM.1.1.1
  have vp1 : vp_in (nI (6 * i) + 1) L := vp_add (c := 1) (by omega) hL
  have vp2 : vp_in (nI (6 * i) + 2) L := vp_add (c := 2) (by omega) hL
  have vp3 : vp_in (nI (6 * i) + 3) L := vp_add (c := 3) (by omega) hL
  have vp4 : vp_in (nI (6 * i) + 4) L := vp_add (c := 4) (by omega) hL
  have vp5 : vp_in (nI (6 * i) + 5) L := vp_add (c := 5) (by omega) hL
  exact sL_law_1052 hJ ⟨rfl, vp1, rfl, vp2, k9, wc rfl, ct_heldAt hX hv fun S1 h1 f1 => ⟨rfl, vp1, rfl, vp2, k11, wc rfl, cm_heldAt (hM.fr f1 (by omega)) hv fun S2 h2 f2 => ⟨fun _ => go A S2 _ _ _ ⟨hA, ho, h1.fr f2 (Nat.le_refl _), h2, hw, hz, by omega, by omega⟩, fun z => absurd rfl z⟩⟩⟩
set_option maxRecDepth 20000 in
theorem lc_28 (hJ : Cl (mL_law b L xs) (Run 14) K (601024, 7293034) J) (I : LI x i A S V) (hi : 6 * i + 6 ≤ L) (hL : L ≤ 3072) (go : ∀ (A' : qA) (S' : qS) (V' : VSt) (w5 w6 : Option Value), LI x (i + 1) A' S' V' → J 1706 [some (.ref b), some (.ref x), some (.ref (x + 467)), some (.ref (x + 494)), some (.int (nI (6 * i))), w5, w6] [] A' S') : J 1089 [some (.ref b), some (.ref x), some (.ref (x + 467)), some (.ref (x + 494)), some (.int (nI (6 * i))), w5, w6] [] A S := by
  obtain ⟨hA, ho, hX, hM, hw, hz, hc, hs⟩ := I
  have hv := hw.1
  have k9 := hX.k9
  have k11 := hM.1.1.1
  have vp1 : vp_in (nI (6 * i) + 1) L := vp_add (c := 1) (by omega) hL
  have vp2 : vp_in (nI (6 * i) + 2) L := vp_add (c := 2) (by omega) hL
  have vp3 : vp_in (nI (6 * i) + 3) L := vp_add (c := 3) (by omega) hL
  have vp4 : vp_in (nI (6 * i) + 4) L := vp_add (c := 4) (by omega) hL
  have vp5 : vp_in (nI (6 * i) + 5) L := vp_add (c := 5) (by omega) hL
  exact sL_law_1089 hJ ⟨rfl, vp1, k9, wc rfl, ct_later hX hv fun S1 h1 f1 => ⟨rfl, vp1, k11, wc rfl, cm_later (hM.fr f1 (by omega)) hv fun S2 h2 f2 => ⟨fun _ => go A S2 _ _ _ ⟨hA, ho, h1.fr f2 (Nat.le_refl _), h2, hw, hz, by omega, by omega⟩, fun z => absurd rfl z⟩⟩⟩
set_option maxRecDepth 20000 in
theorem lc_29 (hJ : Cl (mL_law b L xs) (Run 14) K (601024, 7293034) J) (I : LI x i A S V) (hi : 6 * i + 6 ≤ L) (hL : L ≤ 3072) (go : ∀ (A' : qA) (S' : qS) (V' : VSt) (w5 w6 : Option Value), LI x (i + 1) A' S' V' → J 1706 [some (.ref b), some (.ref x), some (.ref (x + 467)), some (.ref (x + 494)), some (.int (nI (6 * i))), w5, w6] [] A' S') : J 1114 [some (.ref b), some (.ref x), some (.ref (x + 467)), some (.ref (x + 494)), some (.int (nI (6 * i))), w5, w6] [] A S := by
  obtain ⟨hA, ho, hX, hM, hw, hz, hc, hs⟩ := I
  have hv := hw.1
  have k9 := hX.k9
  have k11 := hM.1.1.1
  have vp1 : vp_in (nI (6 * i) + 1) L := vp_add (c := 1) (by omega) hL
  have vp2 : vp_in (nI (6 * i) + 2) L := vp_add (c := 2) (by omega) hL
  have vp3 : vp_in (nI (6 * i) + 3) L := vp_add (c := 3) (by omega) hL
  have vp4 : vp_in (nI (6 * i) + 4) L := vp_add (c := 4) (by omega) hL
  have vp5 : vp_in (nI (6 * i) + 5) L := vp_add (c := 5) (by omega) hL
  exact sL_law_1114 hJ ⟨k9, wc rfl, ct_fits hX hv fun S1 h1 f1 => ⟨k11, wc rfl, cm_fits (hM.fr f1 (by omega)) hv fun S2 h2 f2 => ⟨fun _ => go A S2 _ _ _ ⟨hA, ho, h1.fr f2 (Nat.le_refl _), h2, hw, hz, by omega, by omega⟩, fun z => absurd rfl z⟩⟩⟩
set_option maxRecDepth 20000 in
theorem lc_30 (hJ : Cl (mL_law b L xs) (Run 14) K (601024, 7293034) J) (I : LI x i A S V) (hi : 6 * i + 6 ≤ L) (hL : L ≤ 3072) (go : ∀ (A' : qA) (S' : qS) (V' : VSt) (w5 w6 : Option Value), LI x (i + 1) A' S' V' → J 1706 [some (.ref b), some (.ref x), some (.ref (x + 467)), some (.ref (x + 494)), some (.int (nI (6 * i))), w5, w6] [] A' S') : J 1127 [some (.ref b), some (.ref x), some (.ref (x + 467)), some (.ref (x + 494)), some (.int (nI (6 * i))), w5, w6] [] A S := by
  obtain ⟨hA, ho, hX, hM, hw, hz, hc, hs⟩ := I
  have hv := hw.1
  have k9 := hX.k9
  have k11 := hM.1.1.1
  have vp1 : vp_in (nI (6 * i) + 1) L := vp_add (c := 1) (by omega) hL
  have vp2 : vp_in (nI (6 * i) + 2) L := vp_add (c := 2) (by omega) hL
  have vp3 : vp_in (nI (6 * i) + 3) L := vp_add (c := 3) (by omega) hL
  have vp4 : vp_in (nI (6 * i) + 4) L := vp_add (c := 4) (by omega) hL
  have vp5 : vp_in (nI (6 * i) + 5) L := vp_add (c := 5) (by omega) hL
  exact sL_law_1127 hJ ⟨rfl, vp1, k9, wc rfl, ct_fitAt hX hv fun S1 h1 f1 => ⟨rfl, vp1, k11, wc rfl, cm_fitAt (hM.fr f1 (by omega)) hv fun S2 h2 f2 => ⟨fun _ => go A S2 _ _ _ ⟨hA, ho, h1.fr f2 (Nat.le_refl _), h2, hw, hz, by omega, by omega⟩, fun z => absurd rfl z⟩⟩⟩
set_option maxRecDepth 20000 in
theorem lc_31 (hJ : Cl (mL_law b L xs) (Run 14) K (601024, 7293034) J) (I : LI x i A S V) (hi : 6 * i + 6 ≤ L) (hL : L ≤ 3072) (go : ∀ (A' : qA) (S' : qS) (V' : VSt) (w5 w6 : Option Value), LI x (i + 1) A' S' V' → J 1706 [some (.ref b), some (.ref x), some (.ref (x + 467)), some (.ref (x + 494)), some (.int (nI (6 * i))), w5, w6] [] A' S') : J 1152 [some (.ref b), some (.ref x), some (.ref (x + 467)), some (.ref (x + 494)), some (.int (nI (6 * i))), w5, w6] [] A S := by
  obtain ⟨hA, ho, hX, hM, hw, hz, hc, hs⟩ := I
  have hv := hw.1
  have k9 := hX.k9
  have k11 := hM.1.1.1
  have vp1 : vp_in (nI (6 * i) + 1) L := vp_add (c := 1) (by omega) hL
  have vp2 : vp_in (nI (6 * i) + 2) L := vp_add (c := 2) (by omega) hL
  have vp3 : vp_in (nI (6 * i) + 3) L := vp_add (c := 3) (by omega) hL
  have vp4 : vp_in (nI (6 * i) + 4) L := vp_add (c := 4) (by omega) hL
  have vp5 : vp_in (nI (6 * i) + 5) L := vp_add (c := 5) (by omega) hL
  exact sL_law_1152 hJ ⟨k9, wc rfl, ct_could hX hv fun S1 h1 f1 => ⟨k11, wc rfl, cm_could (hM.fr f1 (by omega)) hv fun S2 h2 f2 => ⟨fun _ => go A S2 _ _ _ ⟨hA, ho, h1.fr f2 (Nat.le_refl _), h2, hw, hz, by omega, by omega⟩, fun z => absurd rfl z⟩⟩⟩
set_option maxRecDepth 20000 in
theorem lc_32 (hJ : Cl (mL_law b L xs) (Run 14) K (601024, 7293034) J) (I : LI x i A S V) (hi : 6 * i + 6 ≤ L) (hL : L ≤ 3072) (go : ∀ (A' : qA) (S' : qS) (V' : VSt) (w5 w6 : Option Value), LI x (i + 1) A' S' V' → J 1706 [some (.ref b), some (.ref x), some (.ref (x + 467)), some (.ref (x + 494)), some (.int (nI (6 * i))), w5, w6] [] A' S') : J 1165 [some (.ref b), some (.ref x), some (.ref (x + 467)), some (.ref (x + 494)), some (.int (nI (6 * i))), w5, w6] [] A S := by
  obtain ⟨hA, ho, hX, hM, hw, hz, hc, hs⟩ := I
  have hv := hw.1
  have k9 := hX.k9
  have k11 := hM.1.1.1
  have vp1 : vp_in (nI (6 * i) + 1) L := vp_add (c := 1) (by omega) hL
  have vp2 : vp_in (nI (6 * i) + 2) L := vp_add (c := 2) (by omega) hL
  have vp3 : vp_in (nI (6 * i) + 3) L := vp_add (c := 3) (by omega) hL
  have vp4 : vp_in (nI (6 * i) + 4) L := vp_add (c := 4) (by omega) hL
  have vp5 : vp_in (nI (6 * i) + 5) L := vp_add (c := 5) (by omega) hL
  exact sL_law_1165 hJ ⟨k9, wc rfl, ct_surely hX hv fun S1 h1 f1 => ⟨k11, wc rfl, cm_surely (hM.fr f1 (by omega)) hv fun S2 h2 f2 => ⟨fun _ => go A S2 _ _ _ ⟨hA, ho, h1.fr f2 (Nat.le_refl _), h2, hw, hz, by omega, by omega⟩, fun z => absurd rfl z⟩⟩⟩
set_option maxRecDepth 20000 in
theorem lc_33 (hJ : Cl (mL_law b L xs) (Run 14) K (601024, 7293034) J) (I : LI x i A S V) (hi : 6 * i + 6 ≤ L) (hL : L ≤ 3072) (go : ∀ (A' : qA) (S' : qS) (V' : VSt) (w5 w6 : Option Value), LI x (i + 1) A' S' V' → J 1706 [some (.ref b), some (.ref x), some (.ref (x + 467)), some (.ref (x + 494)), some (.int (nI (6 * i))), w5, w6] [] A' S') : J 1178 [some (.ref b), some (.ref x), some (.ref (x + 467)), some (.ref (x + 494)), some (.int (nI (6 * i))), w5, w6] [] A S := by
  obtain ⟨hA, ho, hX, hM, hw, hz, hc, hs⟩ := I
  have hv := hw.1
  have k9 := hX.k9
  have k11 := hM.1.1.1
  have vp1 : vp_in (nI (6 * i) + 1) L := vp_add (c := 1) (by omega) hL
  have vp2 : vp_in (nI (6 * i) + 2) L := vp_add (c := 2) (by omega) hL
  have vp3 : vp_in (nI (6 * i) + 3) L := vp_add (c := 3) (by omega) hL
  have vp4 : vp_in (nI (6 * i) + 4) L := vp_add (c := 4) (by omega) hL
  have vp5 : vp_in (nI (6 * i) + 5) L := vp_add (c := 5) (by omega) hL
  exact sL_law_1178 hJ ⟨k9, wc rfl, ct_ask hX hv fun S1 h1 f1 => ⟨k11, wc rfl, cm_ask (hM.fr f1 (by omega)) hv fun S2 h2 f2 => ⟨fun _ => go A S2 _ _ _ ⟨hA, ho, h1.fr f2 (Nat.le_refl _), h2, hw, hz, by omega, by omega⟩, fun z => absurd rfl z⟩⟩⟩
set_option maxRecDepth 20000 in
theorem lc_34 (hJ : Cl (mL_law b L xs) (Run 14) K (601024, 7293034) J) (I : LI x i A S V) (hi : 6 * i + 6 ≤ L) (hL : L ≤ 3072) (go : ∀ (A' : qA) (S' : qS) (V' : VSt) (w5 w6 : Option Value), LI x (i + 1) A' S' V' → J 1706 [some (.ref b), some (.ref x), some (.ref (x + 467)), some (.ref (x + 494)), some (.int (nI (6 * i))), w5, w6] [] A' S') : J 1191 [some (.ref b), some (.ref x), some (.ref (x + 467)), some (.ref (x + 494)), some (.int (nI (6 * i))), w5, w6] [] A S := by
  obtain ⟨hA, ho, hX, hM, hw, hz, hc, hs⟩ := I
  have hv := hw.1
  have k9 := hX.k9
  have k11 := hM.1.1.1
  have vp1 : vp_in (nI (6 * i) + 1) L := vp_add (c := 1) (by omega) hL
  have vp2 : vp_in (nI (6 * i) + 2) L := vp_add (c := 2) (by omega) hL
  have vp3 : vp_in (nI (6 * i) + 3) L := vp_add (c := 3) (by omega) hL
  have vp4 : vp_in (nI (6 * i) + 4) L := vp_add (c := 4) (by omega) hL
  have vp5 : vp_in (nI (6 * i) + 5) L := vp_add (c := 5) (by omega) hL
  exact sL_law_1191 hJ ⟨k9, wc rfl, ct_askLeaves hX hv fun S1 h1 f1 => ⟨k11, wc rfl, cm_askLeaves (hM.fr f1 (by omega)) hv fun S2 h2 f2 => ⟨fun _ => go A S2 _ _ _ ⟨hA, ho, h1.fr f2 (Nat.le_refl _), h2, hw, hz, by omega, by omega⟩, fun z => absurd rfl z⟩⟩⟩
set_option maxRecDepth 20000 in
theorem lc_35 (hJ : Cl (mL_law b L xs) (Run 14) K (601024, 7293034) J) (I : LI x i A S V) (hi : 6 * i + 6 ≤ L) (hL : L ≤ 3072) (go : ∀ (A' : qA) (S' : qS) (V' : VSt) (w5 w6 : Option Value), LI x (i + 1) A' S' V' → J 1706 [some (.ref b), some (.ref x), some (.ref (x + 467)), some (.ref (x + 494)), some (.int (nI (6 * i))), w5, w6] [] A' S') : J 1204 [some (.ref b), some (.ref x), some (.ref (x + 467)), some (.ref (x + 494)), some (.int (nI (6 * i))), w5, w6] [] A S := by
  obtain ⟨hA, ho, hX, hM, hw, hz, hc, hs⟩ := I
  have hv := hw.1
  have k9 := hX.k9
  have k11 := hM.1.1.1
  have vp1 : vp_in (nI (6 * i) + 1) L := vp_add (c := 1) (by omega) hL
  have vp2 : vp_in (nI (6 * i) + 2) L := vp_add (c := 2) (by omega) hL
  have vp3 : vp_in (nI (6 * i) + 3) L := vp_add (c := 3) (by omega) hL
  have vp4 : vp_in (nI (6 * i) + 4) L := vp_add (c := 4) (by omega) hL
  have vp5 : vp_in (nI (6 * i) + 5) L := vp_add (c := 5) (by omega) hL
  exact sL_law_1204 hJ ⟨k9, wc rfl, ct_judge hX hv fun S1 h1 f1 => ⟨k11, wc rfl, cm_judge (hM.fr f1 (by omega)) hv fun S2 h2 f2 => ⟨fun _ => go A S2 _ _ _ ⟨hA, ho, h1.fr f2 (Nat.le_refl _), h2, hw, hz, by omega, by omega⟩, fun z => absurd rfl z⟩⟩⟩
set_option maxRecDepth 20000 in
theorem lc_36 (hJ : Cl (mL_law b L xs) (Run 14) K (601024, 7293034) J) (I : LI x i A S V) (hi : 6 * i + 6 ≤ L) (hL : L ≤ 3072) (go : ∀ (A' : qA) (S' : qS) (V' : VSt) (w5 w6 : Option Value), LI x (i + 1) A' S' V' → J 1706 [some (.ref b), some (.ref x), some (.ref (x + 467)), some (.ref (x + 494)), some (.int (nI (6 * i))), w5, w6] [] A' S') : J 1217 [some (.ref b), some (.ref x), some (.ref (x + 467)), some (.ref (x + 494)), some (.int (nI (6 * i))), w5, w6] [] A S := by
  obtain ⟨hA, ho, hX, hM, hw, hz, hc, hs⟩ := I
  have hv := hw.1
  have k9 := hX.k9
  have k11 := hM.1.1.1
  have vp1 : vp_in (nI (6 * i) + 1) L := vp_add (c := 1) (by omega) hL
  have vp2 : vp_in (nI (6 * i) + 2) L := vp_add (c := 2) (by omega) hL
  have vp3 : vp_in (nI (6 * i) + 3) L := vp_add (c := 3) (by omega) hL
  have vp4 : vp_in (nI (6 * i) + 4) L := vp_add (c := 4) (by omega) hL
  have vp5 : vp_in (nI (6 * i) + 5) L := vp_add (c := 5) (by omega) hL
  exact sL_law_1217 hJ ⟨rfl, vp1, rfl, vp2, k9, wc rfl, ct_drawnGains hX hv fun S1 h1 f1 => ⟨rfl, vp1, rfl, vp2, k11, wc rfl, cm_drawnGains (hM.fr f1 (by omega)) hv fun S2 h2 f2 => ⟨fun _ => go A S2 _ _ _ ⟨hA, ho, h1.fr f2 (Nat.le_refl _), h2, hw, hz, by omega, by omega⟩, fun z => absurd ((lgc_eq _ _).2 rfl) z⟩⟩⟩
set_option maxRecDepth 20000 in
theorem lc_37 (hJ : Cl (mL_law b L xs) (Run 14) K (601024, 7293034) J) (I : LI x i A S V) (hi : 6 * i + 6 ≤ L) (hL : L ≤ 3072) (go : ∀ (A' : qA) (S' : qS) (V' : VSt) (w5 w6 : Option Value), LI x (i + 1) A' S' V' → J 1706 [some (.ref b), some (.ref x), some (.ref (x + 467)), some (.ref (x + 494)), some (.int (nI (6 * i))), w5, w6] [] A' S') : J 1255 [some (.ref b), some (.ref x), some (.ref (x + 467)), some (.ref (x + 494)), some (.int (nI (6 * i))), w5, w6] [] A S := by
  obtain ⟨hA, ho, hX, hM, hw, hz, hc, hs⟩ := I
  have hv := hw.1
  have k9 := hX.k9
  have k11 := hM.1.1.1
  have vp1 : vp_in (nI (6 * i) + 1) L := vp_add (c := 1) (by omega) hL
  have vp2 : vp_in (nI (6 * i) + 2) L := vp_add (c := 2) (by omega) hL
  have vp3 : vp_in (nI (6 * i) + 3) L := vp_add (c := 3) (by omega) hL
  have vp4 : vp_in (nI (6 * i) + 4) L := vp_add (c := 4) (by omega) hL
  have vp5 : vp_in (nI (6 * i) + 5) L := vp_add (c := 5) (by omega) hL
  exact sL_law_1255 hJ ⟨rfl, vp1, rfl, vp2, rfl, vp3, k9, wc rfl, ct_drawnHeld hX hv fun S1 h1 f1 => ⟨rfl, vp1, rfl, vp2, rfl, vp3, k11, wc rfl, cm_drawnHeld (hM.fr f1 (by omega)) hv fun S2 h2 f2 => ⟨fun _ => go A S2 _ _ _ ⟨hA, ho, h1.fr f2 (Nat.le_refl _), h2, hw, hz, by omega, by omega⟩, fun z => absurd rfl z⟩⟩⟩
set_option maxRecDepth 20000 in
theorem lc_38 (hJ : Cl (mL_law b L xs) (Run 14) K (601024, 7293034) J) (I : LI x i A S V) (hi : 6 * i + 6 ≤ L) (hL : L ≤ 3072) (go : ∀ (A' : qA) (S' : qS) (V' : VSt) (w5 w6 : Option Value), LI x (i + 1) A' S' V' → J 1706 [some (.ref b), some (.ref x), some (.ref (x + 467)), some (.ref (x + 494)), some (.int (nI (6 * i))), w5, w6] [] A' S') : J 1304 [some (.ref b), some (.ref x), some (.ref (x + 467)), some (.ref (x + 494)), some (.int (nI (6 * i))), w5, w6] [] A S := by
  obtain ⟨hA, ho, hX, hM, hw, hz, hc, hs⟩ := I
  have hv := hw.1
  have k9 := hX.k9
  have k11 := hM.1.1.1
  have vp1 : vp_in (nI (6 * i) + 1) L := vp_add (c := 1) (by omega) hL
  have vp2 : vp_in (nI (6 * i) + 2) L := vp_add (c := 2) (by omega) hL
  have vp3 : vp_in (nI (6 * i) + 3) L := vp_add (c := 3) (by omega) hL
  have vp4 : vp_in (nI (6 * i) + 4) L := vp_add (c := 4) (by omega) hL
  have vp5 : vp_in (nI (6 * i) + 5) L := vp_add (c := 5) (by omega) hL
  exact sL_law_1304 hJ ⟨rfl, vp1, rfl, vp2, rfl, vp3, rfl, vp4, k9, wc rfl, ct_buy hX hv fun S1 h1 f1 => ⟨rfl, vp1, rfl, vp2, rfl, vp3, rfl, vp4, k11, wc rfl, cm_buy (hM.fr f1 (by omega)) hv fun S2 h2 f2 => ⟨fun _ => go A S2 _ _ _ ⟨hA, ho, h1.fr f2 (Nat.le_refl _), h2, hw.buy, hz, by omega, by omega⟩, fun z => absurd rfl z⟩⟩⟩
set_option maxRecDepth 20000 in
theorem lc_39 (hJ : Cl (mL_law b L xs) (Run 14) K (601024, 7293034) J) (I : LI x i A S V) (hi : 6 * i + 6 ≤ L) (hL : L ≤ 3072) (go : ∀ (A' : qA) (S' : qS) (V' : VSt) (w5 w6 : Option Value), LI x (i + 1) A' S' V' → J 1706 [some (.ref b), some (.ref x), some (.ref (x + 467)), some (.ref (x + 494)), some (.int (nI (6 * i))), w5, w6] [] A' S') : J 1365 [some (.ref b), some (.ref x), some (.ref (x + 467)), some (.ref (x + 494)), some (.int (nI (6 * i))), w5, w6] [] A S := by
  obtain ⟨hA, ho, hX, hM, hw, hz, hc, hs⟩ := I
  have hv := hw.1
  have k9 := hX.k9
  have k11 := hM.1.1.1
  have vp1 : vp_in (nI (6 * i) + 1) L := vp_add (c := 1) (by omega) hL
  have vp2 : vp_in (nI (6 * i) + 2) L := vp_add (c := 2) (by omega) hL
  have vp3 : vp_in (nI (6 * i) + 3) L := vp_add (c := 3) (by omega) hL
  have vp4 : vp_in (nI (6 * i) + 4) L := vp_add (c := 4) (by omega) hL
  have vp5 : vp_in (nI (6 * i) + 5) L := vp_add (c := 5) (by omega) hL
  exact sL_law_1365 hJ ⟨rfl, vp1, rfl, vp2, rfl, vp3, rfl, vp4, rfl, vp5, k9, wc rfl, ct_sell hX hv fun S1 h1 f1 => ⟨rfl, vp1, rfl, vp2, rfl, vp3, rfl, vp4, rfl, vp5, k11, wc rfl, cm_sell (hM.fr f1 (by omega)) hv fun S2 h2 f2 => ⟨fun _ => go A S2 _ _ _ ⟨hA, ho, h1.fr f2 (Nat.le_refl _), h2, hw.sell, hz, by omega, by omega⟩, fun z => absurd rfl z⟩⟩⟩
set_option maxRecDepth 20000 in
theorem lc_40 (hJ : Cl (mL_law b L xs) (Run 14) K (601024, 7293034) J) (I : LI x i A S V) (hi : 6 * i + 6 ≤ L) (hL : L ≤ 3072) (go : ∀ (A' : qA) (S' : qS) (V' : VSt) (w5 w6 : Option Value), LI x (i + 1) A' S' V' → J 1706 [some (.ref b), some (.ref x), some (.ref (x + 467)), some (.ref (x + 494)), some (.int (nI (6 * i))), w5, w6] [] A' S') : J 1438 [some (.ref b), some (.ref x), some (.ref (x + 467)), some (.ref (x + 494)), some (.int (nI (6 * i))), w5, w6] [] A S := by
  obtain ⟨hA, ho, hX, hM, hw, hz, hc, hs⟩ := I
  have hv := hw.1
  have k9 := hX.k9
  have k11 := hM.1.1.1
  have vp1 : vp_in (nI (6 * i) + 1) L := vp_add (c := 1) (by omega) hL
  have vp2 : vp_in (nI (6 * i) + 2) L := vp_add (c := 2) (by omega) hL
  have vp3 : vp_in (nI (6 * i) + 3) L := vp_add (c := 3) (by omega) hL
  have vp4 : vp_in (nI (6 * i) + 4) L := vp_add (c := 4) (by omega) hL
  have vp5 : vp_in (nI (6 * i) + 5) L := vp_add (c := 5) (by omega) hL
  exact sL_law_1438 hJ ⟨rfl, vp1, rfl, vp2, rfl, vp3, rfl, vp4, k9, wc rfl, ct_split hX hv fun S1 h1 f1 => ⟨rfl, vp1, rfl, vp2, rfl, vp3, rfl, vp4, k11, wc rfl, cm_split (hM.fr f1 (by omega)) hv fun S2 h2 f2 => ⟨fun _ => go A S2 _ _ _ ⟨hA, ho, h1.fr f2 (Nat.le_refl _), h2, hw.split, hz, by omega, by omega⟩, fun z => absurd rfl z⟩⟩⟩
set_option maxRecDepth 20000 in
theorem lc_41 (hJ : Cl (mL_law b L xs) (Run 14) K (601024, 7293034) J) (I : LI x i A S V) (hi : 6 * i + 6 ≤ L) (hL : L ≤ 3072) (go : ∀ (A' : qA) (S' : qS) (V' : VSt) (w5 w6 : Option Value), LI x (i + 1) A' S' V' → J 1706 [some (.ref b), some (.ref x), some (.ref (x + 467)), some (.ref (x + 494)), some (.int (nI (6 * i))), w5, w6] [] A' S') : J 1499 [some (.ref b), some (.ref x), some (.ref (x + 467)), some (.ref (x + 494)), some (.int (nI (6 * i))), w5, w6] [] A S := by
  obtain ⟨hA, ho, hX, hM, hw, hz, hc, hs⟩ := I
  have hv := hw.1
  have k9 := hX.k9
  have k11 := hM.1.1.1
  have vp1 : vp_in (nI (6 * i) + 1) L := vp_add (c := 1) (by omega) hL
  have vp2 : vp_in (nI (6 * i) + 2) L := vp_add (c := 2) (by omega) hL
  have vp3 : vp_in (nI (6 * i) + 3) L := vp_add (c := 3) (by omega) hL
  have vp4 : vp_in (nI (6 * i) + 4) L := vp_add (c := 4) (by omega) hL
  have vp5 : vp_in (nI (6 * i) + 5) L := vp_add (c := 5) (by omega) hL
  exact sL_law_1499 hJ ⟨rfl, vp1, k9, wc rfl, ct_strike hX hv fun S1 h1 f1 => ⟨rfl, vp1, k11, wc rfl, cm_strike (hM.fr f1 (by omega)) hv fun S2 h2 f2 => ⟨fun _ => go A S2 _ _ _ ⟨hA, ho, h1.fr f2 (Nat.le_refl _), h2, hw.strike, hz, by omega, by omega⟩, fun z => absurd rfl z⟩⟩⟩
set_option maxRecDepth 20000 in
theorem lc_42 (hJ : Cl (mL_law b L xs) (Run 14) K (601024, 7293034) J) (I : LI x i A S V) (hi : 6 * i + 6 ≤ L) (hL : L ≤ 3072) (go : ∀ (A' : qA) (S' : qS) (V' : VSt) (w5 w6 : Option Value), LI x (i + 1) A' S' V' → J 1706 [some (.ref b), some (.ref x), some (.ref (x + 467)), some (.ref (x + 494)), some (.int (nI (6 * i))), w5, w6] [] A' S') : J 1524 [some (.ref b), some (.ref x), some (.ref (x + 467)), some (.ref (x + 494)), some (.int (nI (6 * i))), w5, w6] [] A S := by
  obtain ⟨hA, ho, hX, hM, hw, hz, hc, hs⟩ := I
  have hv := hw.1
  have k9 := hX.k9
  have k11 := hM.1.1.1
  have vp1 : vp_in (nI (6 * i) + 1) L := vp_add (c := 1) (by omega) hL
  have vp2 : vp_in (nI (6 * i) + 2) L := vp_add (c := 2) (by omega) hL
  have vp3 : vp_in (nI (6 * i) + 3) L := vp_add (c := 3) (by omega) hL
  have vp4 : vp_in (nI (6 * i) + 4) L := vp_add (c := 4) (by omega) hL
  have vp5 : vp_in (nI (6 * i) + 5) L := vp_add (c := 5) (by omega) hL
  exact sL_law_1524 hJ ⟨rfl, vp1, rfl, vp2, k9, wc rfl, ct_rule hX hv fun S1 h1 f1 => ⟨rfl, vp1, rfl, vp2, k11, wc rfl, cm_rule (hM.fr f1 (by omega)) hv fun S2 h2 f2 => ⟨fun _ => go A S2 _ _ _ ⟨hA, ho, h1.fr f2 (Nat.le_refl _), h2, hw.rule, hz, by omega, by omega⟩, fun z => absurd rfl z⟩⟩⟩
set_option maxRecDepth 20000 in
theorem lc_43 (hJ : Cl (mL_law b L xs) (Run 14) K (601024, 7293034) J) (I : LI x i A S V) (hi : 6 * i + 6 ≤ L) (hL : L ≤ 3072) (go : ∀ (A' : qA) (S' : qS) (V' : VSt) (w5 w6 : Option Value), LI x (i + 1) A' S' V' → J 1706 [some (.ref b), some (.ref x), some (.ref (x + 467)), some (.ref (x + 494)), some (.int (nI (6 * i))), w5, w6] [] A' S') : J 1561 [some (.ref b), some (.ref x), some (.ref (x + 467)), some (.ref (x + 494)), some (.int (nI (6 * i))), w5, w6] [] A S := by
  obtain ⟨hA, ho, hX, hM, hw, hz, hc, hs⟩ := I
  have hv := hw.1
  have k9 := hX.k9
  have k11 := hM.1.1.1
  have vp1 : vp_in (nI (6 * i) + 1) L := vp_add (c := 1) (by omega) hL
  have vp2 : vp_in (nI (6 * i) + 2) L := vp_add (c := 2) (by omega) hL
  have vp3 : vp_in (nI (6 * i) + 3) L := vp_add (c := 3) (by omega) hL
  have vp4 : vp_in (nI (6 * i) + 4) L := vp_add (c := 4) (by omega) hL
  have vp5 : vp_in (nI (6 * i) + 5) L := vp_add (c := 5) (by omega) hL
  exact sL_law_1561 hJ ⟨k9, wc rfl, ct_undo hX hv fun S1 h1 f1 => ⟨k11, wc rfl, cm_undo (hM.fr f1 (by omega)) hv fun S2 h2 f2 => ⟨fun _ => go A S2 _ _ _ ⟨hA, ho, h1.fr f2 (Nat.le_refl _), h2, hw.undo, hz, by omega, by omega⟩, fun z => absurd rfl z⟩⟩⟩
set_option maxRecDepth 20000 in
theorem lc_44 (hJ : Cl (mL_law b L xs) (Run 14) K (601024, 7293034) J) (I : LI x i A S V) (hi : 6 * i + 6 ≤ L) (hL : L ≤ 3072) (go : ∀ (A' : qA) (S' : qS) (V' : VSt) (w5 w6 : Option Value), LI x (i + 1) A' S' V' → J 1706 [some (.ref b), some (.ref x), some (.ref (x + 467)), some (.ref (x + 494)), some (.int (nI (6 * i))), w5, w6] [] A' S') : J 1574 [some (.ref b), some (.ref x), some (.ref (x + 467)), some (.ref (x + 494)), some (.int (nI (6 * i))), w5, w6] [] A S := by
  obtain ⟨hA, ho, hX, hM, hw, hz, hc, hs⟩ := I
  have hv := hw.1
  have k9 := hX.k9
  have k11 := hM.1.1.1
  have vp1 : vp_in (nI (6 * i) + 1) L := vp_add (c := 1) (by omega) hL
  have vp2 : vp_in (nI (6 * i) + 2) L := vp_add (c := 2) (by omega) hL
  have vp3 : vp_in (nI (6 * i) + 3) L := vp_add (c := 3) (by omega) hL
  have vp4 : vp_in (nI (6 * i) + 4) L := vp_add (c := 4) (by omega) hL
  have vp5 : vp_in (nI (6 * i) + 5) L := vp_add (c := 5) (by omega) hL
  exact sL_law_1574 hJ ⟨k9, wc rfl, ct_image hX hv fun S1 h1 f1 => ⟨k11, wc rfl, cm_image (hM.fr f1 (by omega)) hv fun S2 h2 f2 => ⟨fun _ => go A S2 _ _ _ ⟨hA, ho, h1.fr f2 (Nat.le_refl _), h2, hw.image, hz, by omega, by omega⟩, fun z => absurd rfl z⟩⟩⟩
set_option maxRecDepth 20000 in
theorem lc_45 (hJ : Cl (mL_law b L xs) (Run 14) K (601024, 7293034) J) (I : LI x i A S V) (hi : 6 * i + 6 ≤ L) (hL : L ≤ 3072) (go : ∀ (A' : qA) (S' : qS) (V' : VSt) (w5 w6 : Option Value), LI x (i + 1) A' S' V' → J 1706 [some (.ref b), some (.ref x), some (.ref (x + 467)), some (.ref (x + 494)), some (.int (nI (6 * i))), w5, w6] [] A' S') : J 1587 [some (.ref b), some (.ref x), some (.ref (x + 467)), some (.ref (x + 494)), some (.int (nI (6 * i))), w5, w6] [] A S := by
  obtain ⟨hA, ho, hX, hM, hw, hz, hc, hs⟩ := I
  have hv := hw.1
  have k9 := hX.k9
  have k11 := hM.1.1.1
  have vp1 : vp_in (nI (6 * i) + 1) L := vp_add (c := 1) (by omega) hL
  have vp2 : vp_in (nI (6 * i) + 2) L := vp_add (c := 2) (by omega) hL
  have vp3 : vp_in (nI (6 * i) + 3) L := vp_add (c := 3) (by omega) hL
  have vp4 : vp_in (nI (6 * i) + 4) L := vp_add (c := 4) (by omega) hL
  have vp5 : vp_in (nI (6 * i) + 5) L := vp_add (c := 5) (by omega) hL
  exact sL_law_1587 hJ ⟨rfl, vp1, k9, wc rfl, ct_back hX hv fun S1 h1 f1 => ⟨rfl, vp1, k11, wc rfl, cm_back (hM.fr f1 (by omega)) hv fun S2 h2 f2 => ⟨fun _ => go A S2 _ _ _ ⟨hA, ho, h1.fr f2 (Nat.le_refl _), h2, hw.back, hz, by omega, by omega⟩, fun z => absurd rfl z⟩⟩⟩
set_option maxRecDepth 20000 in
theorem lc_46 (hJ : Cl (mL_law b L xs) (Run 14) K (601024, 7293034) J) (I : LI x i A S V) (hi : 6 * i + 6 ≤ L) (hL : L ≤ 3072) (go : ∀ (A' : qA) (S' : qS) (V' : VSt) (w5 w6 : Option Value), LI x (i + 1) A' S' V' → J 1706 [some (.ref b), some (.ref x), some (.ref (x + 467)), some (.ref (x + 494)), some (.int (nI (6 * i))), w5, w6] [] A' S') : J 1612 [some (.ref b), some (.ref x), some (.ref (x + 467)), some (.ref (x + 494)), some (.int (nI (6 * i))), w5, w6] [] A S := by
  obtain ⟨hA, ho, hX, hM, hw, hz, hc, hs⟩ := I
  have hv := hw.1
  have k9 := hX.k9
  have k11 := hM.1.1.1
  have vp1 : vp_in (nI (6 * i) + 1) L := vp_add (c := 1) (by omega) hL
  have vp2 : vp_in (nI (6 * i) + 2) L := vp_add (c := 2) (by omega) hL
  have vp3 : vp_in (nI (6 * i) + 3) L := vp_add (c := 3) (by omega) hL
  have vp4 : vp_in (nI (6 * i) + 4) L := vp_add (c := 4) (by omega) hL
  have vp5 : vp_in (nI (6 * i) + 5) L := vp_add (c := 5) (by omega) hL
  have fin : ∀ (A1 : qA) (S1 : qS) (y : Int32), AOk A1 → A1.1 = A.1 → A.2.1 ≤ A1.2.1 → A1.2.2.1 = A.2.2.1 + 1 → A1.2.2.2 = A.2.2.2 + 8 → XAt A1 S1 x V → MAt A1 S1 (x + 467) V → y = bI (aLed V (xs (nI (6 * i) + 1).toNatClampNeg)).isNone → (∀ t, aLed V (xs (nI (6 * i) + 1).toNatClampNeg) = some t → gL S1 (x + 494) 0 = (nI t).toInt64) → J 1623 [some (.ref b), some (.ref x), some (.ref (x + 467)), some (.ref (x + 494)), some (.int (nI (6 * i))), w5, w6] [.int y] A1 S1 := by
    intro A1 S1 y q1 q2 q3 q4 q5 hX1 hM1 ey et
    refine sL_law_1623 hJ ⟨rfl, vp1, hM1.1.1.1, wc rfl, cm_led hM1 hv fun S2 h2 f2 e2 => ⟨h2.1.1.1, wc rfl, cm_thrown h2 ?_⟩⟩
    have next : ∀ w5 w6, J 1706 [some (.ref b), some (.ref x), some (.ref (x + 467)), some (.ref (x + 494)), some (.int (nI (6 * i))), w5, w6] [] A1 S2 := fun w5 w6 => go A1 S2 V _ _ ⟨q1, by rw [q2]; exact ho, hX1.fr f2 (Nat.le_refl _), h2, hw, by omega, by omega, by omega⟩
    rw [e2, ey]
    refine ⟨fun _ => ⟨fun z0 => next _ _, fun z0 => ⟨1, by rw [q2]; exact ho, vp_n (i := 0) (by omega) (by omega), fun _ => next _ _, fun z => absurd ?_ z⟩⟩, fun z => absurd rfl z⟩
    cases ea : aLed V (xs (nI (6 * i) + 1).toNatClampNeg) with
    | none => rw [ea] at z0; exact absurd z0 (by decide)
    | some t =>
      rw [lgc_eq]
      have e3 : gL S2 (x + 494) 0 = gL S1 (x + 494) 0 := (f2 _ (by omega) 0).2.1
      show gL S2 (x + 494) 0 = (nI t).toInt64
      rw [e3]
      exact et t ea
  refine sL_law_1612 hJ ⟨rfl, vp1, k9, wc rfl, ⟨1, ho, by omega⟩, by show A.2.2.1 + 1 ≤ 601024; omega, by show A.2.2.2 + 8 ≤ 7293034; omega, ct_led hX hv (fun t et => ⟨rfl, Nat.le_refl _, rfl, rfl, Or.inl ⟨_, rfl, ?_⟩⟩) (fun en z hz' => ⟨rfl, hz', rfl, rfl, Or.inr ⟨rfl, ?_⟩⟩)⟩
  · have fr : Fr S (uL S (x + 494) 0 (nI t).toInt64) (x + 494) (x + 495) := Fr.rf.uL (by omega) (by omega)
    exact fin (A.1, A.2.1, A.2.2.1 + 1, A.2.2.2 + 8) _ 0 hA rfl (Nat.le_refl _) rfl rfl ((hX.fr fr (by omega)).ax fun _ _ q => q) ((hM.keep fun b' b1 b2 k => fr b' (by omega) k).ax fun _ _ q => q) (by rw [et]; rfl) (fun t' e' => by rw [et] at e'; cases e'; rw [gL_uL, if_pos ⟨rfl, rfl⟩])
  · exact fin (A.1, z, A.2.2.1 + 1, A.2.2.2 + 8) S 1 (fun b' z' q => Nat.lt_of_lt_of_le (hA b' z' q) hz') rfl hz' rfl rfl (hX.ax fun _ _ q => q) (hM.ax fun _ _ q => q) (by rw [en]; rfl) (fun t' e' => by rw [en] at e'; cases e')
set_option maxRecDepth 20000 in
theorem lc_47 (hJ : Cl (mL_law b L xs) (Run 14) K (601024, 7293034) J) (I : LI x i A S V) (hi : 6 * i + 6 ≤ L) (hL : L ≤ 3072) (go : ∀ (A' : qA) (S' : qS) (V' : VSt) (w5 w6 : Option Value), LI x (i + 1) A' S' V' → J 1706 [some (.ref b), some (.ref x), some (.ref (x + 467)), some (.ref (x + 494)), some (.int (nI (6 * i))), w5, w6] [] A' S') : J 1668 [some (.ref b), some (.ref x), some (.ref (x + 467)), some (.ref (x + 494)), some (.int (nI (6 * i))), w5, w6] [] A S := by
  obtain ⟨hA, ho, hX, hM, hw, hz, hc, hs⟩ := I
  have hv := hw.1
  have k9 := hX.k9
  have k11 := hM.1.1.1
  have vp1 : vp_in (nI (6 * i) + 1) L := vp_add (c := 1) (by omega) hL
  have vp2 : vp_in (nI (6 * i) + 2) L := vp_add (c := 2) (by omega) hL
  have vp3 : vp_in (nI (6 * i) + 3) L := vp_add (c := 3) (by omega) hL
  have vp4 : vp_in (nI (6 * i) + 4) L := vp_add (c := 4) (by omega) hL
  have vp5 : vp_in (nI (6 * i) + 5) L := vp_add (c := 5) (by omega) hL
  exact sL_law_1668 hJ ⟨rfl, vp1, k9, wc rfl, ct_size hX fun S1 h1 f1 => ⟨rfl, vp1, k11, wc rfl, cm_size (hM.fr f1 (by omega)) hv fun S2 h2 f2 => ⟨fun _ => go A S2 _ _ _ ⟨hA, ho, h1.fr f2 (Nat.le_refl _), h2, hw, hz, by omega, by omega⟩, fun z => absurd rfl z⟩⟩⟩
set_option maxRecDepth 20000 in
theorem lc_48 (hJ : Cl (mL_law b L xs) (Run 14) K (601024, 7293034) J) (I : LI x i A S V) (hi : 6 * i + 6 ≤ L) (hL : L ≤ 3072) (go : ∀ (A' : qA) (S' : qS) (V' : VSt) (w5 w6 : Option Value), LI x (i + 1) A' S' V' → J 1706 [some (.ref b), some (.ref x), some (.ref (x + 467)), some (.ref (x + 494)), some (.int (nI (6 * i))), w5, w6] [] A' S') : J 1693 [some (.ref b), some (.ref x), some (.ref (x + 467)), some (.ref (x + 494)), some (.int (nI (6 * i))), w5, w6] [] A S := by
  obtain ⟨hA, ho, hX, hM, hw, hz, hc, hs⟩ := I
  have hv := hw.1
  have k9 := hX.k9
  have k11 := hM.1.1.1
  have vp1 : vp_in (nI (6 * i) + 1) L := vp_add (c := 1) (by omega) hL
  have vp2 : vp_in (nI (6 * i) + 2) L := vp_add (c := 2) (by omega) hL
  have vp3 : vp_in (nI (6 * i) + 3) L := vp_add (c := 3) (by omega) hL
  have vp4 : vp_in (nI (6 * i) + 4) L := vp_add (c := 4) (by omega) hL
  have vp5 : vp_in (nI (6 * i) + 5) L := vp_add (c := 5) (by omega) hL
  exact sL_law_1693 hJ ⟨k9, wc rfl, ct_trouble hX fun S1 h1 f1 => ⟨k11, wc rfl, cm_trouble (hM.fr f1 (by omega)) fun S2 h2 f2 => ⟨fun _ => go A S2 _ _ _ ⟨hA, ho, h1.fr f2 (Nat.le_refl _), h2, hw, hz, by omega, by omega⟩, fun z => absurd rfl z⟩⟩⟩
set_option maxRecDepth 20000 in
theorem law_loop (hJ : Cl (mL_law b L xs) (Run 14) K (601024, 7293034) J) (hL : L ≤ 3072) (hK : ∀ A S, K (some (.int 1)) A S) : ∀ n i A S V (w5 w6 : Option Value), L < 6 * i + 6 * n + 6 → 6 * i ≤ L → LI x i A S V → J 23 [some (.ref b), some (.ref x), some (.ref (x + 467)), some (.ref (x + 494)), some (.int (nI (6 * i))), w5, w6] [] A S := by
  intro n
  induction n with
  | zero =>
    intro i A S V w5 w6 h1 h2 I
    exact sL_law_23 hJ ⟨rfl, fun _ => ⟨Or.inr rfl, hK A S⟩, fun z => absurd ((law_lt hL (by omega)).2 (by omega)) z⟩
  | succ n ih =>
    intro i A S V w5 w6 h1 h2 I
    refine sL_law_23 hJ ⟨rfl, fun _ => ⟨Or.inr rfl, hK A S⟩, fun z => ?_⟩
    rw [law_lt hL (by omega)] at z
    have next : ∀ (A' : qA) (S' : qS) (V' : VSt) (w5 w6 : Option Value), LI x (i + 1) A' S' V' → J 1706 [some (.ref b), some (.ref x), some (.ref (x + 467)), some (.ref (x + 494)), some (.int (nI (6 * i))), w5, w6] [] A' S' := by
      intro A' S' V' w5 w6 I'
      refine sL_law_1706 hJ ?_
      rw [show nI (6 * i) + 6 = nI (6 * (i + 1)) from nI_add (6 * i) 6]
      exact ih (i + 1) A' S' V' w5 w6 (by omega) (by omega) I'
    have nx : J 1706 [some (.ref b), some (.ref x), some (.ref (x + 467)), some (.ref (x + 494)), some (.int (nI (6 * i))), w5, w6] [] A S := next A S V _ _ ⟨I.1, I.2.1, I.2.2.1, I.2.2.2.1, I.2.2.2.2.1, I.2.2.2.2.2.1, by have := I.2.2.2.2.2.2.1; omega, by have := I.2.2.2.2.2.2.2; omega⟩
    exact ⟨rfl, vp_n (by omega) (by omega), ⟨fun _ => lc_0 hJ I (by omega) hL next, fun _ => ⟨fun _ => lc_1 hJ I (by omega) hL next, fun _ => ⟨fun _ => lc_2 hJ I (by omega) hL next, fun _ => ⟨fun _ => lc_3 hJ I (by omega) hL next, fun _ => ⟨fun _ => lc_4 hJ I (by omega) hL next, fun _ => ⟨fun _ => lc_5 hJ I (by omega) hL next, fun _ => ⟨fun _ => lc_6 hJ I (by omega) hL next, fun _ => ⟨fun _ => lc_7 hJ I (by omega) hL next, fun _ => ⟨fun _ => lc_8 hJ I (by omega) hL next, fun _ => ⟨fun _ => lc_9 hJ I (by omega) hL next, fun _ => ⟨fun _ => lc_10 hJ I (by omega) hL next, fun _ => ⟨fun _ => lc_11 hJ I (by omega) hL next, fun _ => ⟨fun _ => lc_12 hJ I (by omega) hL next, fun _ => ⟨fun _ => lc_13 hJ I (by omega) hL next, fun _ => ⟨fun _ => lc_14 hJ I (by omega) hL next, fun _ => ⟨fun _ => lc_15 hJ I (by omega) hL next, fun _ => ⟨fun _ => lc_16 hJ I (by omega) hL next, fun _ => ⟨fun _ => lc_17 hJ I (by omega) hL next, fun _ => ⟨fun _ => lc_18 hJ I (by omega) hL next, fun _ => ⟨fun _ => lc_19 hJ I (by omega) hL next, fun _ => ⟨fun _ => lc_20 hJ I (by omega) hL next, fun _ => ⟨fun _ => lc_21 hJ I (by omega) hL next, fun _ => ⟨fun _ => lc_22 hJ I (by omega) hL next, fun _ => ⟨fun _ => lc_23 hJ I (by omega) hL next, fun _ => ⟨fun _ => lc_24 hJ I (by omega) hL next, fun _ => ⟨fun _ => lc_25 hJ I (by omega) hL next, fun _ => ⟨fun _ => lc_26 hJ I (by omega) hL next, fun _ => ⟨fun _ => lc_27 hJ I (by omega) hL next, fun _ => ⟨fun _ => lc_28 hJ I (by omega) hL next, fun _ => ⟨fun _ => lc_29 hJ I (by omega) hL next, fun _ => ⟨fun _ => lc_30 hJ I (by omega) hL next, fun _ => ⟨fun _ => lc_31 hJ I (by omega) hL next, fun _ => ⟨fun _ => lc_32 hJ I (by omega) hL next, fun _ => ⟨fun _ => lc_33 hJ I (by omega) hL next, fun _ => ⟨fun _ => lc_34 hJ I (by omega) hL next, fun _ => ⟨fun _ => lc_35 hJ I (by omega) hL next, fun _ => ⟨fun _ => lc_36 hJ I (by omega) hL next, fun _ => ⟨fun _ => lc_37 hJ I (by omega) hL next, fun _ => ⟨fun _ => lc_38 hJ I (by omega) hL next, fun _ => ⟨fun _ => lc_39 hJ I (by omega) hL next, fun _ => ⟨fun _ => lc_40 hJ I (by omega) hL next, fun _ => ⟨fun _ => lc_41 hJ I (by omega) hL next, fun _ => ⟨fun _ => lc_42 hJ I (by omega) hL next, fun _ => ⟨fun _ => lc_43 hJ I (by omega) hL next, fun _ => ⟨fun _ => lc_44 hJ I (by omega) hL next, fun _ => ⟨fun _ => lc_45 hJ I (by omega) hL next, fun _ => ⟨fun _ => lc_46 hJ I (by omega) hL next, fun _ => ⟨fun _ => lc_47 hJ I (by omega) hL next, fun _ => ⟨fun _ => lc_48 hJ I (by omega) hL next, fun _ => nx⟩⟩⟩⟩⟩⟩⟩⟩⟩⟩⟩⟩⟩⟩⟩⟩⟩⟩⟩⟩⟩⟩⟩⟩⟩⟩⟩⟩⟩⟩⟩⟩⟩⟩⟩⟩⟩⟩⟩⟩⟩⟩⟩⟩⟩⟩⟩⟩⟩⟩
set_option maxRecDepth 20000 in
theorem law_pure (hJ : Cl (mL_law b L xs) (Run 14) K (601024, 7293034) J) (hL : L ≤ 3072) (hK : ∀ A S, K (some (.int 1)) A S) (hA : AOk A) (h1 : A.2.2.1 = 0) (h2 : A.2.2.2 = 0) : J 0 [some (.ref b), none, none, none, none, none, none] [] A S := by
  refine sL_law_0 hJ ⟨by show A.2.2.1 + 1 ≤ 601024; omega, by show A.2.2.2 + 17 ≤ 7293034; omega, fun A1 S1 eA1 eS1 => ?_⟩
  have c1 : A1.2.2.1 = A.2.2.1 + 1 := by rw [eA1]; rfl
  have s1 : A1.2.2.2 = A.2.2.2 + 17 := by rw [eA1]; rfl
  have N1 : Nw A1 S1 A.2.1 9 := Nw.new hA rfl eA1 eS1
  generalize A.2.1 = x at N1
  refine ⟨wc rfl, by show A1.2.2.1 + 466 ≤ 601024; omega, by show A1.2.2.2 + 19883 ≤ 7293034; omega, ct_init N1 fun A4 S3 cn hX => ?_⟩
  obtain ⟨n1, n2, n3, n4, n5, n6⟩ := cn
  refine ⟨by show A4.2.2.1 + 1 ≤ 601024; omega, by show A4.2.2.2 + 51 ≤ 7293034; omega, fun A5 S6 eA5 eS6 => ?_⟩
  have c5 : A5.2.2.1 = A4.2.2.1 + 1 := by rw [eA5]; rfl
  have s5 : A5.2.2.2 = A4.2.2.2 + 51 := by rw [eA5]; rfl
  have x5 : Ax A4 A5 := by rw [eA5]; exact n1.ax
  have N5 : Nw A5 S6 A4.2.1 11 := Nw.new n1 rfl eA5 eS6
  rw [n3] at N5 eS6 ⊢
  have F5 : Fr S3 S6 (x + 467) (x + 468) := by rw [eS6]; exact Fr.rf.uZ (by omega) (by omega)
  refine ⟨wc rfl, by show A5.2.2.1 + 26 ≤ 601024; omega, by show A5.2.2.2 + 10648 ≤ 7293034; omega, cm_init N5.1 N5.2.1 N5.2.2.1 (fun k => (N5.2.2.2 k).1) (fun k => (N5.2.2.2 k).2.2) fun A8 S7 a1 a2 a3 a4 a5 hM f7 => ?_⟩
  have e1 : (1 : Int32).toNatClampNeg = 1 := by decide
  rw [e1]
  refine ⟨by decide, by decide, by show A8.2.2.1 + 1 ≤ 601024; omega, by show A8.2.2.2 + 1 ≤ 7293034; omega, fun A9 S10 eA9 eS10 => ?_⟩
  have c9 : A9.2.2.1 = A8.2.2.1 + 1 := by rw [eA9]; rfl
  have s9 : A9.2.2.2 = A8.2.2.2 + 1 := by rw [eA9]; rfl
  have n9 : A9.2.1 = A8.2.1 + 1 := by rw [eA9]; rfl
  have x9 : Ax A8 A9 := by rw [eA9]; exact a1.ax
  have o9 : A9.1 A8.2.1 = some (14, 1) := by rw [eA9]; exact newA_at
  rw [a3] at eS10 o9 ⊢
  have F9 : Fr S7 S10 (x + 494) (x + 495) := by rw [eS10]; exact Fr.rf.uZ (by omega) (by omega)
  refine law_loop (x := x) hJ hL hK 512 0 A9 S10 V0 none none (by omega) (by omega) ⟨by rw [eA9]; exact a1.new, o9, ((((hX.fr F5 (Nat.le_refl _)).ax x5).fr f7 (Nat.le_refl _)).ax (a2.trans x9)).fr F9 (by omega), (hM.ax x9).keep fun b' b1 b2 k => F9 b' (by omega) k, vWk0, by omega, by omega, by omega⟩
end
