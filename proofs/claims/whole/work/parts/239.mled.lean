/-! the reference's call ledger: the call -/
theorem MH.cel {S S' : qS} {m : Nat} {H : Nat → List Lot} (h : MH S m H) (e : ∀ b, m + 8 ≤ b → b ≤ m + 14 → ∀ k, gI S' b k = gI S b k ∧ gL S' b k = gL S b k) : MH S' m H := by
  intro q hq
  obtain ⟨a1, a2, a3⟩ := h q hq
  refine ⟨(e _ (by omega) (by omega) _).1.trans a1, a2, fun i hi => ?_⟩
  exact rowE.lot ⟨fun b b1 b2 => (e b (by omega) (by omega) _).1, (e _ (by omega) (by omega) _).2⟩ (a3 i hi)
theorem mK.ax {A A' : qA} {m : Nat} (h : mK A m) (e : Ax A A') : mK A' m := by
  obtain ⟨k0, k1, k2, k3, k4, k5, k6, k7, k8, k9, k10, k11, k12, k13, k14, k15, k16, k17, k18, k19, k20, k21, k22, k23, k24, k25, k26⟩ := h
  exact ⟨e _ _ k0, e _ _ k1, e _ _ k2, e _ _ k3, e _ _ k4, e _ _ k5, e _ _ k6, e _ _ k7, e _ _ k8, e _ _ k9, e _ _ k10, e _ _ k11, e _ _ k12, e _ _ k13, e _ _ k14, e _ _ k15, e _ _ k16, e _ _ k17, e _ _ k18, e _ _ k19, e _ _ k20, e _ _ k21, e _ _ k22, e _ _ k23, e _ _ k24, e _ _ k25, e _ _ k26⟩
theorem mR.fr' {S S' : qS} {m : Nat} (h : mR S m) (e : ∀ k, 5 ≤ k → gR S' m k = gR S m k) : mR S' m := by
  obtain ⟨r5, r15, r16, r17, r18, r21, r22, r23, r24, r25, r26, r27, r28, r29, r30, r31, r32, r33, r34, r35, r36, r37, r38, r39, r40, r48⟩ := h
  exact ⟨(e _ (by omega)).trans r5, (e _ (by omega)).trans r15, (e _ (by omega)).trans r16, (e _ (by omega)).trans r17, (e _ (by omega)).trans r18, (e _ (by omega)).trans r21, (e _ (by omega)).trans r22, (e _ (by omega)).trans r23, (e _ (by omega)).trans r24, (e _ (by omega)).trans r25, (e _ (by omega)).trans r26, (e _ (by omega)).trans r27, (e _ (by omega)).trans r28, (e _ (by omega)).trans r29, (e _ (by omega)).trans r30, (e _ (by omega)).trans r31, (e _ (by omega)).trans r32, (e _ (by omega)).trans r33, (e _ (by omega)).trans r34, (e _ (by omega)).trans r35, (e _ (by omega)).trans r36, (e _ (by omega)).trans r37, (e _ (by omega)).trans r38, (e _ (by omega)).trans r39, (e _ (by omega)).trans r40, (e _ (by omega)).trans r48⟩
theorem LgAt.ax {A A' : qA} {S : qS} {q : Nat} {td : Tld} (h : LgAt A S q td) (e : Ax A A') : LgAt A' S q td := by
  obtain ⟨⟨a0, a1, a2, a3, a4, a5⟩, h2⟩ := h
  exact ⟨⟨e _ _ a0, e _ _ a1, e _ _ a2, e _ _ a3, e _ _ a4, e _ _ a5⟩, h2⟩
theorem mLed.ax {A A' : qA} {S S' : qS} {m : Nat} {o : Option Tld} (h : mLed A S m o) (hA : AOk A) (e : Ax A A') (e3 : gR S' m 3 = gR S m 3) (g : ∀ b, m + 27 < b → b < A.2.1 → ∀ k, gI S' b k = gI S b k ∧ gR S' b k = gR S b k) : mLed A' S' m o := by
  unfold mLed at *
  cases o with
  | none => exact e3.trans h
  | some td =>
    obtain ⟨q, h1, h2, h3⟩ := h
    have := hA _ _ h3.1.2.2.2.2.2
    exact ⟨q, e3.trans h1, h2, (h3.fr fun b b1 b2 k => g b (by omega) (by omega) k).ax e⟩
theorem RwO.cel {S S' : qS} {a o : Nat} {T : List Row} (h : RwO S a o T) (e : ∀ k, gI S' a k = gI S a k) : RwO S' a o T := ⟨(e _).trans h.1, fun i hi => by rw [e, e, e, e, e, e]; exact h.2 i hi⟩
theorem nI_any (x : Int32) : ∃ k, x = nI k := ⟨x.toUInt32.toNat, by
  unfold nI
  first
    | (exact congrArg Int32.ofUInt32 (UInt32.ofNat_toNat (x := x.toUInt32)).symm)
    | (apply Int32.toBitVec_inj.mp; simp)⟩
section
variable {d : Nat} {A : qA} {S : qS} {m : Nat} {V : VSt}
set_option maxRecDepth 20000 in
set_option maxHeartbeats 4000000 in
theorem cm_ledger {x : Int32} {f : Int32 → qA → qS → Prop} (h : MAt A S m V) (hv : vOk V) (hA : AOk A) (hm : m + 27 < A.2.1) (hf : ∀ A' S', AOk A' → Ax A A' → A.2.1 ≤ A'.2.1 → A'.2.2.1 = A.2.2.1 + 6 → A'.2.2.2 = A.2.2.2 + 174 → MAt A' S' m (uLed V x (gI S m 11) (gL S m 14) (gI S m 13)).1 → Fr S S' m A'.2.1 → f (uLed V x (gI S m 11) (gL S m 14) (gI S m 13)).2 A' S') : Run (d + 12) 175 [.ref m, .int x] A S (kIa (A.2.2.1 + 6) (A.2.2.2 + 174) f) := by
  refine Run.i (C := mX11_ledger) rfl rfl rfl fun J hJ => ?_
  have hk0 := h.1.1.1
  have h0 := h.t0 (x := 0)
  have bad2 : (x < 0 ∨ ¬ x ≤ nI (vN V)) → ∀ S', MAt A S' m (setT V 2) → Fr (uI S m 0 0) S' m (m + 27) → kIa (A.2.2.1 + 6) (A.2.2.2 + 174) f (some (.int (-1))) (A.1, A.2.1, A.2.2.1 + (bud 175).1, A.2.2.2 + (bud 175).2) S' := by
    intro z S' h1 h2
    have e : uLed V x (gI S m 11) (gL S m 14) (gI S m 13) = (setT V 2, -1) := by
      unfold uLed
      rcases z with z | z
      · rw [if_pos z]
      · rw [if_neg z, ite_self]
    have := hf (A.1, A.2.1, A.2.2.1 + 6, A.2.2.2 + 174) S' hA Ax.rf (Nat.le_refl _) rfl rfl
    rw [e] at this
    exact ⟨rfl, rfl, -1, rfl, this h1 (((Fr.rf.uI (by omega) (by omega)).trans h2).wide (Nat.le_refl _) (by show m + 27 ≤ A.2.1; omega))⟩
  refine sX11_ledger_0 hJ ⟨hk0, fun S0 e0 => ?_⟩
  subst e0
  have g6 : gI (uI S m 0 0) m 6 = nI (vN V) := by rw [gI_uI, if_neg (by omega)]; exact h.2.2.1.2.1
  refine ⟨fun z => ⟨hk0, wc rfl, cm_refused h0 fun S' h1 h2 => bad2 (Or.inl z) S' h1 h2⟩, fun z => ⟨hk0, ?_⟩⟩
  rw [g6]
  refine ⟨fun z1 => ?_, fun z1 => ⟨hk0, wc rfl, cm_refused h0 fun S' h1 h2 => bad2 (Or.inr z1) S' h1 h2⟩⟩
  have hN : vN V ≤ 900 := hv.2.2.2.2.2.2.2
  obtain ⟨n, hn, en⟩ := nI_of2 (M := nI (vN V)) (nI_toInt (by omega)) z z1
  have ecl : x.toNatClampNeg = n := by rw [en, cl_n (by omega)]
  have caps : ∀ a b, a ≤ 6 → b ≤ 174 → A.2.2.1 + a ≤ A.2.2.1 + 6 ∧ A.2.2.2 + b ≤ A.2.2.2 + 174 := fun a b h1 h2 => by omega
  refine ⟨hk0, fun Sa ea => ⟨hk0, fun Sb eb => ⟨hk0, fun Sc ec => ⟨hk0, fun Sd ed => ⟨(caps 1 9 (by omega) (by omega)).1, (caps 1 9 (by omega) (by omega)).2, fun A1 Se eA eS => ⟨wc rfl, ?_, ?_, ?_⟩⟩⟩⟩⟩⟩
  · rw [eA]; exact (caps 6 174 (by omega) (by omega)).1
  · rw [eA]; exact (caps 6 174 (by omega) (by omega)).2
  have hA1 : AOk A1 := by rw [eA]; exact hA.new
  have hx1 : Ax A A1 := by rw [eA]; exact hA.ax
  have hq1 : A1.1 A.2.1 = some (10, 0) := by rw [eA]; exact newA_at
  have hn1 : A1.2.1 = A.2.1 + 1 := by rw [eA]; rfl
  have hc1 : A1.2.2.1 = A.2.2.1 + 1 := by rw [eA]; rfl
  have hs1 : A1.2.2.2 = A.2.2.2 + 9 := by rw [eA]; rfl
  have hm' := hm
  generalize eq : A.2.1 = q at hq1 hn1 hm' eS ⊢
  have ge : ∀ b k, b < q → ¬ (b = m ∧ (k = 0 ∨ k = 6 ∨ k = 7 ∨ k = 8 ∨ k = 12)) → gI Se b k = gI S b k := by
    intro b k hb hk
    rw [eS, gI_uZ, if_neg (by omega), ed, gI_uI, if_neg (by omega), ec, gI_uI, if_neg (by omega), eb, gI_uI, if_neg (by omega), ea, gI_uI, if_neg (by omega), gI_uI, if_neg (by omega)]
  have gel : ∀ b k, b < q → gL Se b k = gL S b k := by
    intro b k hb
    rw [eS, gL_uZ, if_neg (by omega), ed, ec, eb, ea]; rfl
  have ger : ∀ b k, b < q → gR Se b k = gR S b k := by
    intro b k hb
    rw [eS, gR_uZ, if_neg (by omega), ed, ec, eb, ea]; rfl
  have e6 : gI Se m 6 = 0 ∧ gI Se m 7 = x ∧ gI Se m 8 = 0 ∧ gI Se m 12 = 0 := by
    rw [eS, ed, ec, eb, ea]
    simp only [gI_uZ, gI_uI, gL_uL, gR_uR, gI_uL, gI_uR, gL_uI, gL_uR, gR_uI, gR_uL, true_and, and_true, Nat.add_right_cancel_iff, Nat.add_left_cancel_iff, Nat.reduceEqDiff, Nat.left_eq_add, Nat.right_eq_add, Nat.add_eq_left, Nat.add_eq_right, Nat.reduceAdd, Nat.succ_ne_self, reduceCtorEq, false_and, and_false, if_false, if_true, ite_true, ite_false, ite_self, Nat.succ_ne_zero, Nat.add_one_ne_zero, not_false_eq_true, not_true_eq_false, Nat.one_ne_zero, Nat.zero_ne_one, show (m = q) = False by simp only [eq_iff_iff, iff_false]; omega]
  have frE : Fr S Se m (q + 1) := by
    rw [eS, ed, ec, eb, ea]
    exact (((((Fr.rf.uI (by omega) (by omega)).uI (by omega) (by omega)).uI (by omega) (by omega)).uI (by omega) (by omega)).uI (by omega) (by omega)).uZ (by omega) (by omega)
  refine cm_ledgerInit hA1 hq1 hn1 (fun k => by rw [eS, gI_uZ, if_pos rfl]) fun A2 Sf b1 b2 b3 b4 b5 b6 b7 b8 => ?_
  have hx2 : Ax A A2 := hx1.trans b2
  have hk2 : mK A2 m := mK.ax h.1.1 hx2
  have hk0' := hk2.1
  refine ⟨hk0', fun Sg eg => ⟨hk0', fun Sh eh => ?_⟩⟩
  have gh : ∀ b k, b < q → ¬ (b = m ∧ (k = 0 ∨ k = 6 ∨ k = 7 ∨ k = 8 ∨ k = 9 ∨ k = 12)) → gI Sh b k = gI S b k := by
    intro b k hb hk
    rw [eh, gI_uI, if_neg (by omega), eg, gI_uR, (b8 b (by omega) k).1]
    exact ge b k hb (by omega)
  have ghl : ∀ b k, b < q → gL Sh b k = gL S b k := by
    intro b k hb
    rw [eh, gL_uI, eg, gL_uR, (b8 b (by omega) k).2.1]
    exact gel b k hb
  have ghr : ∀ b k, b < q → ¬ (b = m ∧ k = 4) → gR Sh b k = gR S b k := by
    intro b k hb hk
    rw [eh, gR_uI, eg, gR_uR, if_neg (by omega), (b8 b (by omega) k).2.2]
    exact ger b k hb
  have gh2 : gI Sh m 6 = 0 ∧ gI Sh m 7 = x ∧ gI Sh m 8 = 0 ∧ gI Sh m 12 = 0 ∧ gI Sh m 9 = 0 := by
    rw [eh, eg]
    simp only [gI_uI, gL_uL, gR_uR, gI_uL, gI_uR, gL_uI, gL_uR, gR_uI, gR_uL, true_and, and_true, Nat.add_right_cancel_iff, Nat.add_left_cancel_iff, Nat.reduceEqDiff, Nat.left_eq_add, Nat.right_eq_add, Nat.add_eq_left, Nat.add_eq_right, Nat.reduceAdd, Nat.succ_ne_self, reduceCtorEq, false_and, and_false, if_false, if_true, ite_true, ite_false, ite_self, Nat.succ_ne_zero, Nat.add_one_ne_zero, not_false_eq_true, not_true_eq_false, Nat.one_ne_zero, Nat.zero_ne_one, (b8 m (by omega) _).1]
    exact e6
  have gh4 : gR Sh m 4 = some q := by rw [eh, gR_uI, eg, gR_uR, if_pos ⟨rfl, rfl⟩]
  have frH : Fr S Sh m (q + 6) := by
    rw [eh, eg]
    exact (((frE.wide (Nat.le_refl _) (by omega)).trans (b8.wide (by omega) (Nat.le_refl _))).uR (by omega) (by omega)).uI (by omega) (by omega)
  have lgH : LgAt A2 Sh q td0 := b6.fr fun b c1 c2 k => by
    rw [eh, eg]
    exact ⟨by rw [gI_uI, if_neg (by omega)]; rfl, by rw [gR_uI, gR_uR, if_neg (by omega)]⟩
  have rdH : RdAt A2 Sh m q false td0 := ⟨gh4, by omega, by rw [eh, gI_uI, if_neg (by omega), eg]; exact b7, lgH⟩
  have txH : TxAt A2 Sh m (vTape V) n := ⟨⟨hk2, h.1.2.fr' fun k hk => ghr m k (by omega) (by omega)⟩, by omega, gh2.2.1.trans en, fun k hk => (gh (m + 1) k (by omega) (by omega)).trans (h.2.2.1.1 k hk)⟩
  obtain ⟨pl, epl⟩ := nI_any (gI Sh m 10)
  have psH : PsAt Sh m ((0, 0, pl, gI S m 11, gL S m 14), 0, gI S m 13) := ⟨⟨gh2.2.2.1, gh2.2.2.2.2, epl, gh m 11 (by omega) (by omega), ghl m 14 (by omega)⟩, gh2.2.2.2.1, gh m 13 (by omega) (by omega)⟩
  have mhH : ∃ H, MH Sh m H := by
    obtain ⟨H, hH⟩ := h.2.1
    exact ⟨H, hH.cel fun b c1 c2 k => ⟨gh b k (by omega) (by omega), ghl b k (by omega)⟩⟩
  refine ⟨hk0', wc rfl, cm_gon txH psH (Nat.zero_le _) fun Si hi li => ?_⟩
  have hi' : PsAt Si m (tokN (vTape V) n (0, 0, 0, gI S m 11, gL S m 14), 0, gI S m 13) := by
    have e : gon (vTape V) n ((0, 0, pl, gI S m 11, gL S m 14), 0, gI S m 13) = (tokN (vTape V) n (0, 0, 0, gI S m 11, gL S m 14), 0, gI S m 13) := if_neg (show ¬ (0 : Int32) = 5 by decide)
    rw [e] at hi
    exact hi
  obtain ⟨H, hH⟩ := mhH
  refine ⟨hk0', wc rfl, cm_readAll (txH.ly li) (hH.lz li.lz rdH.2.1) hi' (tokN_le (Nat.zero_le _)) (rdH.ly li) iTd0 fun Sj pj rj tj lj mj => ?_⟩
  have fo := txR_fo (tp := vTape V) (n := n) (nu := gI S m 11) (wd := gL S m 14) (wr := gI S m 13)
  have eu : uLed V x (gI S m 11) (gL S m 14) (gI S m 13) = if (exR (txR (vTape V) n (gI S m 11) (gL S m 14) (gI S m 13))).2.1 ≤ 0 then ((vTape V, 0, some (txR (vTape V) n (gI S m 11) (gL S m 14) (gI S m 13)).2.2, (txR (vTape V) n (gI S m 11) (gL S m 14) (gI S m 13)).2.2.2.1, [], [], 0, 0, -1), nI (txR (vTape V) n (gI S m 11) (gL S m 14) (gI S m 13)).2.2.2.1.length) else ((vTape V, 0, vLed V, vNow V, vPast V, vImg V, 4, (exR (txR (vTape V) n (gI S m 11) (gL S m 14) (gI S m 13))).2.1, (exR (txR (vTape V) n (gI S m 11) (gL S m 14) (gI S m 13))).2.2), -1) := by
    unfold uLed
    rw [if_neg z, if_pos z1, ecl]
  rw [eu] at hf
  change PsAt Sj m (exR (txR (vTape V) n (gI S m 11) (gL S m 14) (gI S m 13))) at pj
  change RdAt A2 Sj m q (txR (vTape V) n (gI S m 11) (gL S m 14) (gI S m 13)).2.1 (txR (vTape V) n (gI S m 11) (gL S m 14) (gI S m 13)).2.2 at rj
  change iTd (txR (vTape V) n (gI S m 11) (gL S m 14) (gI S m 13)).2.1 (txR (vTape V) n (gI S m 11) (gL S m 14) (gI S m 13)).2.2 at tj
  generalize txR (vTape V) n (gI S m 11) (gL S m 14) (gI S m 13) = R at pj rj tj fo hf
  generalize exR R = P at pj fo hf
  have lw := li.lz.lw.trans lj
  have gj : ∀ b k, b < q → ¬ (b = m ∧ (k = 6 ∨ k = 7 ∨ 8 ≤ k ∧ k ≤ 14)) → ¬ scr m b k → gI Sj b k = gI S b k := by
    intro b k hb h1 h2
    rw [(lw.1 b k (by omega) (by omega) h2).1]
    exact gh b k hb (by unfold scr at h2; omega)
  have gjr : ∀ b k, b < q → ¬ (b = m ∧ k = 4) → gR Sj b k = gR S b k := fun b k hb hk => (lw.2 b k).trans (ghr b k hb hk)
  have gj6 : gI Sj m 6 = 0 := (lw.1 m 6 (by omega) (by omega) (by unfold scr; omega)).1.trans gh2.1
  have hIj : mI A2 Sj m := ⟨hk2, h.1.2.fr' fun k hk => gjr m k (by omega) (by omega)⟩
  have hb3 : A2.2.1 = q + 6 := b3
  have frJ : Fr S Sj m (q + 6) := frH.trans fun b hb k => ⟨(lw.1 b k (by omega) (by omega) (by unfold scr; omega)).1, (lw.1 b k (by omega) (by omega) (by unfold scr; omega)).2, lw.2 b k⟩
  obtain ⟨c1, c2, c3, c4, c5, c6, c7, c8, c9, c10⟩ := h.2.2.1
  refine ⟨hk0', ?_⟩
  rw [pj.2.1]
  refine ⟨fun zf => ?_, fun zf => ⟨hk0', fun Sk ek => ⟨hk0', hk0', fun Sl el => ⟨rfl, rfl, -1, rfl, ?_⟩⟩⟩⟩
  · have n5 : ¬ P.1.2.1 = 5 := fun z5 => fo.1 z5 zf
    rw [if_pos zf] at hf
    have hr2 := rj
    obtain ⟨y1, y2, y3, ⟨y4, y5, y6, y7, y8, y9⟩, ⟨w1, w2, w3, w4, w5⟩, z1', z2, z3, z4, z5, z6⟩ := hr2
    refine ⟨hk0', q, y1, hk0', fun Sk ek => ⟨hk0', q, by rw [ek, gR_uR, if_pos ⟨rfl, rfl⟩], y4, q + 1, by rw [ek, gR_uR, if_neg (by omega)]; exact w1, hk0', m + 2, by rw [ek, gR_uR, if_neg (by omega)]; exact hIj.2.2.1, wc rfl, ?_⟩⟩
    refine cm_copies y5 hk2.2.2.1 (by omega) (by omega) (by omega) (by omega) (by omega) fun Sl hc => ⟨hk0', fun Sm em => ⟨hk0', fun Sn en' => ?_⟩⟩
    have gI_n : ∀ b k, ¬ (b = m ∧ (k = 19 ∨ k = 20)) → ¬ b = m + 2 → gI Sn b k = gI Sj b k := by
      intro b k d1 d2
      rw [en', gI_uI, if_neg (by omega), em, gI_uI, if_neg (by omega), hc.1, if_neg (by omega), ek, gI_uR]
    have gL_n : ∀ b k, gL Sn b k = gL Sj b k := by
      intro b k
      rw [en', gL_uI, em, gL_uI, hc.2.1, ek, gL_uR]
    have gR_n : ∀ b k, ¬ (b = m ∧ k = 3) → gR Sn b k = gR Sj b k := by
      intro b k d1
      rw [en', gR_uI, em, gR_uI, hc.2.2, ek, gR_uR, if_neg d1]
    have gR_3 : gR Sn m 3 = some q := by rw [en', gR_uI, em, gR_uI, hc.2.2, ek, gR_uR, if_pos ⟨rfl, rfl⟩]
    have now2 : ∀ k, k < 145 → gI Sn (m + 2) k = gI Sj (q + 1) k := by
      intro k hk
      rw [en', gI_uI, if_neg (by omega), em, gI_uI, if_neg (by omega), hc.1, if_pos ⟨rfl, hk⟩, ek, gI_uR]
    have hIn : mI A2 Sn m := ⟨hk2, hIj.2.fr' fun k hk => gR_n m k (by omega)⟩
    have hl := tj.1.2.2.1
    have rwn : RwAt Sn (m + 2) R.2.2.2.1 := by
      refine ⟨(now2 0 (by omega)).trans z4.1, fun i hi => ?_⟩
      rw [now2 _ (by omega), now2 _ (by omega), now2 _ (by omega), now2 _ (by omega), now2 _ (by omega), now2 _ (by omega)]
      exact z4.2 i hi
    refine ⟨hk0', m + 2, hIn.2.2.1, 145, hk2.2.2.1, (show vp_in (nI 0) 145 from vp_n (by decide) (by decide)), hk0', wc rfl, cm_good' hIn ⟨rfl, rfl, gI Sn (m + 2) (0 : Int32).toNatClampNeg, rfl, ?_⟩⟩
    rw [show gI Sn (m + 2) (0 : Int32).toNatClampNeg = nI R.2.2.2.1.length from rwn.1]
    refine hf (A2.1, A2.2.1, A.2.2.1 + 6, A.2.2.2 + 174) _ b1 hx2 (by show A.2.1 ≤ A2.2.1; omega) rfl rfl ?_ ?_
    · obtain ⟨H2, hH2⟩ := mj
      have hH3 : MH Sn m H2 := hH2.cel fun b d1 d2 k => ⟨gI_n b k (by omega) (by omega), gL_n b k⟩
      refine ⟨⟨hk2, hIn.2⟩, ⟨H2, hH3.one.one⟩, ⟨fun k hk => ?_, ?_, rwn.same fun k => ?_, ?_, fun i hi => absurd hi (Nat.not_lt_zero _), ?_, fun i hi => absurd hi (Nat.not_lt_zero _), ?_, ?_, ?_⟩, q, gR_3, y2, rj.2.2.2.fr fun b d1 d2 k => ⟨?_, ?_⟩⟩
      · simp only [gI_uI, gL_uL, gR_uR, gI_uL, gI_uR, gL_uI, gL_uR, gR_uI, gR_uL, true_and, and_true, Nat.add_right_cancel_iff, Nat.add_left_cancel_iff, Nat.reduceEqDiff, Nat.left_eq_add, Nat.right_eq_add, Nat.add_eq_left, Nat.add_eq_right, Nat.reduceAdd, Nat.succ_ne_self, reduceCtorEq, false_and, and_false, if_false, if_true, ite_true, ite_false, ite_self, Nat.succ_ne_zero, Nat.add_one_ne_zero, not_false_eq_true, not_true_eq_false, Nat.one_ne_zero, Nat.zero_ne_one]
        rw [gI_n _ _ (by omega) (by omega)]
        exact (gj _ _ (by omega) (by omega) (by unfold scr; omega)).trans (c1 k hk)
      · simp only [gI_uI, gL_uL, gR_uR, gI_uL, gI_uR, gL_uI, gL_uR, gR_uI, gR_uL, true_and, and_true, Nat.add_right_cancel_iff, Nat.add_left_cancel_iff, Nat.reduceEqDiff, Nat.left_eq_add, Nat.right_eq_add, Nat.add_eq_left, Nat.add_eq_right, Nat.reduceAdd, Nat.succ_ne_self, reduceCtorEq, false_and, and_false, if_false, if_true, ite_true, ite_false, ite_self, Nat.succ_ne_zero, Nat.add_one_ne_zero, not_false_eq_true, not_true_eq_false, Nat.one_ne_zero, Nat.zero_ne_one]
        rw [gI_n _ _ (by omega) (by omega)]
        exact gj6
      · simp only [gI_uI, gL_uL, gR_uR, gI_uL, gI_uR, gL_uI, gL_uR, gR_uI, gR_uL, true_and, and_true, Nat.add_right_cancel_iff, Nat.add_left_cancel_iff, Nat.reduceEqDiff, Nat.left_eq_add, Nat.right_eq_add, Nat.add_eq_left, Nat.add_eq_right, Nat.reduceAdd, Nat.succ_ne_self, reduceCtorEq, false_and, and_false, if_false, if_true, ite_true, ite_false, ite_self, Nat.succ_ne_zero, Nat.add_one_ne_zero, not_false_eq_true, not_true_eq_false, Nat.one_ne_zero, Nat.zero_ne_one]
      · simp only [gI_uI, gL_uL, gR_uR, gI_uL, gI_uR, gL_uI, gL_uR, gR_uI, gR_uL, true_and, and_true, Nat.add_right_cancel_iff, Nat.add_left_cancel_iff, Nat.reduceEqDiff, Nat.left_eq_add, Nat.right_eq_add, Nat.add_eq_left, Nat.add_eq_right, Nat.reduceAdd, Nat.succ_ne_self, reduceCtorEq, false_and, and_false, if_false, if_true, ite_true, ite_false, ite_self, Nat.succ_ne_zero, Nat.add_one_ne_zero, not_false_eq_true, not_true_eq_false, Nat.one_ne_zero, Nat.zero_ne_one]
        rw [en', gI_uI, if_neg (by omega), em, gI_uI, if_pos ⟨rfl, rfl⟩]; rfl
      · simp only [gI_uI, gL_uL, gR_uR, gI_uL, gI_uR, gL_uI, gL_uR, gR_uI, gR_uL, true_and, and_true, Nat.add_right_cancel_iff, Nat.add_left_cancel_iff, Nat.reduceEqDiff, Nat.left_eq_add, Nat.right_eq_add, Nat.add_eq_left, Nat.add_eq_right, Nat.reduceAdd, Nat.succ_ne_self, reduceCtorEq, false_and, and_false, if_false, if_true, ite_true, ite_false, ite_self, Nat.succ_ne_zero, Nat.add_one_ne_zero, not_false_eq_true, not_true_eq_false, Nat.one_ne_zero, Nat.zero_ne_one]
        rw [en', gI_uI, if_pos ⟨rfl, rfl⟩]; rfl
      · simp only [gI_uI, gL_uL, gR_uR, gI_uL, gI_uR, gL_uI, gL_uR, gR_uI, gR_uL, true_and, and_true, Nat.add_right_cancel_iff, Nat.add_left_cancel_iff, Nat.reduceEqDiff, Nat.left_eq_add, Nat.right_eq_add, Nat.add_eq_left, Nat.add_eq_right, Nat.reduceAdd, Nat.succ_ne_self, reduceCtorEq, false_and, and_false, if_false, if_true, ite_true, ite_false, ite_self, Nat.succ_ne_zero, Nat.add_one_ne_zero, not_false_eq_true, not_true_eq_false, Nat.one_ne_zero, Nat.zero_ne_one]; rfl
      · simp only [gI_uI, gL_uL, gR_uR, gI_uL, gI_uR, gL_uI, gL_uR, gR_uI, gR_uL, true_and, and_true, Nat.add_right_cancel_iff, Nat.add_left_cancel_iff, Nat.reduceEqDiff, Nat.left_eq_add, Nat.right_eq_add, Nat.add_eq_left, Nat.add_eq_right, Nat.reduceAdd, Nat.succ_ne_self, reduceCtorEq, false_and, and_false, if_false, if_true, ite_true, ite_false, ite_self, Nat.succ_ne_zero, Nat.add_one_ne_zero, not_false_eq_true, not_true_eq_false, Nat.one_ne_zero, Nat.zero_ne_one]; rfl
      · simp only [gI_uI, gL_uL, gR_uR, gI_uL, gI_uR, gL_uI, gL_uR, gR_uI, gR_uL, true_and, and_true, Nat.add_right_cancel_iff, Nat.add_left_cancel_iff, Nat.reduceEqDiff, Nat.left_eq_add, Nat.right_eq_add, Nat.add_eq_left, Nat.add_eq_right, Nat.reduceAdd, Nat.succ_ne_self, reduceCtorEq, false_and, and_false, if_false, if_true, ite_true, ite_false, ite_self, Nat.succ_ne_zero, Nat.add_one_ne_zero, not_false_eq_true, not_true_eq_false, Nat.one_ne_zero, Nat.zero_ne_one]
        rw [gI_n _ _ (by omega) (by omega)]
        exact pj.2.1.trans (fo.2 n5)
      · rw [gI_uI, if_neg (by omega), gI_uI, if_neg (by omega)]
        exact gI_n b k (by omega) (by omega)
      · exact gR_n b k (by omega)
    · show Fr S _ m A2.2.1
      rw [hb3]
      refine Fr.trans frJ (Fr.uI (Fr.uI ?_ (by omega) (by omega)) (by omega) (by omega))
      exact fun b hb k => ⟨gI_n b k (by omega) (by omega), gL_n b k, gR_n b k (by omega)⟩
  · rw [if_neg zf] at hf
    refine hf (A2.1, A2.2.1, A.2.2.1 + 6, A.2.2.2 + 174) Sl b1 hx2 (by show A.2.1 ≤ A2.2.1; omega) rfl rfl ?_ ?_
    · rw [el, ek]
      obtain ⟨H2, hH2⟩ := mj
      refine ⟨⟨hk2, hIj.2⟩, ⟨H2, hH2.one.one⟩, ⟨fun k hk => ?_, ?_, c3.same fun k => ?_, ?_, fun i hi => (c5 i hi).cel fun k => ?_, ?_, fun i hi => (c7 i hi).cel fun k => ?_, ?_, ?_, ?_⟩, h.2.2.2.ax hA hx2 ?_ fun b d1 d2 k => ⟨?_, ?_⟩⟩
      · simp only [gI_uI, gL_uL, gR_uR, gI_uL, gI_uR, gL_uI, gL_uR, gR_uI, gR_uL, true_and, and_true, Nat.add_right_cancel_iff, Nat.add_left_cancel_iff, Nat.reduceEqDiff, Nat.left_eq_add, Nat.right_eq_add, Nat.add_eq_left, Nat.add_eq_right, Nat.reduceAdd, Nat.succ_ne_self, reduceCtorEq, false_and, and_false, if_false, if_true, ite_true, ite_false, ite_self, Nat.succ_ne_zero, Nat.add_one_ne_zero, not_false_eq_true, not_true_eq_false, Nat.one_ne_zero, Nat.zero_ne_one]
        exact (gj _ _ (by omega) (by omega) (by unfold scr; omega)).trans (c1 k hk)
      · simp only [gI_uI, gL_uL, gR_uR, gI_uL, gI_uR, gL_uI, gL_uR, gR_uI, gR_uL, true_and, and_true, Nat.add_right_cancel_iff, Nat.add_left_cancel_iff, Nat.reduceEqDiff, Nat.left_eq_add, Nat.right_eq_add, Nat.add_eq_left, Nat.add_eq_right, Nat.reduceAdd, Nat.succ_ne_self, reduceCtorEq, false_and, and_false, if_false, if_true, ite_true, ite_false, ite_self, Nat.succ_ne_zero, Nat.add_one_ne_zero, not_false_eq_true, not_true_eq_false, Nat.one_ne_zero, Nat.zero_ne_one]; exact gj6
      · simp only [gI_uI, gL_uL, gR_uR, gI_uL, gI_uR, gL_uI, gL_uR, gR_uI, gR_uL, true_and, and_true, Nat.add_right_cancel_iff, Nat.add_left_cancel_iff, Nat.reduceEqDiff, Nat.left_eq_add, Nat.right_eq_add, Nat.add_eq_left, Nat.add_eq_right, Nat.reduceAdd, Nat.succ_ne_self, reduceCtorEq, false_and, and_false, if_false, if_true, ite_true, ite_false, ite_self, Nat.succ_ne_zero, Nat.add_one_ne_zero, not_false_eq_true, not_true_eq_false, Nat.one_ne_zero, Nat.zero_ne_one]; exact gj _ _ (by omega) (by omega) (by unfold scr; omega)
      · simp only [gI_uI, gL_uL, gR_uR, gI_uL, gI_uR, gL_uI, gL_uR, gR_uI, gR_uL, true_and, and_true, Nat.add_right_cancel_iff, Nat.add_left_cancel_iff, Nat.reduceEqDiff, Nat.left_eq_add, Nat.right_eq_add, Nat.add_eq_left, Nat.add_eq_right, Nat.reduceAdd, Nat.succ_ne_self, reduceCtorEq, false_and, and_false, if_false, if_true, ite_true, ite_false, ite_self, Nat.succ_ne_zero, Nat.add_one_ne_zero, not_false_eq_true, not_true_eq_false, Nat.one_ne_zero, Nat.zero_ne_one]; exact (gj _ _ (by omega) (by omega) (by unfold scr; omega)).trans c4
      · simp only [gI_uI, gL_uL, gR_uR, gI_uL, gI_uR, gL_uI, gL_uR, gR_uI, gR_uL, true_and, and_true, Nat.add_right_cancel_iff, Nat.add_left_cancel_iff, Nat.reduceEqDiff, Nat.left_eq_add, Nat.right_eq_add, Nat.add_eq_left, Nat.add_eq_right, Nat.reduceAdd, Nat.succ_ne_self, reduceCtorEq, false_and, and_false, if_false, if_true, ite_true, ite_false, ite_self, Nat.succ_ne_zero, Nat.add_one_ne_zero, not_false_eq_true, not_true_eq_false, Nat.one_ne_zero, Nat.zero_ne_one]; exact gj _ _ (by omega) (by omega) (by unfold scr; omega)
      · simp only [gI_uI, gL_uL, gR_uR, gI_uL, gI_uR, gL_uI, gL_uR, gR_uI, gR_uL, true_and, and_true, Nat.add_right_cancel_iff, Nat.add_left_cancel_iff, Nat.reduceEqDiff, Nat.left_eq_add, Nat.right_eq_add, Nat.add_eq_left, Nat.add_eq_right, Nat.reduceAdd, Nat.succ_ne_self, reduceCtorEq, false_and, and_false, if_false, if_true, ite_true, ite_false, ite_self, Nat.succ_ne_zero, Nat.add_one_ne_zero, not_false_eq_true, not_true_eq_false, Nat.one_ne_zero, Nat.zero_ne_one]; exact (gj _ _ (by omega) (by omega) (by unfold scr; omega)).trans c6
      · simp only [gI_uI, gL_uL, gR_uR, gI_uL, gI_uR, gL_uI, gL_uR, gR_uI, gR_uL, true_and, and_true, Nat.add_right_cancel_iff, Nat.add_left_cancel_iff, Nat.reduceEqDiff, Nat.left_eq_add, Nat.right_eq_add, Nat.add_eq_left, Nat.add_eq_right, Nat.reduceAdd, Nat.succ_ne_self, reduceCtorEq, false_and, and_false, if_false, if_true, ite_true, ite_false, ite_self, Nat.succ_ne_zero, Nat.add_one_ne_zero, not_false_eq_true, not_true_eq_false, Nat.one_ne_zero, Nat.zero_ne_one]; exact gj _ _ (by omega) (by omega) (by unfold scr; omega)
      · simp only [gI_uI, gL_uL, gR_uR, gI_uL, gI_uR, gL_uI, gL_uR, gR_uI, gR_uL, true_and, and_true, Nat.add_right_cancel_iff, Nat.add_left_cancel_iff, Nat.reduceEqDiff, Nat.left_eq_add, Nat.right_eq_add, Nat.add_eq_left, Nat.add_eq_right, Nat.reduceAdd, Nat.succ_ne_self, reduceCtorEq, false_and, and_false, if_false, if_true, ite_true, ite_false, ite_self, Nat.succ_ne_zero, Nat.add_one_ne_zero, not_false_eq_true, not_true_eq_false, Nat.one_ne_zero, Nat.zero_ne_one]; rfl
      · simp only [gI_uI, gL_uL, gR_uR, gI_uL, gI_uR, gL_uI, gL_uR, gR_uI, gR_uL, true_and, and_true, Nat.add_right_cancel_iff, Nat.add_left_cancel_iff, Nat.reduceEqDiff, Nat.left_eq_add, Nat.right_eq_add, Nat.add_eq_left, Nat.add_eq_right, Nat.reduceAdd, Nat.succ_ne_self, reduceCtorEq, false_and, and_false, if_false, if_true, ite_true, ite_false, ite_self, Nat.succ_ne_zero, Nat.add_one_ne_zero, not_false_eq_true, not_true_eq_false, Nat.one_ne_zero, Nat.zero_ne_one]; exact pj.2.2
      · simp only [gI_uI, gL_uL, gR_uR, gI_uL, gI_uR, gL_uI, gL_uR, gR_uI, gR_uL, true_and, and_true, Nat.add_right_cancel_iff, Nat.add_left_cancel_iff, Nat.reduceEqDiff, Nat.left_eq_add, Nat.right_eq_add, Nat.add_eq_left, Nat.add_eq_right, Nat.reduceAdd, Nat.succ_ne_self, reduceCtorEq, false_and, and_false, if_false, if_true, ite_true, ite_false, ite_self, Nat.succ_ne_zero, Nat.add_one_ne_zero, not_false_eq_true, not_true_eq_false, Nat.one_ne_zero, Nat.zero_ne_one]; exact pj.2.1
      · exact gjr m 3 (by omega) (by omega)
      · rw [gI_uI, if_neg (by omega), gI_uI, if_neg (by omega)]
        exact gj _ _ (by omega) (by omega) (by unfold scr; omega)
      · exact gjr _ _ (by omega) (by omega)
    · rw [el, ek]
      show Fr S _ m A2.2.1
      rw [hb3]
      exact (frJ.uI (by omega) (by omega)).uI (by omega) (by omega)
end
