/-! the class's sets that fit -/
section
variable {d : Nat} {A : qA} {S S' : qS} {x : Nat} {V : VSt} {td : Tld} {tA tB nA nB bA bB : Nat} {π : Nat → Nat}
/-- all but the found sets -/
def XW (A : qA) (S : qS) (x : Nat) (V : VSt) (tA tB nA nB bA bB : Nat) (π : Nat → Nat) : Prop := XP A (uI S (x + 444) 2 0) x V tA tB nA nB bA bB π
/-- the cell of the found sets' flag may differ -/
theorem XP.flag {c : Nat} (h : XP A S x V tA tB nA nB bA bB π) (hs : ∀ b k, ¬ ((b = x + 444 ∨ b = x + 445) ∧ (k < c ∨ c ≤ k)) → gI S' b k = gI S b k) (hl : ∀ b k, gL S' b k = gL S b k) (hr : ∀ b k, gR S' b k = gR S b k) (hQ : XQ S' x (ldV V)) : XP A S' x V tA tB nA nB bA bB π := by
  have gi : ∀ b, ¬ (b = x + 444 ∨ b = x + 445) → ∀ k, gI S' b k = gI S b k ∧ gL S' b k = gL S b k ∧ gR S' b k = gR S b k := fun b hb k => ⟨hs b k (by omega), hl b k, hr b k⟩
  have hF : Fr S S' x (x + 467) := fun b hb k => gi b (by omega) k
  obtain ⟨hK, ⟨⟨f1, f2, f3, f4, f5, f6, f7, f8, f9, f10, f11⟩, f12, f13, f14, f15⟩, hD, hI, hXT, -, hA, ⟨td', hB'⟩, hN, ⟨T, hT⟩, hb, hB⟩ := h
  have hD' := hD
  obtain ⟨d1, d2, d3, d4, d5⟩ := hD'
  refine ⟨hK, ⟨⟨(hr _ _).trans f1, (hr _ _).trans f2, (hr _ _).trans f3, (hr _ _).trans f4, (hr _ _).trans f5, (hr _ _).trans f6, (hr _ _).trans f7, (hr _ _).trans f8, (hr _ _).trans f9, (hr _ _).trans f10, (hr _ _).trans f11⟩, (hr _ _).trans f12, (hr _ _).trans f13, fun i hi => (hr _ _).trans (f14 i hi), fun i hi => (hr _ _).trans (f15 i hi)⟩, hD, hI.cel fun b hb k => (gi b (by omega) k).1, hXT.cel d4 hF (fun b b1 b2 k => gi b (by omega) k) rfl rfl, hQ, hA.cel (fun b b1 b2 k => gi b (by omega) k) hF, ⟨td', hB'.cel (fun b b1 b2 k => gi b (by omega) k) hF⟩, hN.cel (fun b b1 b2 k => gi b (by omega) k) hF, ⟨T, hT.cel (fun b b1 b2 k => gi b (by omega) k) hF⟩, hb.cel (fun b b1 b2 k => gi b (by omega) k) hF, hB.cel (fun b b1 b2 k => gi b (by omega) k) hF⟩
theorem XP.w (h : XP A S x V tA tB nA nB bA bB π) : XW A S x V tA tB nA nB bA bB π := h.flag (c := 0) (fun b k n => by rw [gI_uI, if_neg (by omega)]) (fun _ _ => rfl) (fun _ _ => rfl) ⟨false, by rw [gI_uI, if_pos ⟨rfl, rfl⟩]; rfl, fun z => by cases z⟩
theorem XW.p (h : XW A S x V tA tB nA nB bA bB π) (hQ : XQ S x (ldV V)) : XP A S x V tA tB nA nB bA bB π := XP.flag (c := 0) h (fun b k n => by rw [gI_uI, if_neg (by omega)]) (fun _ _ => rfl) (fun _ _ => rfl) hQ
theorem frfl {lo hi a k : Nat} {v : Int32} (h : Fr S S' lo hi) : Fr (uI S a k v) (uI S' a k v) lo hi := by
  intro b hb j
  refine ⟨?_, (h b hb j).2.1, (h b hb j).2.2⟩
  rw [gI_uI, gI_uI]
  by_cases c : b = a ∧ j = k
  · rw [if_pos c, if_pos c]
  · rw [if_neg c, if_neg c]; exact (h b hb j).1
theorem XW.same (h : XW A S x V tA tB nA nB bA bB π) {a n : Nat} (hd : a + n ≤ x + 444 ∨ x + 445 ≤ a) : Same (uI S (x + 444) 2 0) S a n := fun b b1 b2 k => ⟨by rw [gI_uI, if_neg (by omega)], rfl, rfl⟩
theorem frF : Fr (uI S (x + 444) 2 0) S x (x + 467) := fun b hb k => ⟨by rw [gI_uI, if_neg (by omega)], rfl, rfl⟩
theorem TrAt.fl {a r : Nat} {T : List Row} (h : TrAt A S a r T) (hd : a + 7 ≤ x + 444) : TrAt A (uI S (x + 444) 2 0) a r T := h.fr (lo := x + 444) (hi := x + 445) (Fr.rf.uI (by omega) (by omega)) (by omega)
theorem XW.trN {T : List Row} (h : XW A S x V tA tB nA nB bA bB π) (hF : Fr S S' nB (nB + 7)) (hT : TrAt A S' nB 24 T) : XW A S' x V tA tB nA nB bA bB π := by
  obtain ⟨d1, d2, d3, d4, d5⟩ := h.2.2.1
  exact XP.trN h (frfl hF) (hT.fl (by omega))
theorem XW.trB (h : XW A S x V tA tB nA nB bA bB π) (hF : Fr S S' bB (bB + 144)) (hB : BA A S' bB) : XW A S' x V tA tB nA nB bA bB π := by
  obtain ⟨d1, d2, d3, d4, d5⟩ := h.2.2.1
  obtain ⟨H, G, O, z, E, hB⟩ := hB
  exact XP.trB h (frfl hF) ⟨H, G, O, z, E, hB.fr (lo := x + 444) (hi := x + 445) (Fr.rf.uI (by omega) (by omega)) (by omega)⟩
theorem XW.tdd (h : XW A S x V tA tB nA nB bA bB π) (hL : vLed V = some td) : TdAt A S tA td := by
  obtain ⟨d1, d2, d3, d4, d5⟩ := h.2.2.1
  have := (XP.td h).cel (h.same (by omega)) frF
  unfold ldV at this
  rw [hL] at this
  exact this
theorem XW.s4 (h : XW A S x V tA tB nA nB bA bB π) : gR S x 4 = some tA := (show XP A (uI S (x + 444) 2 0) x V tA tB nA nB bA bB π from h).r4
theorem XW.s7 (h : XW A S x V tA tB nA nB bA bB π) : gR S x 7 = some nB := (show XP A (uI S (x + 444) 2 0) x V tA tB nA nB bA bB π from h).r7
theorem XW.s9 (h : XW A S x V tA tB nA nB bA bB π) : gR S x 9 = some bB := (show XP A (uI S (x + 444) 2 0) x V tA tB nA nB bA bB π from h).r9
theorem XW.tn (h : XW A S x V tA tB nA nB bA bB π) : ∃ T, TrAt A S nB 24 T := by
  obtain ⟨d1, d2, d3, d4, d5⟩ := h.2.2.1
  obtain ⟨T, hT⟩ := h.2.2.2.2.2.2.2.2.2.1
  exact ⟨T, hT.cel (h.same (by omega)) frF⟩
theorem XW.tb (h : XW A S x V tA tB nA nB bA bB π) : BA A S bB := by
  obtain ⟨d1, d2, d3, d4, d5⟩ := h.2.2.1
  exact (XP.tb h).cel (h.same (by omega)) frF
theorem TrAt.price {a r t : Nat} {T : List Row} {v : Int32} (h : TrAt A S a r T) (ht : t < T.length) : TrAt A (uI S (a + 5) t v) a r (T.set t (rwP (tr T t) v)) := by
  obtain ⟨hL, ⟨q0, q1, q2, q3, q4, q5, q6⟩, hC, h1, h2⟩ := h
  refine ⟨hL, ⟨?_, q1, q2, q3, q4, q5, q6⟩, ⟨?_, fun i hi => ?_⟩, by rw [List.length_set]; exact h1, h2⟩
  · simp only [gI_uI, gL_uL, gR_uR, gI_uL, gI_uR, gL_uI, gL_uR, gR_uI, gR_uL, true_and, and_true, Nat.add_right_cancel_iff, Nat.add_left_cancel_iff, Nat.reduceEqDiff, Nat.left_eq_add, Nat.right_eq_add, Nat.add_eq_left, Nat.add_eq_right, Nat.reduceAdd, Nat.succ_ne_self, reduceCtorEq, false_and, and_false, if_false, if_true, ite_true, ite_false, ite_self, Nat.succ_ne_zero, Nat.add_one_ne_zero, not_false_eq_true, not_true_eq_false, Nat.one_ne_zero, Nat.zero_ne_one]; exact q0
  · simp only [gI_uI, gL_uL, gR_uR, gI_uL, gI_uR, gL_uI, gL_uR, gR_uI, gR_uL, true_and, and_true, Nat.add_right_cancel_iff, Nat.add_left_cancel_iff, Nat.reduceEqDiff, Nat.left_eq_add, Nat.right_eq_add, Nat.add_eq_left, Nat.add_eq_right, Nat.reduceAdd, Nat.succ_ne_self, reduceCtorEq, false_and, and_false, if_false, if_true, ite_true, ite_false, ite_self, Nat.succ_ne_zero, Nat.add_one_ne_zero, not_false_eq_true, not_true_eq_false, Nat.one_ne_zero, Nat.zero_ne_one, List.length_set]; exact hC.1
  · rw [List.length_set] at hi
    rw [tr_set ht]
    by_cases e : i = t
    · subst e
      simp only [gI_uI, gL_uL, gR_uR, gI_uL, gI_uR, gL_uI, gL_uR, gR_uI, gR_uL, true_and, and_true, Nat.add_right_cancel_iff, Nat.add_left_cancel_iff, Nat.reduceEqDiff, Nat.left_eq_add, Nat.right_eq_add, Nat.add_eq_left, Nat.add_eq_right, Nat.reduceAdd, Nat.succ_ne_self, reduceCtorEq, false_and, and_false, if_false, if_true, ite_true, ite_false, ite_self, Nat.succ_ne_zero, Nat.add_one_ne_zero, not_false_eq_true, not_true_eq_false, Nat.one_ne_zero, Nat.zero_ne_one, rwP]
      obtain ⟨g1, g2, g3, g4, g5, g6⟩ := hC.2 i hi
      exact ⟨g1, g2, g3, g4, g6⟩
    · simp only [gI_uI, gL_uL, gR_uR, gI_uL, gI_uR, gL_uI, gL_uR, gR_uI, gR_uL, true_and, and_true, Nat.add_right_cancel_iff, Nat.add_left_cancel_iff, Nat.reduceEqDiff, Nat.left_eq_add, Nat.right_eq_add, Nat.add_eq_left, Nat.add_eq_right, Nat.reduceAdd, Nat.succ_ne_self, reduceCtorEq, false_and, and_false, if_false, if_true, ite_true, ite_false, ite_self, Nat.succ_ne_zero, Nat.add_one_ne_zero, not_false_eq_true, not_true_eq_false, Nat.one_ne_zero, Nat.zero_ne_one, e]
      exact hC.2 i hi
set_option maxRecDepth 20000 in
theorem ct_firstWrongGain {T : List Row} {f : Int32 → qS → Prop} (hk : A.1 x = some (9, 0)) (r4 : gR S x 4 = some tA) (r9 : gR S x 9 = some bB) (ht : TdAt A S tA td) (hvt : vTd td) (hb : BN A S bB td.1 999 T) (hT : vT T) (hTl : T.length = td.2.1.length) (hf : f (wgT td T) S) : Run (d + 3) 111 [.ref x] A S (kI A f) := by
  refine Run.i (C := mX9_firstWrongGain) rfl rfl rfl fun J hJ => ?_
  obtain ⟨⟨k1, k2, k3, k4, k5⟩, ⟨p1, p2, p3, p4, p5⟩, tT, t1, t2, t3, t4, t5, t6, t7⟩ := ht
  unfold wgT at hf
  generalize eR : wgGo td T td.2.2.2.length 0 = R at hf
  have loop : ∀ n g, g + n = td.2.2.2.length → wgGo td T n g = R → J 2 [some (.ref x), some (.int (nI g))] [] A S := by
    intro n
    induction n with
    | zero =>
      intro g hg he
      refine sX9_firstWrongGain_2 hJ ⟨hk, tA, r4, k1, ?_⟩
      rw [t5]
      refine ⟨fun _ => kI_i ?_, fun z => absurd ((nIle (by omega) (by omega)).2 (by omega)) z⟩
      rw [← he] at hf
      exact hf
    | succ n ih =>
      intro g hg he
      have hg' : g < td.2.2.2.length := by omega
      obtain ⟨t, ht, et, es⟩ := hvt.2.2.2.2.2.2 _ (ug_mem hg')
      unfold wgGo at he
      rw [et, pN, cl_n (by have := hvt.2.2.1; omega)] at he
      refine sX9_firstWrongGain_2 hJ ⟨hk, tA, r4, k1, ?_⟩
      rw [t5]
      refine ⟨fun z => absurd ((nIle (by omega) (by omega)).1 z) (by omega), fun _ => ⟨hk, bB, r9, hk, tA, r4, k1, tA + 10, p4, 6, k4, vp_n (by omega) (by omega), hb.k, wc rfl, ?_⟩⟩
      rw [cl_n (by omega), (t7 g hg').1, et]
      refine ct_gainT hb hT (by omega) ⟨hk, tA, r4, k1, tA + 11, p5, 6, k5, vp_n (by omega) (by omega), ?_⟩
      rw [(t7 g hg').2, nI_1]
      refine ⟨fun z => ?_, fun z => kI_i ?_⟩
      · rw [if_pos ((lgc_eq _ _).1 z)] at he
        exact ih (g + 1) (by omega) he
      · rw [if_neg (fun e => z ((lgc_eq _ _).2 e))] at he
        rw [← he] at hf
        exact hf
  exact sX9_firstWrongGain_0 hJ (loop td.2.2.2.length 0 (by omega) eR)
set_option maxRecDepth 20000 in
theorem ct_isFit {s : Int32} {f : Bool → qS → Prop} (h : XW A S x V tA tB nA nB bA bB π) (hL : vLed V = some td) (hvt : vTd td) (hf : ∀ S', XW A S' x V tA tB nA nB bA bB π → Fr S S' x (x + 329) → f (fitB td s) S') : Run (d + 7) 110 [.ref x, .int s] A S (kZ A f) := by
  refine Run.i (C := mX9_isFit) rfl rfl rfl fun J hJ => ?_
  have hk := h.1.1
  obtain ⟨d1, d2, d3, d4, d5⟩ := h.2.2.1
  have hl16 := hvt.2.2.1
  have hl4 := hvt.2.2.2.1
  unfold fitB at hf
  have loop : ∀ n u (Sj : qS) (w3 : Option Value), u + n = td.2.2.1.length → XW A Sj x V tA tB nA nB bA bB π → TrAt A Sj nB 24 (pst td s u) → Fr S Sj x (x + 329) → J 16 [some (.ref x), some (.int s), some (.int (nI u)), w3] [] A Sj := by
    intro n
    induction n with
    | zero =>
      intro u Sj w3 hu hj tj fj
      have eu : u = td.2.2.1.length := by omega
      have pk := pst_ok (s := s) hvt u (by omega)
      have tdj := hj.tdd hL
      have r4 : gR Sj x 4 = some tA := XW.s4 hj
      have r9 : gR Sj x 9 = some bB := XW.s9 hj
      refine sX9_isFit_16 hJ ⟨hk, tA, r4, tdj.1.1, ?_⟩
      rw [tdj.2.2.2.2.1]
      refine ⟨fun _ => ⟨hk, bB, r9, hk, nB, XW.s7 hj, hk, tA, r4, tdj.1.1, hj.tb.k, wc rfl, ?_⟩, fun z => absurd ((nIle (by omega) (by omega)).2 (by omega)) z⟩
      rw [tdj.2.2.2.1]
      refine ct_book hj.tb tj pk.1 (by omega) fun S2 b2 b3 f2 => ?_
      have h2 := hj.trB f2 b2
      have F2 : Fr S S2 x (x + 329) := fj.trans (f2.wide (by omega) (by omega))
      have eP : pst td s u = setP td s := by rw [eu]; rfl
      rw [eP] at b3 pk ⊢
      cases c : shortT td.1 999 (setP td s)
      · rw [c] at b3 hf
        refine ⟨fun z => absurd z (by decide), fun _ => ⟨hk, wc rfl, ct_firstWrongGain hk (XW.s4 h2) (XW.s9 h2) (h2.tdd hL) hvt (b3 rfl) pk.1 pk.2.1 ⟨fun z => ⟨Or.inl rfl, kZ_0 ?_⟩, fun z => ⟨Or.inr rfl, kZ_1 ?_⟩⟩⟩⟩
        · have := hf S2 h2 F2
          rwa [decide_eq_false z] at this
        · have := hf S2 h2 F2
          rwa [decide_eq_true z] at this
      · rw [c] at hf
        exact ⟨fun _ => ⟨Or.inl rfl, kZ_0 (hf S2 h2 F2)⟩, fun z => absurd rfl z⟩
    | succ n ih =>
      intro u Sj w3 hu hj tj fj
      have hu' : u < td.2.2.1.length := by omega
      have pk := pst_ok (s := s) hvt u (by omega)
      have tdj := hj.tdd hL
      have r4 : gR Sj x 4 = some tA := XW.s4 hj
      have r7 : gR Sj x 7 = some nB := XW.s7 hj
      obtain ⟨⟨t, ht, et, es⟩, v, hv, ev⟩ := hvt.2.2.2.2.1 _ (ug_mem hu')
      have epst : pst td s (u + 1) = if bitB s (nI u) then (pst td s u).set t (rwP (tr (pst td s u) t) (ug td.2.2.1 u).2) else pst td s u := by
        show (if bitB s (nI u) then (pst td s u).set (pN (ug td.2.2.1 u).1) (rwP (tr (pst td s u) (pN (ug td.2.2.1 u).1)) (ug td.2.2.1 u).2) else pst td s u) = _
        rw [et, pN, cl_n (by omega)]
      have tdj' := tdj
      obtain ⟨⟨k1, k2, k3, k4, k5⟩, ⟨p1, p2, p3, p4, p5⟩, tT, t1, t2, t3, t4, t5, t6, t7⟩ := tdj'
      refine sX9_isFit_16 hJ ⟨hk, tA, r4, k1, ?_⟩
      rw [t2]
      refine ⟨fun z => absurd ((nIle (by omega) (by omega)).1 z) (by omega), fun _ => ⟨hk, tA, r4, k1, tA + 8, p2, 4, k2, vp_n (by omega) (by omega), ?_⟩⟩
      rw [cl_n (by omega), (t4 u hu').1, et, nI_1, cl_n (by omega)]
      refine ⟨fun z => ?_, fun z => ⟨hk, nB, r7, tj.1.1, wc rfl, ct_has tj ?_⟩⟩
      · refine ih (u + 1) Sj _ (by omega) hj ?_ fj
        rw [epst, show bitB s (nI u) = false from decide_eq_false z]
        exact tj
      · rw [hasT_n (by rw [pk.2.1]; omega) (by rw [pk.2.1]; exact ht)]
        refine ⟨fun z => absurd z (by decide), fun _ => ⟨hk, nB, r7, tj.1.1, nB + 5, tj.2.1.2.2.2.2.2.1, hk, tA, r4, k1, tA + 9, p3, 4, k3, vp_n (by omega) (by omega), 24, tj.1.2.2.2.2.2.1, vp_n (by omega) (by omega), fun S1 e1 => ?_⟩⟩
        rw [(t4 u hu').2] at e1
        have tt := tj.price (v := (ug td.2.2.1 u).2) (t := t) (by rw [pk.2.1]; exact ht)
        rw [← e1] at tt
        have f1 : Fr Sj S1 nB (nB + 7) := by rw [e1]; exact Fr.rf.uI (by omega) (by omega)
        refine ih (u + 1) S1 _ (by omega) (hj.trN f1 tt) ?_ (fj.trans (f1.wide (by omega) (by omega)))
        rw [epst, show bitB s (nI u) = true from decide_eq_true z, if_pos rfl]
        exact tt
  have tdS := h.tdd hL
  obtain ⟨T, tS⟩ := h.tn
  exact sX9_isFit_0 hJ ⟨hk, nB, XW.s7 h, hk, tA, XW.s4 h, tdS.1.1, tA + 1, tdS.2.1.1, tS.1.1, wc rfl, ct_copyFrom tS tdS.2.2.1 (by omega) (by omega) fun S1 h1 f1 => loop td.2.2.1.length 0 S1 _ (by omega) (h.trN f1 h1) h1 (f1.wide (by omega) (by omega))⟩
end
