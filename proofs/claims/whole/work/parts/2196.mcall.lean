/-! the reference's calls: sets of prices; judge -/
def aJudge (V : VSt) : Int32 := match vLed V with
  | some td => wgT td (setP td 0)
  | none => -1
theorem cp145.k' {S S' : qS} {m a : Nat} (h : cp145 S S' a (m + 3)) : Fk S S' m := ⟨fun b k n => ⟨by rw [h.1, if_neg (fun z => n (by unfold scr; omega))], h.2.1 b k⟩, h.2.2⟩
theorem LgAt.fk {A : qA} {S S' : qS} {m q : Nat} {td : Tld} (h : LgAt A S q td) (hf : Fk S S' m) (hq : m + 27 < q) : LgAt A S' q td := h.fr fun b b1 b2 k => ⟨(hf.1 b k (by unfold scr; omega)).1, hf.2 b k⟩
/-- what the sets' counters hold stays -/
def Ex (S S' : qS) (m : Nat) : Prop := (∀ k, (k = 0 ∨ 45 ≤ k) → gI S' m k = gI S m k) ∧ ∀ j, gI S' (m + 26) j = gI S (m + 26) j
theorem Ex.trans {S S' S'' : qS} {m : Nat} (h : Ex S S' m) (h' : Ex S' S'' m) : Ex S S'' m := ⟨fun k hk => (h'.1 k hk).trans (h.1 k hk), fun j => (h'.2 j).trans (h.2 j)⟩
section
variable {d : Nat} {A : qA} {S : qS} {m : Nat} {V : VSt}
set_option maxRecDepth 20000 in
theorem cm_bit {s k : Int32} {f : Bool → qS → Prop} (hf : f (bitB s k) S) : Run (d + 1) 143 [.int s, .int k] A S (kZ A f) := by
  refine Run.i (C := mX11_bit) rfl rfl rfl fun J hJ => ?_
  refine sX11_bit_0 hJ ⟨fun z => ⟨Or.inl rfl, kZ_0 ?_⟩, fun z => ⟨Or.inr rfl, kZ_1 ?_⟩⟩
  · rwa [show bitB s k = false from decide_eq_false z] at hf
  · rwa [show bitB s k = true from decide_eq_true z] at hf
set_option maxRecDepth 20000 in
set_option maxHeartbeats 1000000 in
theorem cm_booksSet {s : Int32} {td : Tld} {f : qS → Prop} (h : MAt A S m V) (hv : vOk V) (hL : vLed V = some td) (hf : ∀ S', MAt A S' m V → BkM A S' m td.1 999 (setP td s) → Fk S S' m → Ex S S' m → f S') : Run (d + 9) 235 [.ref m, .int s] A S (kV A f) := by
  refine Run.i (C := mX11_booksSet) rfl rfl rfl fun J hJ => ?_
  have hvt := hv.1 td hL
  have hl16 := hvt.2.2.1
  have hl4 := hvt.2.2.2.1
  have hL1 := h.2.2.2
  rw [hL] at hL1
  obtain ⟨q, e3, hq, hLg⟩ := hL1
  obtain ⟨⟨k0, k1, k2, k3, k4, k5, k6, k7, k8, k9, k10, k11, k12, k13, k14, k15, k16, k17, k18, k19, k20, k21, k22, k23, k24, k25, k26⟩, ⟨r5, r15, r16, r17, r18, r21, r22, r23, r24, r25, r26, r27, r28, r29, r30, r31, r32, r33, r34, r35, r36, r37, r38, r39, r40, r48⟩⟩ := h.1
  obtain ⟨H, hH⟩ := h.2.1
  have loop : ∀ n u (Sj : qS), u + n = td.2.2.1.length → MAt A Sj m V → Fk S Sj m → Ex S Sj m → RwAt Sj (m + 3) (pst td s u) → J 16 [some (.ref m), some (.int s), some (.int (nI u))] [] A Sj := by
    intro n
    induction n with
    | zero =>
      intro u Sj hn hj hrj hex hx
      refine sX11_booksSet_16 hJ ?_
      have e3' : gR Sj m 3 = some q := (hrj.2 m 3).trans e3
      obtain ⟨⟨l0, l1, l2, l3, l4, l5⟩, -, w1, w2, w3, -⟩ := hLg.fk hrj hq
      simp only [k0, e3', l0, w1, w2, nIle (show td.2.2.1.length ≤ 100000 by omega) (show u ≤ 100000 by omega), Option.some.injEq, Prod.mk.injEq, exists_eq_left', exists_eq_left, true_and, and_true, and_self, true_or, or_true, forall_const, exists_const, exists_and_left, wcat, Nat.zero_le, Nat.reduceLeDiff, Int32.lt_irrefl, not_false_eq_true, Nat.zero_add, forall_eq]
      refine ⟨fun _ => ?_, fun z => absurd (by omega) z⟩
      have eu : u = td.2.2.1.length := by omega
      rw [eu] at hx
      obtain ⟨Hj, hHj⟩ := hj.2.1
      exact cm_books hj.1 hx hHj (pst_ok hvt _ (Nat.le_refl _)).1.b fun S2 hB _ hr2 => kV_i (hf S2 (hj.fk (hr2.k (by omega)) hB.2.1) hB (hrj.trans (hr2.k (by omega))) (hex.trans ⟨fun k hk => (hr2.1 m (by omega) k (by omega)).1, fun j => (hr2.1 (m + 26) (by omega) j (by omega)).1⟩))
    | succ n ih =>
      intro u Sj hn hj hrj hex hx
      refine sX11_booksSet_16 hJ ?_
      have e3' : gR Sj m 3 = some q := (hrj.2 m 3).trans e3
      obtain ⟨⟨l0, l1, l2, l3, l4, l5⟩, ⟨t4, t5, t6, t7, t8⟩, w1, w2, w3, -, w5, -⟩ := hLg.fk hrj hq
      have r16' : gR Sj m 16 = some (m + 3) := (hrj.2 m 16).trans r16
      obtain ⟨p1, p2, p3⟩ := pst_ok (s := s) hvt u (by omega)
      obtain ⟨⟨t, t1, tt2, tt3⟩, v, v1, v2⟩ := hvt.2.2.2.2.1 _ (ug_mem (show u < td.2.2.1.length by omega))
      have et : pN (ug td.2.2.1 u).1 = t := by rw [tt2]; exact cl_n (by omega)
      obtain ⟨w51, w52⟩ := w5 u (by omega)
      rw [tt2] at w51
      have e6 : (6 : Int32) * nI t + 5 = nI (6 * t + 5) := by rw [show (6 : Int32) = nI 6 from rfl, show (5 : Int32) = nI 5 from rfl, nI_mul, nI_add]
      simp only [k0, e3', l0, w2, nIle (show td.2.2.1.length ≤ 100000 by omega) (show u ≤ 100000 by omega), nI_1, Option.some.injEq, Prod.mk.injEq, exists_eq_left', exists_eq_left, true_and, and_true, and_self, true_or, or_true, forall_const, exists_const, exists_and_left, wcat, Nat.zero_le, Nat.reduceLeDiff, Int32.lt_irrefl, not_false_eq_true, Nat.zero_add, forall_eq]
      refine ⟨fun z => absurd z (by omega), fun _ => cm_bit ?_⟩
      have ih' := ih (u + 1)
      rw [pst] at ih'
      refine q_eqb (fun z => ?_) (fun z => ?_)
      · rw [if_neg (by rw [z]; decide)] at ih'
        exact ih' Sj (by omega) hj hrj hex hx
      · rw [if_pos z, et] at ih'
        simp only [r16', e3', l0, t5, t6, l2, l3, k3, cl_n (show u ≤ 100000 by omega), vp_n (show u < 4 by omega) (show 4 ≤ 100000 by omega), w51, w52, e6, cl_n (show 6 * t + 5 ≤ 100000 by omega), vp_n (show 6 * t + 5 < 217 by omega) (show 217 ≤ 100000 by omega), Option.some.injEq, Prod.mk.injEq, exists_eq_left', exists_eq_left, true_and, and_true, and_self, true_or, or_true, forall_const, exists_const, exists_and_left, wcat, Nat.zero_le, Nat.reduceLeDiff, Int32.lt_irrefl, not_false_eq_true, Nat.zero_add, forall_eq]
        have hr2 : Fk Sj (uI Sj (m + 3) (6 * t + 5) (ug td.2.2.1 u).2) m := Fk.rf.uI (by unfold scr; omega)
        obtain ⟨Hj, hHj⟩ := hj.2.1
        have hH2 : MH (uI Sj (m + 3) (6 * t + 5) (ug td.2.2.1 u).2) m Hj := hHj.fm (lo := 3) (hi := 4) (u := 41) (v := 41) (Fm.rf.uI (by omega)) (by omega)
        exact ih' _ (by omega) (hj.fk hr2 hH2) (hrj.trans hr2) (hex.trans ⟨fun k hk => by rw [gI_uI, if_neg (by omega)], fun j => by rw [gI_uI, if_neg (by omega)]⟩) (hx.price (by omega))
  refine sX11_booksSet_0 hJ ?_
  obtain ⟨⟨l0, l1, l2, l3, l4, l5⟩, ⟨t4, t5, t6, t7, t8⟩, w1, w2, w3, w4, -⟩ := hLg
  simp only [k0, e3, l0, t4, r16, Option.some.injEq, Prod.mk.injEq, exists_eq_left', exists_eq_left, true_and, and_true, and_self, true_or, or_true, forall_const, exists_const, exists_and_left, wcat, Nat.zero_le, Nat.reduceLeDiff, Int32.lt_irrefl, not_false_eq_true, Nat.zero_add, forall_eq]
  refine cm_copies l1 k3 (by omega) (by omega) (by omega) (by omega) (by omega) fun S' hc => ?_
  refine loop td.2.2.1.length 0 S' (by omega) (h.fk hc.k' (hH.cp hc)) hc.k' ⟨fun k hk => by rw [hc.1, if_neg (by omega)], fun j => by rw [hc.1, if_neg (by omega)]⟩ ?_
  exact (RwO.same (o' := 0) w4.o hvt.2.1.1.2.2 fun k hk => by rw [Nat.zero_add, hc.1, if_pos ⟨rfl, hk⟩]).at
set_option maxRecDepth 20000 in
theorem cm_wrongGain {td : Tld} {T : List Row} {f : Int32 → qS → Prop} (h : MAt A S m V) (hv : vOk V) (hL : vLed V = some td) (hB : BkM A S m td.1 999 T) (hT : vB T) (hTl : T.length = td.2.1.length) (hf : f (wgT td T) S) : Run (d + 2) 236 [.ref m] A S (kI A f) := by
  refine Run.i (C := mX11_wrongGain) rfl rfl rfl fun J hJ => ?_
  have hvt := hv.1 td hL
  have hl16 := hvt.2.2.1
  have hl6 := hvt.2.2.2.2.2.1
  have hL1 := h.2.2.2
  rw [hL] at hL1
  obtain ⟨q, e3, hq, ⟨l0, l1, l2, l3, l4, l5⟩, ⟨t4, t5, t6, t7, t8⟩, w1, w2, w3, w4, w5, w6⟩ := hL1
  obtain ⟨⟨k0, k1, k2, k3, k4, k5, k6, k7, k8, k9, k10, k11, k12, k13, k14, k15, k16, k17, k18, k19, k20, k21, k22, k23, k24, k25, k26⟩, ⟨r5, r15, r16, r17, r18, r21, r22, r23, r24, r25, r26, r27, r28, r29, r30, r31, r32, r33, r34, r35, r36, r37, r38, r39, r40, r48⟩⟩ := h.1
  have loop : ∀ n k, k + n = td.2.2.2.length → wgGo td T n k = wgT td T → J 2 [some (.ref m), some (.int (nI k))] [] A S := by
    intro n
    induction n with
    | zero =>
      intro k hn he
      refine sX11_wrongGain_2 hJ ?_
      simp only [k0, e3, l0, w3, nIle (show td.2.2.2.length ≤ 100000 by omega) (show k ≤ 100000 by omega), Option.some.injEq, Prod.mk.injEq, exists_eq_left', exists_eq_left, true_and, and_true, and_self, true_or, or_true, forall_const, exists_const, exists_and_left, wcat, Nat.zero_le, Nat.reduceLeDiff, Int32.lt_irrefl, not_false_eq_true, Nat.zero_add, forall_eq]
      rw [wgGo] at he
      exact ⟨fun _ => kI_i (by rw [he]; exact hf), fun z => absurd (by omega) z⟩
    | succ n ih =>
      intro k hn he
      refine sX11_wrongGain_2 hJ ?_
      obtain ⟨t, t1, tt2, -⟩ := hvt.2.2.2.2.2.2 _ (ug_mem (show k < td.2.2.2.length by omega))
      obtain ⟨w61, w62⟩ := w6 k (by omega)
      rw [tt2] at w61
      have et : pN (ug td.2.2.2 k).1 = t := by rw [tt2]; exact cl_n (by omega)
      simp only [k0, e3, l0, w3, t7, l4, cl_n (show k ≤ 100000 by omega), vp_n (show k < 6 by omega) (show 6 ≤ 100000 by omega), w61, nIle (show td.2.2.2.length ≤ 100000 by omega) (show k ≤ 100000 by omega), nI_1, Option.some.injEq, Prod.mk.injEq, exists_eq_left', exists_eq_left, true_and, and_true, and_self, true_or, or_true, forall_const, exists_const, exists_and_left, wcat, Nat.zero_le, Nat.reduceLeDiff, Int32.lt_irrefl, not_false_eq_true, Nat.zero_add, forall_eq]
      refine ⟨fun z => absurd z (by omega), fun _ => cm_gainOf hB hT (by omega) ?_⟩
      simp only [e3, l0, t8, l5, cl_n (show k ≤ 100000 by omega), vp_n (show k < 6 by omega) (show 6 ≤ 100000 by omega), w62, lgc_eq, Option.some.injEq, Prod.mk.injEq, exists_eq_left', exists_eq_left, true_and, and_true, and_self, true_or, or_true, forall_const, exists_const, exists_and_left, wcat, Nat.zero_le, Nat.reduceLeDiff, Int32.lt_irrefl, not_false_eq_true, Nat.zero_add, forall_eq]
      rw [wgGo, et] at he
      refine ⟨fun z => ?_, fun z => kI_i ?_⟩
      · rw [if_pos z] at he
        exact ih (k + 1) (by omega) he
      · rw [if_neg z] at he
        rw [he]; exact hf
  exact sX11_wrongGain_0 hJ (loop td.2.2.2.length 0 (by omega) rfl)
set_option maxRecDepth 20000 in
theorem cm_fitsSet {s : Int32} {td : Tld} {f : Bool → qS → Prop} (h : MAt A S m V) (hv : vOk V) (hL : vLed V = some td) (hf : ∀ S', MAt A S' m V → Fk S S' m → Ex S S' m → f (fitB td s) S') : Run (d + 10) 237 [.ref m, .int s] A S (kZ A f) := by
  refine Run.i (C := mX11_fits) rfl rfl rfl fun J hJ => ?_
  have hok := pst_ok (s := s) (hv.1 td hL) td.2.2.1.length (Nat.le_refl _)
  refine sX11_fits_0 hJ ⟨h.1.1.1, wc rfl, cm_booksSet h hv hL fun S2 h2 hB hr2 hx2 => ⟨h.1.1.1, ?_⟩⟩
  rw [hB.2.2.2.2.1]
  have hf' := hf S2 h2 hr2 hx2
  refine q_neb (fun z => ⟨Or.inl rfl, kZ_0 ?_⟩) (fun z => ⟨h.1.1.1, wc rfl, cm_wrongGain h2 hv hL hB hok.1.b hok.2.1 ⟨fun y => ⟨Or.inl rfl, kZ_0 ?_⟩, fun y => ⟨Or.inr rfl, kZ_1 ?_⟩⟩⟩)
  · rwa [fitB, z] at hf'
  · rwa [fitB, z, decide_eq_false y] at hf'
  · rwa [fitB, z, decide_eq_true y] at hf'
set_option maxRecDepth 20000 in
theorem cm_judge {f : Int32 → qS → Prop} (h : MAt A S m V) (hv : vOk V) (hf : ∀ S', MAt A S' m (qst (vLed V).isSome V) → Fr S S' m (m + 27) → f (aJudge V) S') : Run (d + 10) 246 [.ref m] A S (kI A f) := by
  refine Run.i (C := mX11_judge) rfl rfl rfl fun J hJ => ?_
  refine sX11_judge_0 hJ ⟨h.1.1.1, fun T e => ?_⟩
  subst e
  refine ⟨h.1.1.1, fun z => ⟨h.1.1.1, wc rfl, cm_refused h.t0 fun S' h2 hr2 => kI_i ?_⟩, fun q z => ?_⟩
  · have hn := mLed_n h.t0.2.2.2 z
    have := hf S'
    rw [aJudge, hn] at this
    exact this h2 (frT0 hr2)
  · obtain ⟨td, hL, -⟩ := mLed_s h.t0.2.2.2 z
    have hok := pst_ok (s := 0) (hv.1 td hL) td.2.2.1.length (Nat.le_refl _)
    refine ⟨h.1.1.1, wc rfl, cm_booksSet h.t0 hv hL fun S2 h2 hB hr2 _ => ⟨h.1.1.1, wc rfl, cm_wrongGain h2 hv hL hB hok.1.b hok.2.1 ⟨h.1.1.1, wc rfl, cm_good h2 fun S' h3 hr3 => kI_i ?_⟩⟩⟩
    have := hf S'
    rw [aJudge, hL] at this
    exact this h3 (frT0 (hr2.fr.trans hr3))
end
