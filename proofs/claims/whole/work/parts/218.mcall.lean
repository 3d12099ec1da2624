/-! the reference's calls: later, trade, booked; sets of prices -/
def rowF (r : Row) (k : Nat) : Int32 := if k = 0 then r.1 else if k = 1 then r.2.1 else if k = 2 then r.2.2.1 else if k = 3 then r.2.2.2.1 else if k = 4 then r.2.2.2.2.1 else r.2.2.2.2.2
def aTrade (V : VSt) (t w : Int32) : Int32 := if hasT (vNow V) t && inB w 0 6 then (if w = 6 then nI (rnk (dayF (vNow V)) (pN t) (vNow V).length) else rowF (tr (vNow V) (pN t)) (pN w)) else -1
def aBooked (V : VSt) (i : Int32) : Int32 := if hasT (vNow V) i then nI (ot (qT (vNow V)) (pN i)) else -1
def bitB (s k : Int32) : Bool := decide (((s >>> (k &&& 31)) &&& 1) = 1)
/-- the trades told, with the other prices of the set, of the first n unsure ones -/
def pst (td : Tld) (s : Int32) : Nat → List Row
  | 0 => td.2.1
  | u + 1 => if bitB s (nI u) then (pst td s u).set (pN (ug td.2.2.1 u).1) (rwP (tr (pst td s u) (pN (ug td.2.2.1 u).1)) (ug td.2.2.1 u).2) else pst td s u
def setP (td : Tld) (s : Int32) : List Row := pst td s td.2.2.1.length
/-- the first gain told, from k on, that isn't so -/
def wgGo (td : Tld) (T : List Row) : Nat → Nat → Int32
  | 0, _ => -2
  | n + 1, k => if smT pGain td.1 999 T (pN (ug td.2.2.2 k).1) = (ug td.2.2.2 k).2.toInt64 then wgGo td T n (k + 1) else nI k
def wgT (td : Tld) (T : List Row) : Int32 := wgGo td T td.2.2.2.length 0
def fitB (td : Tld) (s : Int32) : Bool := !shortT td.1 999 (setP td s) && decide (wgT td (setP td s) = -2)
theorem ug_mem {X : List (Int32 × Int32)} {i : Nat} (h : i < X.length) : ug X i ∈ X := by
  rw [ug, List.getD_eq_getElem?_getD, List.getElem?_eq_getElem h, Option.getD_some]
  exact List.getElem_mem h
theorem pst_ok {td : Tld} {s : Int32} (h : vTd td) : ∀ u, u ≤ td.2.2.1.length → vT (pst td s u) ∧ (pst td s u).length = td.2.1.length ∧ ∀ t, (tr (pst td s u) t).1 = (tr td.2.1 t).1
  | 0, _ => ⟨h.2.1.1, rfl, fun _ => rfl⟩
  | u + 1, hu => by
    obtain ⟨i1, i2, i3⟩ := pst_ok (s := s) h u (by omega)
    rw [pst]
    split
    · obtain ⟨⟨t, t1, t2, t3⟩, v, v1, v2⟩ := h.2.2.2.2.1 _ (ug_mem (show u < td.2.2.1.length by omega))
      have hl := h.2.1.1.2.2
      have e : pN (ug td.2.2.1 u).1 = t := by rw [t2]; exact cl_n (by omega)
      rw [e, v2]
      have ht : t < (pst td s u).length := by omega
      refine ⟨vT_set i1 ht rfl (vRow_price (i1.1 t ht) (by rw [i3]; exact t3) v1), by rw [List.length_set]; exact i2, fun j => ?_⟩
      rw [tr_set ht]
      split
      · rename_i z; rw [z]; exact i3 t
      · exact i3 j
    · exact ⟨i1, i2, i3⟩
section
variable {d : Nat} {A : qA} {S : qS} {m : Nat} {V : VSt}
set_option maxRecDepth 20000 in
set_option maxHeartbeats 1000000 in
theorem cm_later {t : Int32} {f : Int32 → qS → Prop} (h : MAt A S m V) (hv : vOk V) (hf : ∀ S', MAt A S' m (qst (isSellT (vNow V) t) V) → Fr S S' m (m + 27) → f (aLater V t) S') : Run (d + 10) 234 [.ref m, .int t] A S (kI A f) := by
  refine Run.i (C := mX11_later) rfl rfl rfl fun J hJ => ?_
  refine sX11_later_0 hJ ⟨h.1.1.1, fun T e => ?_⟩
  subst e
  refine ⟨h.1.1.1, wc rfl, cm_isSell h.t0 hv (q_neb (fun z => ?_) (fun z => ⟨h.1.1.1, wc rfl, cm_refused h.t0 fun S' h2 hr2 => kI_i ?_⟩))⟩
  · obtain ⟨i, td, hi, rfl, hL⟩ := sell_led hv z
    have hl := hv.2.1.1.2.2
    have ei : pN (nI i) = i := cl_n (by omega)
    obtain ⟨dd, hd1, hd2⟩ := (hv.2.1.1.1 i hi).2.2.1
    have fin : ∀ (v : Int32) (Sj : qS), v = laGo (lw (vLed V)) (vNow V) i 100 0 → MAt A Sj m V → Fk (uI S m 0 0) Sj m → Run (d + 9) 140 [.ref m, .int v] A Sj (kI A fun r S' => kI A f (some (.int r)) A S') := by
      intro v Sj ev hj hrj
      refine cm_good hj fun S' h3 hr3 => kI_i ?_
      have := hf S'
      rw [z, aLater, z, if_pos rfl, ei, ← ev] at this
      exact this h3 (frT0 (hrj.fr.trans hr3))
    have loop : ∀ n k (Sj : qS), k + n = 100 → MAt A Sj m V → Fk (uI S m 0 0) Sj m → laGo (lw (vLed V)) (vNow V) i n k = laGo (lw (vLed V)) (vNow V) i 100 0 → J 21 [some (.ref m), some (.int (nI i)), some (.int (nI k))] [] A Sj := by
      intro n
      induction n with
      | zero =>
        intro k Sj hn hj hrj he
        refine sX11_later_21 hJ ?_
        have q9 : ((99 : Int32) < nI k) = True := by rw [show (99 : Int32) = nI 99 from rfl, nIlt (by omega) (by omega)]; simp; omega
        simp only [q9, h.1.1.1, not_true_eq_false, false_imp_iff, true_imp_iff, and_true, true_and, Option.some.injEq, Prod.mk.injEq, exists_eq_left', exists_eq_left, true_and, and_true, and_self, true_or, or_true, forall_const, exists_const, exists_and_left, wcat, Nat.zero_le, Nat.reduceLeDiff, Int32.lt_irrefl, not_false_eq_true, Nat.zero_add, forall_eq]
        rw [laGo] at he
        exact fin _ Sj he hj hrj
      | succ n ih =>
        intro k Sj hn hj hrj he
        refine sX11_later_21 hJ ?_
        have q9 : ((99 : Int32) < nI k) = False := by rw [show (99 : Int32) = nI 99 from rfl, nIlt (by omega) (by omega)]; simp; omega
        have hj' := hj
        obtain ⟨⟨⟨k0, k1, k2, k3, k4, k5, k6, k7, k8, k9, k10, k11, k12, k13, k14, k15, k16, k17, k18, k19, k20, k21, k22, k23, k24, k25, k26⟩, ⟨r5, r15, r16, r17, r18, r21, r22, r23, r24, r25, r26, r27, r28, r29, r30, r31, r32, r33, r34, r35, r36, r37, r38, r39, r40, r48⟩⟩, -, ⟨-, -, c3, -⟩, -⟩ := hj'
        simp only [q9, k0, r15, not_false_eq_true, false_imp_iff, true_imp_iff, true_and, Option.some.injEq, Prod.mk.injEq, exists_eq_left', exists_eq_left, true_and, and_true, and_self, true_or, or_true, forall_const, exists_const, exists_and_left, wcat, Nat.zero_le, Nat.reduceLeDiff, Int32.lt_irrefl, not_false_eq_true, Nat.zero_add, forall_eq]
        refine cm_of (c := 3) rfl k2 (by omega) (by omega) ?_
        rw [(c3.2 i hi).2.2.1]
        rw [laGo] at he
        refine ⟨fun y => ?_, fun y => cm_works hj hv fun S1 h1 hx1 hr1 => ?_⟩
        · rw [if_pos y] at he
          exact fin _ Sj he hj hrj
        · rw [if_neg y] at he
          have h1' := h1
          obtain ⟨⟨⟨k0, k1, k2, k3, k4, k5, k6, k7, k8, k9, k10, k11, k12, k13, k14, k15, k16, k17, k18, k19, k20, k21, k22, k23, k24, k25, k26⟩, ⟨r5, r15, r16, r17, r18, r21, r22, r23, r24, r25, r26, r27, r28, r29, r30, r31, r32, r33, r34, r35, r36, r37, r38, r39, r40, r48⟩⟩, ⟨H, hH⟩, -, hL1⟩ := h1'
          rw [hL] at hL1
          obtain ⟨q, e3, hq, hk, hrf, hw, -⟩ := hL1
          have e : (6 : Int32) * nI i + 3 = nI (6 * i + 3) := by rw [show (6 : Int32) = nI 6 from rfl, show (3 : Int32) = nI 3 from rfl, nI_mul, nI_add]
          have eq1 : (q = m + 3) = False := by simp only [eq_iff_iff, iff_false]; omega
          have ed := (hx1.2 i hi).2.2.1
          simp only [k0, k3, r16, e, cl_n (show 6 * i + 3 ≤ 100000 by omega), vp_n (show 6 * i + 3 < 217 by omega) (show 217 ≤ 100000 by omega), e3, hk.1, hw, eq1, ed, Option.some.injEq, Prod.mk.injEq, exists_eq_left', exists_eq_left, true_and, and_true, and_self, true_or, or_true, forall_const, exists_const, exists_and_left, wcat, Nat.zero_le, Nat.reduceLeDiff, Int32.lt_irrefl, not_false_eq_true, Nat.zero_add, forall_eq, gI_uI, gL_uL, gR_uR, gI_uL, gI_uR, gL_uI, gL_uR, gR_uI, gR_uL, true_and, and_true, Nat.add_right_cancel_iff, Nat.add_left_cancel_iff, Nat.reduceEqDiff, Nat.left_eq_add, Nat.right_eq_add, Nat.add_eq_left, Nat.add_eq_right, Nat.reduceAdd, Nat.succ_ne_self, reduceCtorEq, false_and, and_false, if_false, if_true, ite_true, ite_false, ite_self, Nat.succ_ne_zero, Nat.add_one_ne_zero, not_false_eq_true, not_true_eq_false, Nat.one_ne_zero, Nat.zero_ne_one]
          have ddk : (tr (vNow V) i).2.2.1 + nI k = nI (dd + k) := by rw [hd2, nI_add]
          have hle : dd + k ≤ 999 := by
            rw [ddk, show (999 : Int32) = nI 999 from rfl, nIlt (by omega) (by omega)] at y
            omega
          have hr2 : Fk S1 (uI S1 (m + 3) (6 * i + 3) ((tr (vNow V) i).2.2.1 + nI k)) m := Fk.rf.uI (by unfold scr; omega)
          have hH2 : MH (uI S1 (m + 3) (6 * i + 3) ((tr (vNow V) i).2.2.1 + nI k)) m H := hH.fm (lo := 3) (hi := 4) (u := 41) (v := 41) (Fm.rf.uI (by omega)) (by omega)
          have hvd : vT (dyT (vNow V) i ((tr (vNow V) i).2.2.1 + nI k)) := by rw [ddk]; exact vT_dy hv.2.1.1 hi hle
          rw [← lw_s hL]
          refine cm_booksX (h1.fk hr2 hH2) (hx1.day hi) hvd.b fun S3 h3 hB hr3 => ?_
          have hFk := ((hrj.trans hr1).trans hr2).trans hr3
          have hB' : BkM A S3 m (lw (vLed V)) 999 (dyT (vNow V) i ((tr (vNow V) i).2.2.1 + nI k)) := hB
          rw [hB'.2.2.2.2.1]
          simp only [nI_1]
          refine q_neb (fun y1 => ?_) (fun y1 => cm_ledOf hB' hvd.b (by unfold dyT; rw [List.length_set]; exact hi) ?_)
          · rw [if_pos y1] at he
            exact ih (k + 1) S3 (by omega) h3 hFk he
          · rw [lgc_eq]
            rw [if_neg (by rw [y1]; decide)] at he
            refine ⟨fun y2 => ?_, fun y2 => ?_⟩
            · rw [if_neg y2] at he
              exact ih (k + 1) S3 (by omega) h3 hFk he
            · rw [if_pos y2] at he
              exact fin _ S3 he h3 hFk
    exact loop 100 0 _ (by omega) h.t0 Fk.rf rfl
  · have := hf S'
    rw [z, aLater, z] at this
    exact this h2 (frT0 hr2)
set_option maxRecDepth 20000 in
theorem cm_ordersX {T : List Row} {f : qS → Prop} (h : MAt A S m V) (hx : RwAt S (m + 3) T) (hT : T.length ≤ 36) (hf : ∀ S', MAt A S' m V → (∀ j, j < T.length → gI S' (m + 6) j = nI (ot (qT T) j)) → (∀ t, t < T.length → gI S' (m + 7) t = nI (rnk (dayF T) t T.length)) → Fk S S' m → f S') : Run (d + 3) 180 [.ref m] A S (kV A f) := by
  obtain ⟨H, hH⟩ := h.2.1
  exact cm_orders h.1 hx hT fun S' o6 o7 hr => hf S' (h.fk (hr.k (by omega)) (hH.fm hr (by omega))) o6 o7 (hr.k (by omega))
set_option maxRecDepth 20000 in
set_option maxHeartbeats 1000000 in
theorem cm_trade {t w : Int32} {f : Int32 → qS → Prop} (h : MAt A S m V) (hv : vOk V) (hf : ∀ S', MAt A S' m (qst (hasT (vNow V) t && inB w 0 6) V) → Fr S S' m (m + 27) → f (aTrade V t w) S') : Run (d + 10) 205 [.ref m, .int t, .int w] A S (kI A f) := by
  refine Run.i (C := mX11_trade) rfl rfl rfl fun J hJ => ?_
  refine sX11_trade_0 hJ ⟨h.1.1.1, fun T e => ?_⟩
  subst e
  have hl := hv.2.1.1.2.2
  refine ⟨h.1.1.1, wc rfl, cm_isTrade h.t0 hv (q_eqb (fun z => ⟨h.1.1.1, wc rfl, cm_refused h.t0 fun S' h2 hr2 => kI_i ?_⟩) (fun z => ⟨wc rfl, cm_in (q_neb (fun z1 => ?_) (fun z1 => ⟨h.1.1.1, wc rfl, cm_refused h.t0 fun S' h2 hr2 => kI_i ?_⟩))⟩))⟩
  · have := hf S'
    rw [z, aTrade, z] at this
    exact this h2 (frT0 hr2)
  · obtain ⟨i, hi, rfl⟩ := hasT_i (by omega) z
    obtain ⟨k, hk, rfl⟩ := inB_i (n := 6) (by omega) rfl z1
    have ei : pN (nI i) = i := cl_n (by omega)
    have ek : pN (nI k) = k := cl_n (by omega)
    have hf' := hf
    rw [z, z1, aTrade, z, z1, Bool.and_self, if_pos rfl, ei, ek] at hf'
    rw [show (6 : Int32) = nI 6 from rfl, nIle (by omega) (by omega)]
    refine ⟨fun y => ⟨h.1.1.1, wc rfl, cm_works h.t0 hv fun S1 h1 hx1 hr1 => ⟨h.1.1.1, wc rfl, cm_ordersX h1 hx1 (by omega) fun S2 h2 o6 o7 hr2 => ?_⟩⟩, fun y => ?_⟩
    · have h2' := h2
      obtain ⟨⟨⟨k0, k1, k2, k3, k4, k5, k6, k7, k8, k9, k10, k11, k12, k13, k14, k15, k16, k17, k18, k19, k20, k21, k22, k23, k24, k25, k26⟩, ⟨r5, r15, r16, r17, r18, r21, r22, r23, r24, r25, r26, r27, r28, r29, r30, r31, r32, r33, r34, r35, r36, r37, r38, r39, r40, r48⟩⟩, -⟩ := h2'
      simp only [k0, k7, r22, cl_n (show i ≤ 100000 by omega), vp_n (show i < 36 by omega) (show 36 ≤ 100000 by omega), o7 i hi, Option.some.injEq, Prod.mk.injEq, exists_eq_left', exists_eq_left, true_and, and_true, and_self, true_or, or_true, forall_const, exists_const, exists_and_left, wcat, Nat.zero_le, Nat.reduceLeDiff, Int32.lt_irrefl, not_false_eq_true, Nat.zero_add, forall_eq]
      refine cm_good h2 fun S' h3 hr3 => kI_i ?_
      have := hf' S'
      rw [show k = 6 by omega, if_pos (show nI 6 = 6 from rfl)] at this
      exact this h3 (frT0 ((hr1.fr.trans hr2.fr).trans hr3))
    · have h1' := h.t0 (x := 0)
      obtain ⟨⟨⟨k0, k1, k2, k3, k4, k5, k6, k7, k8, k9, k10, k11, k12, k13, k14, k15, k16, k17, k18, k19, k20, k21, k22, k23, k24, k25, k26⟩, ⟨r5, r15, r16, r17, r18, r21, r22, r23, r24, r25, r26, r27, r28, r29, r30, r31, r32, r33, r34, r35, r36, r37, r38, r39, r40, r48⟩⟩, -, ⟨-, -, c3, -⟩, -⟩ := h1'
      have e1 : (1 : Int32) + nI k = nI (1 + k) := by rw [show (1 : Int32) = nI 1 from rfl, nI_add]
      refine ⟨k0, _, r15, wc rfl, cm_of (c := 1 + k) e1 k2 (by omega) (by omega) ⟨k0, wc rfl, cm_good h.t0 fun S' h3 hr3 => kI_i ?_⟩⟩
      have := hf' S'
      rw [if_neg (show ¬ nI k = 6 by rw [show (6 : Int32) = nI 6 from rfl, nIeq (by omega) (by omega)]; omega)] at this
      obtain ⟨c1, c2, c4, c5, c6, c7⟩ := c3.2 i hi
      have er : gI (uI S m 0 0) (m + 2) (6 * i + (1 + k)) = rowF (tr (vNow V) i) k := by
        rcases (show k = 0 ∨ k = 1 ∨ k = 2 ∨ k = 3 ∨ k = 4 ∨ k = 5 by omega) with e | e | e | e | e | e <;> subst e
        · exact c1
        · exact c2
        · exact c4
        · exact c5
        · exact c6
        · exact c7
      rw [er]
      exact this h3 (frT0 hr3)
  · have := hf S'
    rw [z, z1, aTrade, z, z1] at this
    exact this h2 (frT0 hr2)
set_option maxRecDepth 20000 in
theorem cm_booked {t : Int32} {f : Int32 → qS → Prop} (h : MAt A S m V) (hv : vOk V) (hf : ∀ S', MAt A S' m (qst (hasT (vNow V) t) V) → Fr S S' m (m + 27) → f (aBooked V t) S') : Run (d + 10) 206 [.ref m, .int t] A S (kI A f) := by
  refine Run.i (C := mX11_booked) rfl rfl rfl fun J hJ => ?_
  refine sX11_booked_0 hJ ⟨h.1.1.1, fun T e => ?_⟩
  subst e
  have hl := hv.2.1.1.2.2
  refine ⟨h.1.1.1, wc rfl, cm_isTrade h.t0 hv (q_neb (fun z => ?_) (fun z => ⟨h.1.1.1, wc rfl, cm_refused h.t0 fun S' h2 hr2 => kI_i ?_⟩))⟩
  · obtain ⟨i, hi, rfl⟩ := hasT_i (by omega) z
    have ei : pN (nI i) = i := cl_n (by omega)
    refine ⟨h.1.1.1, wc rfl, cm_works h.t0 hv fun S1 h1 hx1 hr1 => ⟨h.1.1.1, wc rfl, cm_ordersX h1 hx1 (by omega) fun S2 h2 o6 o7 hr2 => ?_⟩⟩
    have h2' := h2
    obtain ⟨⟨⟨k0, k1, k2, k3, k4, k5, k6, k7, k8, k9, k10, k11, k12, k13, k14, k15, k16, k17, k18, k19, k20, k21, k22, k23, k24, k25, k26⟩, ⟨r5, r15, r16, r17, r18, r21, r22, r23, r24, r25, r26, r27, r28, r29, r30, r31, r32, r33, r34, r35, r36, r37, r38, r39, r40, r48⟩⟩, -⟩ := h2'
    simp only [k0, k6, r21, cl_n (show i ≤ 100000 by omega), vp_n (show i < 36 by omega) (show 36 ≤ 100000 by omega), o6 i hi, Option.some.injEq, Prod.mk.injEq, exists_eq_left', exists_eq_left, true_and, and_true, and_self, true_or, or_true, forall_const, exists_const, exists_and_left, wcat, Nat.zero_le, Nat.reduceLeDiff, Int32.lt_irrefl, not_false_eq_true, Nat.zero_add, forall_eq]
    refine cm_good h2 fun S' h3 hr3 => kI_i ?_
    have := hf S'
    rw [z, aBooked, z, if_pos rfl, ei] at this
    exact this h3 (frT0 ((hr1.fr.trans hr2.fr).trans hr3))
  · have := hf S'
    rw [z, aBooked, z] at this
    exact this h2 (frT0 hr2)
end
