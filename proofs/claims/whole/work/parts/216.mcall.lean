/-! the reference's calls: gains, deferrals, lost, open; by other rules, windows, days -/
theorem nOpn_take {P : List Pie} {i : Nat} (h : i < P.length) : nOpn (P.take (i + 1)) = nOpn (P.take i) + opi (pp P i) := by
  rw [List.take_succ, nOpn_app, List.getElem?_eq_getElem h, Option.toList_some]
  have : pp P i = P[i] := by simp [pp, List.getElem?_eq_getElem h]
  rw [this, nOpn_cons, nOpn_nil, Nat.add_zero]
def rwR (r : Row) (v : Int32) : Row := (r.1, r.2.1, r.2.2.1, r.2.2.2.1, r.2.2.2.2.1, v)
def rwD (r : Row) (v : Int32) : Row := (r.1, r.2.1, v, r.2.2.2)
def rwP (r : Row) (v : Int32) : Row := (r.1, r.2.1, r.2.2.1, r.2.2.2.1, v, r.2.2.2.2.2)
theorem spl_set {T : List Row} {t : Nat} {x : Row} (ht : t < T.length) (hx : x.1 = (tr T t).1) : ∀ n, spl (T.set t x) n = spl T n
  | 0 => rfl
  | n + 1 => by
    have e : (tr (T.set t x) n).1 = (tr T n).1 := by
      rw [tr_set ht]
      split
      · rename_i z; rw [z]; exact hx
      · rfl
    rw [spl, spl, spl_set ht hx n, e]
theorem vT_set {T : List Row} {t : Nat} {x : Row} (h : vT T) (ht : t < T.length) (hx : x.1 = (tr T t).1) (hv : vRow x) : vT (T.set t x) := by
  refine ⟨fun i hi => ?_, ?_, by rw [List.length_set]; exact h.2.2⟩
  · rw [List.length_set] at hi
    rw [tr_set ht]
    split
    · exact hv
    · exact h.1 i hi
  · rw [List.length_set, spl_set ht hx]
    exact h.2.1
theorem vRow_rule {r : Row} {u : Nat} (h : vRow r) (hs : r.1 = 1) (hu : u ≤ 3) : vRow (rwR r (nI u)) := ⟨h.1, h.2.1, h.2.2.1, h.2.2.2.1, h.2.2.2.2.1, fun _ => ⟨u, hu, rfl⟩⟩
theorem vRow_day {r : Row} {u : Nat} (h : vRow r) (hu : u ≤ 999) : vRow (rwD r (nI u)) := ⟨h.1, h.2.1, ⟨u, hu, rfl⟩, h.2.2.2.1, h.2.2.2.2.1, h.2.2.2.2.2⟩
theorem vRow_price {r : Row} {u : Nat} (h : vRow r) (hs : ¬ r.1 = 2) (hu : u ≤ 999) : vRow (rwP r (nI u)) := ⟨h.1, h.2.1, h.2.2.1, fun z => absurd z hs, fun _ => ⟨(h.2.2.2.2.1 hs).1, u, hu, rfl⟩, h.2.2.2.2.2⟩
theorem RwAt.rule {S : qS} {a t : Nat} {T : List Row} {v : Int32} (h : RwAt S a T) (ht : t < T.length) : RwAt (uI S a (6 * t + 6) v) a (T.set t (rwR (tr T t) v)) := by
  refine ⟨by simp only [gI_uI, if_neg (show ¬ (a = a ∧ 0 = 6 * t + 6) by omega), List.length_set]; exact h.1, fun i hi => ?_⟩
  rw [List.length_set] at hi
  have := h.2 i hi
  rw [tr_set ht]
  simp only [gI_uI, true_and]
  rw [if_neg (show ¬ 6 * i + 1 = 6 * t + 6 by omega), if_neg (show ¬ 6 * i + 2 = 6 * t + 6 by omega), if_neg (show ¬ 6 * i + 3 = 6 * t + 6 by omega), if_neg (show ¬ 6 * i + 4 = 6 * t + 6 by omega), if_neg (show ¬ 6 * i + 5 = 6 * t + 6 by omega)]
  by_cases e : i = t
  · subst e; rw [if_pos rfl, if_pos rfl]; exact ⟨this.1, this.2.1, this.2.2.1, this.2.2.2.1, this.2.2.2.2.1, rfl⟩
  · rw [if_neg e, if_neg (by omega)]; exact this
theorem RwAt.day {S : qS} {a t : Nat} {T : List Row} {v : Int32} (h : RwAt S a T) (ht : t < T.length) : RwAt (uI S a (6 * t + 3) v) a (T.set t (rwD (tr T t) v)) := by
  refine ⟨by simp only [gI_uI, if_neg (show ¬ (a = a ∧ 0 = 6 * t + 3) by omega), List.length_set]; exact h.1, fun i hi => ?_⟩
  rw [List.length_set] at hi
  have := h.2 i hi
  rw [tr_set ht]
  simp only [gI_uI, true_and]
  rw [if_neg (show ¬ 6 * i + 1 = 6 * t + 3 by omega), if_neg (show ¬ 6 * i + 2 = 6 * t + 3 by omega), if_neg (show ¬ 6 * i + 4 = 6 * t + 3 by omega), if_neg (show ¬ 6 * i + 5 = 6 * t + 3 by omega), if_neg (show ¬ 6 * i + 6 = 6 * t + 3 by omega)]
  by_cases e : i = t
  · subst e; rw [if_pos rfl, if_pos rfl]; exact ⟨this.1, this.2.1, rfl, this.2.2.2.1, this.2.2.2.2.1, this.2.2.2.2.2⟩
  · rw [if_neg e, if_neg (by omega)]; exact this
theorem RwAt.price {S : qS} {a t : Nat} {T : List Row} {v : Int32} (h : RwAt S a T) (ht : t < T.length) : RwAt (uI S a (6 * t + 5) v) a (T.set t (rwP (tr T t) v)) := by
  refine ⟨by simp only [gI_uI, if_neg (show ¬ (a = a ∧ 0 = 6 * t + 5) by omega), List.length_set]; exact h.1, fun i hi => ?_⟩
  rw [List.length_set] at hi
  have := h.2 i hi
  rw [tr_set ht]
  simp only [gI_uI, true_and]
  rw [if_neg (show ¬ 6 * i + 1 = 6 * t + 5 by omega), if_neg (show ¬ 6 * i + 2 = 6 * t + 5 by omega), if_neg (show ¬ 6 * i + 3 = 6 * t + 5 by omega), if_neg (show ¬ 6 * i + 4 = 6 * t + 5 by omega), if_neg (show ¬ 6 * i + 6 = 6 * t + 5 by omega)]
  by_cases e : i = t
  · subst e; rw [if_pos rfl, if_pos rfl]; exact ⟨this.1, this.2.1, this.2.2.1, this.2.2.2.1, rfl, this.2.2.2.2.2⟩
  · rw [if_neg e, if_neg (by omega)]; exact this
def ruT (T : List Row) (t : Nat) (v : Int32) : List Row := T.set t (rwR (tr T t) v)
def dyT (T : List Row) (t : Nat) (v : Int32) : List Row := T.set t (rwD (tr T t) v)
def aByRule (V : VSt) (t r : Int32) : Int32 × Int64 := if isSellT (vNow V) t then (if inB r 0 3 then (if shortT (lw (vLed V)) 999 (ruT (vNow V) (pN t) r) then (5, 0) else (0, smA pGain (lw (vLed V)) 999 (ruT (vNow V) (pN t) r))) else (2, 0)) else (1, 0)
def aByWin (V : VSt) (w : Int32) : Int32 × Int64 := if (vLed V).isSome then (if inB w 0 60 then (if shortT w 999 (vNow V) then (5, 0) else (0, smA pGain w 999 (vNow V))) else (2, 0)) else (1, 0)
def aUntil (V : VSt) (y : Int32) : Int32 × Int64 := if (vLed V).isSome then (if inB y 0 999 then (0, smA pGain (lw (vLed V)) y (vNow V)) else (2, 0)) else (1, 0)
def aHeldAt (V : VSt) (p y : Int32) : Int32 := if papB V p && inB y 0 999 then shSum (aRes (lw (vLed V)) y (vNow V) (pN p)).1 (aRes (lw (vLed V)) y (vNow V) (pN p)).1.length else -1
section
variable {d : Nat} {A : qA} {S : qS} {m : Nat} {V : VSt}
theorem led_s {o : Option Tld} {td : Tld} (h : o = some td) : o.isSome = true := by rw [h]; rfl
theorem led_n {o : Option Tld} (h : o = none) : o.isSome = false := by rw [h]; rfl
set_option maxRecDepth 20000 in
theorem cm_booksX {w last : Int32} {T : List Row} {f : qS → Prop} (h : MAt A S m V) (hx : RwAt S (m + 3) T) (hT : vB T) (hf : ∀ S', MAt A S' m V → BkM A S' m w last T → Fk S S' m → f S') : Run (d + 8) 191 [.ref m, .int w, .int last] A S (kV A f) := by
  obtain ⟨H, hH⟩ := h.2.1
  exact cm_books h.1 hx hH hT fun S' hB _ hr => hf S' (h.fk (hr.k (by omega)) hB.2.1) hB (hr.k (by omega))
set_option maxRecDepth 20000 in
theorem cm_gains {f : Int64 → qS → Prop} (h : MAt A S m V) (hv : vOk V) (hf : ∀ S', MAt A S' m (qst (vLed V).isSome V) → Fr S S' m (m + 27) → f (aGains V) S') : Run (d + 10) 224 [.ref m] A S (kL A f) := by
  refine Run.i (C := mX11_gains) rfl rfl rfl fun J hJ => ?_
  refine sX11_gains_0 hJ ⟨h.1.1.1, fun T e => ?_⟩
  subst e
  refine ⟨h.1.1.1, fun z => ⟨h.1.1.1, wc rfl, cm_noneL h.t0 fun S' h2 hr2 => kL_i ?_⟩, fun q z => ?_⟩
  · have hn := led_n (mLed_n h.t0.2.2.2 z)
    have := hf S'
    rw [aGains, hn] at this
    exact this h2 (frT0 hr2)
  · obtain ⟨td, hL, -⟩ := mLed_s h.t0.2.2.2 z
    refine ⟨h.1.1.1, wc rfl, cm_booksNow h.t0 hv hL fun S2 h2 hB hr2 => ⟨h.1.1.1, wc rfl, cm_allGains (hB.v hL) ⟨h.1.1.1, wc rfl, cm_sum h2 fun S' h3 hr3 => kL_i ?_⟩⟩⟩
    have := hf S'
    rw [aGains, led_s hL] at this
    exact this h3 (frT0 (hr2.fr.trans hr3))
set_option maxRecDepth 20000 in
theorem cm_deferrals {f : Int64 → qS → Prop} (h : MAt A S m V) (hv : vOk V) (hf : ∀ S', MAt A S' m (qst (vLed V).isSome V) → Fr S S' m (m + 27) → f (aDefs V) S') : Run (d + 10) 225 [.ref m] A S (kL A f) := by
  refine Run.i (C := mX11_deferrals) rfl rfl rfl fun J hJ => ?_
  refine sX11_deferrals_0 hJ ⟨h.1.1.1, fun T e => ?_⟩
  subst e
  refine ⟨h.1.1.1, fun z => ⟨h.1.1.1, wc rfl, cm_refused h.t0 fun S' h2 hr2 => kL_i ?_⟩, fun q z => ?_⟩
  · have hn := led_n (mLed_n h.t0.2.2.2 z)
    have := hf S'
    rw [aDefs, hn] at this
    exact this h2 (frT0 hr2)
  · obtain ⟨td, hL, -⟩ := mLed_s h.t0.2.2.2 z
    refine ⟨h.1.1.1, wc rfl, cm_booksNow h.t0 hv hL fun S2 h2 hB hr2 => ?_⟩
    obtain ⟨⟨⟨k0, k1, k2, k3, k4, k5, k6, k7, k8, k9, k10, k11, k12, k13, k14, k15, k16, k17, k18, k19, k20, k21, k22, k23, k24, k25, k26⟩, ⟨r5, r15, r16, r17, r18, r21, r22, r23, r24, r25, r26, r27, r28, r29, r30, r31, r32, r33, r34, r35, r36, r37, r38, r39, r40, r48⟩⟩, -, ⟨p1, p2, p3⟩, -⟩ := hB.v hL
    rw [Nat.zero_add] at p1 p2
    generalize hP : allP (lw (vLed V)) 999 (vNow V) = P at p1 p2 p3
    have loop : ∀ n j (w2 : Option Value), j + n = P.length → J 27 [some (.ref m), some (.long (sumF (fun k => pMoved (pp P k)) 0 j)), w2, some (.int (nI j))] [] A S2 := by
      intro n
      induction n with
      | zero =>
        intro j w2 hn
        refine sX11_deferrals_27 hJ ?_
        simp only [k0, p1, nIle (show P.length ≤ 100000 by omega) (show j ≤ 100000 by omega), Option.some.injEq, Prod.mk.injEq, exists_eq_left', exists_eq_left, true_and, and_true, and_self, true_or, or_true, forall_const, exists_const, exists_and_left, wcat, Nat.zero_le, Nat.reduceLeDiff, Int32.lt_irrefl, not_false_eq_true, Nat.zero_add, forall_eq]
        refine ⟨fun _ => cm_sum h2 fun S' h3 hr3 => kL_i ?_, fun y => absurd (by omega) y⟩
        have := hf S'
        rw [aDefs, led_s hL, if_pos rfl, smA, hP, show P.length = j by omega] at this
        exact this h3 (frT0 (hr2.fr.trans hr3))
      | succ n ih =>
        intro j w2 hn
        refine sX11_deferrals_27 hJ ?_
        have hp := p3 j (by omega)
        rw [Nat.zero_add] at hp
        have y8 := hp.2.2.2.2.2.2.2.2
        simp only [k0, k25, r40, p1, nIle (show P.length ≤ 100000 by omega) (show j ≤ 100000 by omega), cl_n (show j ≤ 100000 by omega), vp_n (show j < 640 by omega) (show 640 ≤ 100000 by omega), y8, nI_1, Option.some.injEq, Prod.mk.injEq, exists_eq_left', exists_eq_left, true_and, and_true, and_self, true_or, or_true, forall_const, exists_const, exists_and_left, wcat, Nat.zero_le, Nat.reduceLeDiff, Int32.lt_irrefl, not_false_eq_true, Nat.zero_add, forall_eq]
        refine ⟨fun y => absurd y (by omega), fun _ => ?_⟩
        have := ih (j + 1) none (by omega)
        rw [sumF, Nat.zero_add] at this
        exact this
    exact loop P.length 0 _ (by omega)
set_option maxRecDepth 20000 in
theorem cm_lost {f : Int64 → qS → Prop} (h : MAt A S m V) (hv : vOk V) (hf : ∀ S', MAt A S' m (qst (vLed V).isSome V) → Fr S S' m (m + 27) → f (aLost V) S') : Run (d + 10) 226 [.ref m] A S (kL A f) := by
  refine Run.i (C := mX11_lost) rfl rfl rfl fun J hJ => ?_
  refine sX11_lost_0 hJ ⟨h.1.1.1, fun T e => ?_⟩
  subst e
  refine ⟨h.1.1.1, fun z => ⟨h.1.1.1, wc rfl, cm_refused h.t0 fun S' h2 hr2 => kL_i ?_⟩, fun q z => ?_⟩
  · have hn := led_n (mLed_n h.t0.2.2.2 z)
    have := hf S'
    rw [aLost, hn] at this
    exact this h2 (frT0 hr2)
  · obtain ⟨td, hL, -⟩ := mLed_s h.t0.2.2.2 z
    refine ⟨h.1.1.1, wc rfl, cm_booksNow h.t0 hv hL fun S2 h2 hB hr2 => ?_⟩
    rw [(hB.v hL).2.2.2.1]
    refine ⟨h.1.1.1, h.1.1.1, wc rfl, cm_sum h2 fun S' h3 hr3 => kL_i ?_⟩
    have := hf S'
    rw [aLost, led_s hL] at this
    exact this h3 (frT0 (hr2.fr.trans hr3))
set_option maxRecDepth 20000 in
theorem cm_open {f : Int32 → qS → Prop} (h : MAt A S m V) (hv : vOk V) (hf : ∀ S', MAt A S' m (qst (vLed V).isSome V) → Fr S S' m (m + 27) → f (aOpen V) S') : Run (d + 10) 227 [.ref m] A S (kI A f) := by
  refine Run.i (C := mX11_open) rfl rfl rfl fun J hJ => ?_
  refine sX11_open_0 hJ ⟨h.1.1.1, fun T e => ?_⟩
  subst e
  refine ⟨h.1.1.1, fun z => ⟨h.1.1.1, wc rfl, cm_refused h.t0 fun S' h2 hr2 => kI_i ?_⟩, fun q z => ?_⟩
  · have hn := led_n (mLed_n h.t0.2.2.2 z)
    have := hf S'
    rw [aOpen, hn] at this
    exact this h2 (frT0 hr2)
  · obtain ⟨td, hL, -⟩ := mLed_s h.t0.2.2.2 z
    refine ⟨h.1.1.1, wc rfl, cm_booksNow h.t0 hv hL fun S2 h2 hB hr2 => ?_⟩
    obtain ⟨⟨⟨k0, k1, k2, k3, k4, k5, k6, k7, k8, k9, k10, k11, k12, k13, k14, k15, k16, k17, k18, k19, k20, k21, k22, k23, k24, k25, k26⟩, ⟨r5, r15, r16, r17, r18, r21, r22, r23, r24, r25, r26, r27, r28, r29, r30, r31, r32, r33, r34, r35, r36, r37, r38, r39, r40, r48⟩⟩, -, ⟨p1, p2, p3⟩, -⟩ := hB.v hL
    rw [Nat.zero_add] at p1 p2
    generalize hP : allP (lw (vLed V)) 999 (vNow V) = P at p1 p2 p3
    have loop : ∀ n j, j + n = P.length → J 26 [some (.ref m), some (.int (nI (nOpn (P.take j)))), some (.int (nI j))] [] A S2 := by
      intro n
      induction n with
      | zero =>
        intro j hn
        refine sX11_open_26 hJ ?_
        simp only [k0, p1, nIle (show P.length ≤ 100000 by omega) (show j ≤ 100000 by omega), Option.some.injEq, Prod.mk.injEq, exists_eq_left', exists_eq_left, true_and, and_true, and_self, true_or, or_true, forall_const, exists_const, exists_and_left, wcat, Nat.zero_le, Nat.reduceLeDiff, Int32.lt_irrefl, not_false_eq_true, Nat.zero_add, forall_eq]
        refine ⟨fun _ => cm_good h2 fun S' h3 hr3 => kI_i ?_, fun y => absurd (by omega) y⟩
        have := hf S'
        rw [aOpen, led_s hL, if_pos rfl, hP] at this
        rw [show j = P.length by omega, List.take_length]
        exact this h3 (frT0 (hr2.fr.trans hr3))
      | succ n ih =>
        intro j hn
        refine sX11_open_26 hJ ?_
        have hp := p3 j (by omega)
        rw [Nat.zero_add] at hp
        have y6 : gI S2 (m + 21) j = pLeft (pp P j) := hp.2.2.2.2.2.2.1
        have := ih (j + 1) (by omega)
        rw [nOpn_take (by omega)] at this
        simp only [k0, k21, r36, p1, nIle (show P.length ≤ 100000 by omega) (show j ≤ 100000 by omega), cl_n (show j ≤ 100000 by omega), vp_n (show j < 640 by omega) (show 640 ≤ 100000 by omega), y6, nI_1, Int32.add_zero, Option.some.injEq, Prod.mk.injEq, exists_eq_left', exists_eq_left, true_and, and_true, and_self, true_or, or_true, forall_const, exists_const, exists_and_left, wcat, Nat.zero_le, Nat.reduceLeDiff, Int32.lt_irrefl, not_false_eq_true, Nat.zero_add, forall_eq]
        refine ⟨fun y => absurd y (by omega), fun _ => ⟨fun y => ?_, fun y => ?_⟩⟩
        · rw [opi_closed y, Nat.add_zero] at this; exact this
        · rw [opi_open y] at this; exact this
    exact loop P.length 0 (by omega)
set_option maxRecDepth 20000 in
theorem cm_byWindow {w : Int32} {f : Int64 → qS → Prop} (h : MAt A S m V) (hv : vOk V) (hf : ∀ S', MAt A S' m (setT V (aByWin V w).1) → Fr S S' m (m + 27) → f (aByWin V w).2 S') : Run (d + 10) 231 [.ref m, .int w] A S (kL A f) := by
  refine Run.i (C := mX11_byWindow) rfl rfl rfl fun J hJ => ?_
  refine sX11_byWindow_0 hJ ⟨h.1.1.1, fun T e => ?_⟩
  subst e
  refine ⟨h.1.1.1, fun z => ⟨h.1.1.1, wc rfl, cm_noneL h.t0 fun S' h2 hr2 => kL_i ?_⟩, fun q z => ⟨wc rfl, cm_in (q_neb (fun z1 => ?_) (fun z1 => ⟨h.1.1.1, wc rfl, cm_noneL h.t0 fun S' h2 hr2 => kL_i ?_⟩))⟩⟩
  · have := hf S'
    rw [aByWin, led_n (mLed_n h.t0.2.2.2 z)] at this
    exact this h2 (frT0 hr2)
  · obtain ⟨td, hL, -⟩ := mLed_s h.t0.2.2.2 z
    refine ⟨h.1.1.1, wc rfl, cm_works h.t0 hv fun S1 h1 hx1 hr1 => ⟨h.1.1.1, wc rfl, cm_booksX h1 hx1 hv.2.1.1.b fun S2 h2 hB hr2 => ?_⟩⟩
    rw [hB.2.2.2.2.1]
    have hf' := hf
    rw [aByWin, led_s hL, if_pos rfl, z1, if_pos rfl] at hf'
    refine ⟨h.1.1.1, q_eqb (fun y => ⟨h.1.1.1, wc rfl, cm_allGains hB ⟨h.1.1.1, wc rfl, cm_sum h2 fun S' h3 hr3 => kL_i ?_⟩⟩) (fun y => ⟨h.1.1.1, wc rfl, cm_noneL h2 fun S' h3 hr3 => kL_i ?_⟩)⟩
    · have := hf' S'
      rw [y] at this
      exact this h3 (frT0 ((hr1.fr.trans hr2.fr).trans hr3))
    · have := hf' S'
      rw [y] at this
      exact this h3 (frT0 ((hr1.fr.trans hr2.fr).trans hr3))
  · obtain ⟨td, hL, -⟩ := mLed_s h.t0.2.2.2 z
    have := hf S'
    rw [aByWin, led_s hL, z1] at this
    exact this h2 (frT0 hr2)
end
