/-! the reference's calls: buy, sell, split, rule -/
theorem spl_app {T : List Row} {x : Row} : ∀ n, n ≤ T.length → spl (T ++ [x]) n = spl T n
  | 0, _ => rfl
  | n + 1, h => by rw [spl, spl, spl_app n (by omega), tr_app (by omega)]
theorem vT_add {T : List Row} {x : Row} (h : vT T) (hx : vRow x) (hl : T.length < 24) (hs : x.1 = 2 → spl T T.length < 4) : vT (T ++ [x]) := by
  refine ⟨fun i hi => ?_, ?_, by rw [List.length_append, List.length_singleton]; omega⟩
  · rw [List.length_append, List.length_singleton] at hi
    by_cases e : i = T.length
    · rw [e, tr_end]; exact hx
    · rw [tr_app (by omega)]; exact h.1 i (by omega)
  · rw [List.length_append, List.length_singleton, spl, spl_app _ (Nat.le_refl _), tr_end]
    have := h.2.1
    split
    · rename_i z; have := hs z; omega
    · omega
theorem inB_i1 {v : Int32} {n : Nat} {hi : Int32} (hn : n ≤ 100000) (eh : hi = nI n) (h : inB v 1 hi = true) : ∃ i, 1 ≤ i ∧ i ≤ n ∧ v = nI i := by
  have h := of_decide_eq_true h
  subst eh
  have h0 : ¬ v < 0 := fun z => h.1 (Int32.lt_trans z (by decide))
  obtain ⟨i, hi, e⟩ := nI_of2 (M := nI n) (nI_toInt (by omega)) h0 (Int32.not_lt.mp h.2)
  refine ⟨i, ?_, hi, e⟩
  rcases Nat.eq_zero_or_pos i with z | z
  · rw [z] at e; exact absurd (by rw [e]; decide) h.1
  · exact z
def dealB (y sh pr : Int32) : Bool := inB y 0 999 && inB sh 1 999 && inB pr 0 999
/-- why a trade can't be told -/
def rtC (V : VSt) (p : Int32) (num : Bool) : Int32 := if papB V p then (if num then (if (vNow V).length = 24 then 3 else 0) else 2) else 1
def uTell (V : VSt) (x : Row) : VSt × Int32 := if shortT (lw (vLed V)) 999 (vNow V ++ [x]) then (setT V 5, -1) else (setT (upV V (vNow V ++ [x]) (pastN V) (vImg V)) 0, nI (vNow V).length)
def uBuy (V : VSt) (p y sh pr : Int32) : VSt × Int32 := if rtC V p (dealB y sh pr) = 0 then uTell V (0, p, y, sh, pr, -2) else (setT V (rtC V p (dealB y sh pr)), -1)
def uSell (V : VSt) (p y sh pr ru : Int32) : VSt × Int32 := if inB ru 0 3 then (if rtC V p (dealB y sh pr) = 0 then uTell V (1, p, y, sh, pr, ru) else (setT V (rtC V p (dealB y sh pr)), -1)) else (setT V 1, -1)
def numB (y a b : Int32) : Bool := inB y 0 999 && inB a 1 9 && inB b 1 9
def uSplit (V : VSt) (p y a b : Int32) : VSt × Int32 := if rtC V p (numB y a b) = 0 then (if spl (vNow V) (vNow V).length = 4 then (setT V 3, -1) else uTell V (2, p, y, a, b, -2)) else (setT V (rtC V p (numB y a b)), -1)
def uRule (V : VSt) (t r : Int32) : VSt × Int32 := if isSellT (vNow V) t && inB r 0 3 then (if shortT (lw (vLed V)) 999 (ruT (vNow V) (pN t) r) then (setT V 5, -1) else (setT (upV V (ruT (vNow V) (pN t) r) (pastN V) (vImg V)) 0, (tr (vNow V) (pN t)).2.2.2.2.2)) else (setT V 1, -1)
theorem rtC_0 {V : VSt} {p : Int32} {num : Bool} (h : rtC V p num = 0) : papB V p = true ∧ num = true ∧ ¬ (vNow V).length = 24 := by
  unfold rtC at h
  cases hp : papB V p
  · rw [hp] at h
    have h : (1 : Int32) = 0 := h
    exact absurd h (by decide)
  · rw [hp] at h
    cases hn : num
    · rw [hn] at h
      have h : (2 : Int32) = 0 := h
      exact absurd h (by decide)
    · rw [hn] at h
      refine ⟨rfl, rfl, fun z => ?_⟩
      rw [if_pos rfl, if_pos rfl, if_pos z] at h
      exact absurd h (by decide)
theorem rtC_le {V : VSt} {p : Int32} {num : Bool} : (rtC V p num ≤ 0) = (rtC V p num = 0) := by
  unfold rtC
  repeat' split
  all_goals decide
section
variable {d : Nat} {A : qA} {S : qS} {m : Nat} {V : VSt}
set_option maxRecDepth 20000 in
theorem cm_isDeal {y sh pr : Int32} {f : Bool → qS → Prop} (hf : f (dealB y sh pr) S) : Run (d + 2) 255 [.int y, .int sh, .int pr] A S (kZ A f) := by
  refine Run.i (C := mX11_isDeal) rfl rfl rfl fun J hJ => ?_
  refine sX11_isDeal_0 hJ ⟨wc rfl, cm_in (q_eqb (fun z => ⟨Or.inl rfl, kZ_0 ?_⟩) (fun z => ⟨wc rfl, cm_in (q_eqb (fun z1 => ⟨Or.inl rfl, kZ_0 ?_⟩) (fun z1 => ⟨wc rfl, cm_in (q_eqb (fun z2 => ⟨Or.inl rfl, kZ_0 ?_⟩) (fun z2 => ⟨Or.inr rfl, kZ_1 ?_⟩))⟩))⟩))⟩
  · rwa [dealB, z] at hf
  · rwa [dealB, z, z1] at hf
  · rwa [dealB, z, z1, z2] at hf
  · rwa [dealB, z, z1, z2] at hf
set_option maxRecDepth 20000 in
theorem cm_refusesTrade {p ru : Int32} {num : Bool} {f : Int32 → qS → Prop} (h : MAt A S m V) (hv : vOk V) (hr : inB ru (-2) 3 = true) (hr1 : ¬ ru = -1) (hf : f (rtC V p num) S) : Run (d + 3) 254 [.ref m, .int p, .int ru, .int (bI num)] A S (kI A f) := by
  refine Run.i (C := mX11_refusesTrade) rfl rfl rfl fun J hJ => ?_
  have hl := hv.2.1.1.2.2
  refine sX11_refusesTrade_0 hJ ⟨h.1.1.1, wc rfl, cm_isPaper h (q_eqb (fun z => kI_i ?_) (fun z => ⟨wc rfl, cm_in ?_⟩))⟩
  · rwa [rtC, z] at hf
  · rw [hr]
    refine q_eqb (fun z1 => by cases z1) (fun _ => ⟨fun _ => q_neb (fun z1 => ?_) (fun z1 => kI_i ?_), fun c => absurd c hr1⟩)
    · obtain ⟨⟨k0, k1, k2, k3, k4, k5, k6, k7, k8, k9, k10, k11, k12, k13, k14, k15, k16, k17, k18, k19, k20, k21, k22, k23, k24, k25, k26⟩, ⟨r5, r15, r16, r17, r18, r21, r22, r23, r24, r25, r26, r27, r28, r29, r30, r31, r32, r33, r34, r35, r36, r37, r38, r39, r40, r48⟩⟩ := h.1
      have c3 := h.2.2.1.2.2.1.1
      have cz : (0 : Int32).toNatClampNeg = 0 := rfl
      have v0 : vp_in 0 145 := vp_n (i := 0) (by omega) (by omega)
      have e24 : (nI (vNow V).length = 24) = ((vNow V).length = 24) := by rw [show (24 : Int32) = nI 24 from rfl, nIeq (by omega) (by omega)]
      simp only [k0, k2, r15, cz, v0, c3, e24, Option.some.injEq, Prod.mk.injEq, exists_eq_left', exists_eq_left, true_and, and_true, and_self, true_or, or_true, forall_const, exists_const, exists_and_left, wcat, Nat.zero_le, Nat.reduceLeDiff, Int32.lt_irrefl, not_false_eq_true, Nat.zero_add, forall_eq]
      rw [rtC, z, if_pos rfl, z1, if_pos rfl] at hf
      refine ⟨fun y => kI_i ?_, fun y => kI_i ?_⟩
      · rwa [if_neg y] at hf
      · rwa [if_pos y] at hf
    · rwa [rtC, z, z1] at hf
theorem Fk.x3 {S' : qS} (g1 : ∀ b k, ¬ b = m + 3 → gI S' b k = gI S b k) (g2 : ∀ b k, gL S' b k = gL S b k) (g3 : ∀ b k, gR S' b k = gR S b k) : Fk S S' m := ⟨fun b k n => ⟨g1 b k (fun z => n (by unfold scr; omega)), g2 b k⟩, g3⟩
theorem MH.x3 {S' : qS} {H : Nat → List Lot} (h : MH S m H) (g1 : ∀ b k, ¬ b = m + 3 → gI S' b k = gI S b k) (g2 : ∀ b k, gL S' b k = gL S b k) : MH S' m H := by
  intro q hq
  obtain ⟨a1, a2, a3⟩ := h q hq
  exact ⟨(g1 _ _ (by omega)).trans a1, a2, fun i hi => rowE.lot ⟨fun b b1 b2 => g1 _ _ (by omega), g2 _ _⟩ (a3 i hi)⟩
set_option maxRecDepth 20000 in
theorem cm_tells {s p y sh pr ru : Int32} {td : Tld} {f : Int32 → qS → Prop} (h : MAt A S m V) (hv : vOk V) (hL : vLed V = some td) (hT : vT (vNow V ++ [(s, p, y, sh, pr, ru)])) (hf : ∀ S', MAt A S' m (uTell V (s, p, y, sh, pr, ru)).1 → Fr S S' m (m + 27) → f (uTell V (s, p, y, sh, pr, ru)).2 S') : Run (d + 10) 256 [.ref m, .int s, .int p, .int y, .int sh, .int pr, .int ru] A S (kI A f) := by
  refine Run.i (C := mX11_tells) rfl rfl rfl fun J hJ => ?_
  have hl := hT.2.2
  rw [List.length_append, List.length_singleton] at hl
  refine sX11_tells_0 hJ ⟨h.1.1.1, wc rfl, cm_works h hv fun S1 h1 hx1 hr1 => ?_⟩
  obtain ⟨⟨k0, k1, k2, k3, k4, k5, k6, k7, k8, k9, k10, k11, k12, k13, k14, k15, k16, k17, k18, k19, k20, k21, k22, k23, k24, k25, k26⟩, ⟨r5, r15, r16, r17, r18, r21, r22, r23, r24, r25, r26, r27, r28, r29, r30, r31, r32, r33, r34, r35, r36, r37, r38, r39, r40, r48⟩⟩ := h1.1
  obtain ⟨H, hH⟩ := h1.2.1
  refine ⟨k0, _, r16, wc rfl, cm_adds k3 (by omega) hx1 (by omega) fun S2 hx2 g1 g2 g3 => ?_⟩
  have hk2 : Fk S1 S2 m := Fk.x3 g1 g2 g3
  have h2 : MAt A S2 m V := h1.fk hk2 (hH.x3 g1 g2)
  refine ⟨k0, wc rfl, cm_takes h2 hv hL hx2 hT (fun z S3 h3 hr3 => ?_) (fun z S3 h3 hr3 => ?_)⟩
  · refine ⟨fun _ => ⟨k0, wc rfl, cm_refused h3 fun S' h4 hr4 => kI_i ?_⟩, fun c => absurd rfl c⟩
    have := hf S'
    rw [uTell, z] at this
    exact this h4 (((hr1.fr.trans hk2.fr).trans hr3).trans hr4)
  · refine ⟨fun c => absurd c (by decide), fun _ => ?_⟩
    obtain ⟨-, ⟨r5, r15, r16, r17, r18, r21, r22, r23, r24, r25, r26, r27, r28, r29, r30, r31, r32, r33, r34, r35, r36, r37, r38, r39, r40, r48⟩⟩ := h3.1
    have c3 := h3.2.2.1.2.2.1.1
    have c3' : gI S3 (m + 2) 0 = nI ((vNow V).length + 1) := by
      rw [c3]
      show nI (vNow V ++ [(s, p, y, sh, pr, ru)]).length = _
      rw [List.length_append, List.length_singleton]
    have cz : (0 : Int32).toNatClampNeg = 0 := rfl
    have v0 : vp_in 0 145 := vp_n (i := 0) (by omega) (by omega)
    simp only [k0, k2, r15, cz, v0, c3', nI_pred, Option.some.injEq, Prod.mk.injEq, exists_eq_left', exists_eq_left, true_and, and_true, and_self, true_or, or_true, forall_const, exists_const, exists_and_left, wcat, Nat.zero_le, Nat.reduceLeDiff, Int32.lt_irrefl, not_false_eq_true, Nat.zero_add, forall_eq]
    refine cm_good h3 fun S' h4 hr4 => kI_i ?_
    have := hf S'
    rw [uTell, z] at this
    exact this h4 (((hr1.fr.trans hk2.fr).trans hr3).trans hr4)
theorem deal_row {V : VSt} {p y sh pr : Int32} {s ru : Int32} (hp : papB V p = true) (hd : dealB y sh pr = true) (hs : s = 0 ∧ ru = -2 ∨ s = 1 ∧ inB ru 0 3 = true) : vRow (s, p, y, sh, pr, ru) ∧ ¬ s = 2 := by
  obtain ⟨i, hi, rfl, -⟩ := papB_i hp
  have h1 := Bool.and_eq_true_iff.mp hd
  have h2 := Bool.and_eq_true_iff.mp h1.1
  obtain ⟨y', hy, rfl⟩ := inB_i (n := 999) (by omega) rfl h2.1
  obtain ⟨s', hs1, hs2, rfl⟩ := inB_i1 (n := 999) (by omega) rfl h2.2
  obtain ⟨p', hp', rfl⟩ := inB_i (n := 999) (by omega) rfl h1.2
  have ns : ¬ s = 2 := by rcases hs with e | e <;> rw [e.1] <;> decide
  refine ⟨⟨?_, ⟨i, hi, rfl⟩, ⟨y', hy, rfl⟩, fun z => absurd z ns, fun _ => ⟨⟨s', hs1, hs2, rfl⟩, p', hp', rfl⟩, fun z => ?_⟩, ns⟩
  · rcases hs with e | e
    · exact Or.inl e.1
    · exact Or.inr (Or.inl e.1)
  · rcases hs with e | e
    · have z : s = 1 := z; rw [e.1] at z; exact absurd z (by decide)
    · obtain ⟨u, hu, rfl⟩ := inB_i (n := 3) (by omega) rfl e.2
      exact ⟨u, hu, rfl⟩
set_option maxRecDepth 20000 in
theorem cm_buy {p y sh pr : Int32} {f : Int32 → qS → Prop} (h : MAt A S m V) (hv : vOk V) (hf : ∀ S', MAt A S' m (uBuy V p y sh pr).1 → Fr S S' m (m + 27) → f (uBuy V p y sh pr).2 S') : Run (d + 11) 257 [.ref m, .int p, .int y, .int sh, .int pr] A S (kI A f) := by
  refine Run.i (C := mX11_buy) rfl rfl rfl fun J hJ => ?_
  refine sX11_buy_0 hJ ⟨h.1.1.1, fun T e => ?_⟩
  subst e
  have hl := hv.2.1.1.2.2
  refine ⟨wc rfl, cm_isDeal ⟨h.1.1.1, wc rfl, cm_refusesTrade h.t0 hv (by decide) (by decide) ?_⟩⟩
  rw [rtC_le]
  refine ⟨fun z => ?_, fun z => ⟨h.1.1.1, wc rfl, cm_refused h.t0 fun S' h2 hr2 => kI_i ?_⟩⟩
  · obtain ⟨z1, z2, z3⟩ := rtC_0 z
    obtain ⟨i, hi, rfl, td, hL⟩ := papB_i z1
    obtain ⟨hrw, hns⟩ := deal_row z1 z2 (s := 0) (ru := -2) (Or.inl ⟨rfl, rfl⟩)
    refine ⟨h.1.1.1, wc rfl, cm_tells h.t0 hv hL (vT_add hv.2.1.1 hrw (by omega) (fun z => absurd z hns)) fun S' h2 hr2 => kI_i ?_⟩
    have := hf S'
    rw [uBuy, if_pos z] at this
    exact this h2 (frT0 hr2)
  · have := hf S'
    rw [uBuy, if_neg z] at this
    exact this h2 (frT0 hr2)
set_option maxRecDepth 20000 in
theorem cm_sell {p y sh pr ru : Int32} {f : Int32 → qS → Prop} (h : MAt A S m V) (hv : vOk V) (hf : ∀ S', MAt A S' m (uSell V p y sh pr ru).1 → Fr S S' m (m + 27) → f (uSell V p y sh pr ru).2 S') : Run (d + 11) 258 [.ref m, .int p, .int y, .int sh, .int pr, .int ru] A S (kI A f) := by
  refine Run.i (C := mX11_sell) rfl rfl rfl fun J hJ => ?_
  refine sX11_sell_0 hJ ⟨h.1.1.1, fun T e => ?_⟩
  subst e
  have hl := hv.2.1.1.2.2
  refine ⟨wc rfl, cm_in (q_eqb (fun z0 => ⟨fun c => absurd c (by decide), fun _ => ⟨h.1.1.1, wc rfl, cm_refused h.t0 fun S' h2 hr2 => kI_i ?_⟩⟩) (fun z0 => ⟨wc rfl, cm_isDeal ⟨h.1.1.1, wc rfl, cm_refusesTrade h.t0 hv ?_ ?_ ?_⟩⟩))⟩
  · have := hf S'
    rw [uSell, z0] at this
    exact this h2 (frT0 hr2)
  · obtain ⟨u, hu, rfl⟩ := inB_i (n := 3) (by omega) rfl z0
    rcases (show u = 0 ∨ u = 1 ∨ u = 2 ∨ u = 3 by omega) with e | e | e | e <;> subst e <;> decide
  · obtain ⟨u, hu, rfl⟩ := inB_i (n := 3) (by omega) rfl z0
    exact nI_nm1 (by omega)
  · have hf' := hf
    rw [uSell, z0, if_pos rfl] at hf'
    rw [rtC_le]
    refine ⟨fun z => ?_, fun z => ⟨h.1.1.1, wc rfl, cm_refused h.t0 fun S' h2 hr2 => kI_i ?_⟩⟩
    · obtain ⟨z1, z2, z3⟩ := rtC_0 z
      obtain ⟨i, hi, rfl, td, hL⟩ := papB_i z1
      obtain ⟨hrw, hns⟩ := deal_row z1 z2 (s := 1) (ru := ru) (Or.inr ⟨rfl, z0⟩)
      refine ⟨h.1.1.1, wc rfl, cm_tells h.t0 hv hL (vT_add hv.2.1.1 hrw (by omega) (fun z => absurd z hns)) fun S' h2 hr2 => kI_i ?_⟩
      have := hf' S'
      rw [if_pos z] at this
      exact this h2 (frT0 hr2)
    · have := hf' S'
      rw [if_neg z] at this
      exact this h2 (frT0 hr2)
set_option maxRecDepth 20000 in
theorem cm_rule {t r : Int32} {f : Int32 → qS → Prop} (h : MAt A S m V) (hv : vOk V) (hf : ∀ S', MAt A S' m (uRule V t r).1 → Fr S S' m (m + 27) → f (uRule V t r).2 S') : Run (d + 10) 261 [.ref m, .int t, .int r] A S (kI A f) := by
  refine Run.i (C := mX11_rule) rfl rfl rfl fun J hJ => ?_
  refine sX11_rule_0 hJ ⟨h.1.1.1, fun T e => ?_⟩
  subst e
  have hl := hv.2.1.1.2.2
  refine ⟨h.1.1.1, wc rfl, cm_isSell h.t0 hv (q_eqb (fun z => ⟨h.1.1.1, wc rfl, cm_refused h.t0 fun S' h2 hr2 => kI_i ?_⟩) (fun z => ⟨wc rfl, cm_in (q_neb (fun z1 => ?_) (fun z1 => ⟨h.1.1.1, wc rfl, cm_refused h.t0 fun S' h2 hr2 => kI_i ?_⟩))⟩))⟩
  · have := hf S'
    rw [uRule, z] at this
    exact this h2 (frT0 hr2)
  · obtain ⟨i, td, hi, rfl, hL⟩ := sell_led hv z
    obtain ⟨u, hu, rfl⟩ := inB_i (n := 3) (by omega) rfl z1
    have ei : pN (nI i) = i := cl_n (by omega)
    have hf' := hf
    rw [uRule, z, z1, Bool.and_self, if_pos rfl, ei] at hf'
    have h0 := h.t0 (x := 0)
    obtain ⟨⟨k0, k1, k2, k3, k4, k5, k6, k7, k8, k9, k10, k11, k12, k13, k14, k15, k16, k17, k18, k19, k20, k21, k22, k23, k24, k25, k26⟩, ⟨r5, r15, r16, r17, r18, r21, r22, r23, r24, r25, r26, r27, r28, r29, r30, r31, r32, r33, r34, r35, r36, r37, r38, r39, r40, r48⟩⟩ := h0.1
    have c6 := (h0.2.2.1.2.2.1.2 i hi).2.2.2.2.2
    refine ⟨k0, _, r15, wc rfl, cm_of (c := 6) rfl k2 (by omega) (by omega) ⟨k0, wc rfl, cm_works h0 hv fun S1 h1 hx1 hr1 => ?_⟩⟩
    obtain ⟨-, ⟨r5, r15, r16, r17, r18, r21, r22, r23, r24, r25, r26, r27, r28, r29, r30, r31, r32, r33, r34, r35, r36, r37, r38, r39, r40, r48⟩⟩ := h1.1
    obtain ⟨H, hH⟩ := h1.2.1
    have e : (6 : Int32) * nI i + 6 = nI (6 * i + 6) := by rw [show (6 : Int32) = nI 6 from rfl, nI_mul, nI_add]
    simp only [k0, k3, r16, e, cl_n (show 6 * i + 6 ≤ 100000 by omega), vp_n (show 6 * i + 6 < 217 by omega) (show 217 ≤ 100000 by omega), Option.some.injEq, Prod.mk.injEq, exists_eq_left', exists_eq_left, true_and, and_true, and_self, true_or, or_true, forall_const, exists_const, exists_and_left, wcat, Nat.zero_le, Nat.reduceLeDiff, Int32.lt_irrefl, not_false_eq_true, Nat.zero_add, forall_eq]
    have hr2 : Fk S1 (uI S1 (m + 3) (6 * i + 6) (nI u)) m := Fk.rf.uI (by unfold scr; omega)
    have hH2 : MH (uI S1 (m + 3) (6 * i + 6) (nI u)) m H := hH.fm (lo := 3) (hi := 4) (u := 41) (v := 41) (Fm.rf.uI (by omega)) (by omega)
    refine cm_takes (h1.fk hr2 hH2) hv hL (hx1.rule hi) (vT_ru hv.2.1.1 hi (sell_1 (by omega) z) hu) (fun z2 S3 h3 hr3 => ?_) (fun z2 S3 h3 hr3 => ?_)
    · refine ⟨fun _ => cm_refused h3 fun S' h4 hr4 => kI_i ?_, fun c => absurd rfl c⟩
      have := hf' S'
      rw [show shortT (lw (vLed V)) 999 (ruT (vNow V) i (nI u)) = true from z2] at this
      exact this h4 (frT0 (((hr1.trans hr2).fr.trans hr3).trans hr4))
    · refine ⟨fun c => absurd c (by decide), fun _ => cm_good h3 fun S' h4 hr4 => kI_i ?_⟩
      have := hf' S'
      rw [show shortT (lw (vLed V)) 999 (ruT (vNow V) i (nI u)) = false from z2] at this
      rw [c6]
      exact this h4 (frT0 (((hr1.trans hr2).fr.trans hr3).trans hr4))
  · have := hf S'
    rw [uRule, z, z1] at this
    exact this h2 (frT0 hr2)
end
