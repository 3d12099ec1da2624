/-! the reference's calls: small ones -/
def inB (v lo hi : Int32) : Bool := decide (¬ v < lo ∧ ¬ hi < v)
def papB (V : VSt) (p : Int32) : Bool := (vLed V).isSome && inB p 0 2
/-- behind a call that may be refused by 1 -/
def qst (c : Bool) (V : VSt) : VSt := setT V (if c then 0 else 1)
theorem inB_i {v : Int32} {n : Nat} {hi : Int32} (hn : n ≤ 100000) (eh : hi = nI n) (h : inB v 0 hi = true) : ∃ i, i ≤ n ∧ v = nI i := by
  have h := of_decide_eq_true h
  subst eh
  exact nI_of2 (M := nI n) (nI_toInt (by omega)) h.1 (Int32.not_lt.mp h.2)
theorem papB_i {V : VSt} {p : Int32} (h : papB V p = true) : ∃ i, i < 3 ∧ p = nI i ∧ ∃ td, vLed V = some td := by
  have h := Bool.and_eq_true_iff.mp h
  obtain ⟨i, hi, e⟩ := inB_i (n := 2) (by omega) rfl h.2
  exact ⟨i, by omega, e, Option.isSome_iff_exists.mp h.1⟩
theorem fr12 {S : qS} {m : Nat} {x y : Int32} : Fr S (uI (uI S m 1 x) m 2 y) m (m + 27) := (Fr.rf.uI (by omega) (by omega)).uI (by omega) (by omega)
/-- what now comes to -/
def bkV (V : VSt) (p : Nat) : PSt := aRes (lw (vLed V)) 999 (vNow V) p
theorem vT.b {T : List Row} (h : vT T) : vB T := ⟨h.1, h.2.1, by have := h.2.2; omega⟩
section
variable {d : Nat} {A : qA} {S : qS} {m : Nat} {V : VSt}
set_option maxRecDepth 20000 in
theorem cm_good {v : Int32} {f : Int32 → qS → Prop} (h : MAt A S m V) (hf : ∀ S', MAt A S' m (setT V 0) → Fr S S' m (m + 27) → f v S') : Run (d + 1) 140 [.ref m, .int v] A S (kI A f) := by
  refine Run.i (C := mX11_good) rfl rfl rfl fun J hJ => ?_
  refine sX11_good_0 hJ ?_
  simp only [h.1.1.1, Option.some.injEq, Prod.mk.injEq, exists_eq_left', exists_eq_left, true_and, and_true, and_self, true_or, or_true, forall_const, exists_const, exists_and_left, wcat, Nat.zero_le, Nat.reduceLeDiff, Int32.lt_irrefl, not_false_eq_true, Nat.zero_add, forall_eq]
  exact kI_i (hf _ h.set fr12)
set_option maxRecDepth 20000 in
theorem cm_refused {v : Int32} {f : Int32 → qS → Prop} (h : MAt A S m V) (hf : ∀ S', MAt A S' m (setT V v) → Fr S S' m (m + 27) → f (-1) S') : Run (d + 1) 138 [.ref m, .int v] A S (kI A f) := by
  refine Run.i (C := mX11_refused) rfl rfl rfl fun J hJ => ?_
  refine sX11_refused_0 hJ ?_
  simp only [h.1.1.1, Option.some.injEq, Prod.mk.injEq, exists_eq_left', exists_eq_left, true_and, and_true, and_self, true_or, or_true, forall_const, exists_const, exists_and_left, wcat, Nat.zero_le, Nat.reduceLeDiff, Int32.lt_irrefl, not_false_eq_true, Nat.zero_add, forall_eq]
  exact kI_i (hf _ h.set fr12)
set_option maxRecDepth 20000 in
theorem cm_denied {v : Int32} {f : Bool → qS → Prop} (h : MAt A S m V) (hf : ∀ S', MAt A S' m (setT V v) → Fr S S' m (m + 27) → f false S') : Run (d + 2) 139 [.ref m, .int v] A S (kZ A f) := by
  refine Run.i (C := mX11_denied) rfl rfl rfl fun J hJ => ?_
  refine sX11_denied_0 hJ ?_
  simp only [h.1.1.1, Option.some.injEq, Prod.mk.injEq, exists_eq_left', exists_eq_left, true_and, and_true, and_self, true_or, or_true, forall_const, exists_const, exists_and_left, wcat, Nat.zero_le, Nat.reduceLeDiff, Int32.lt_irrefl, not_false_eq_true, Nat.zero_add, forall_eq]
  exact cm_refused h fun S' h1 h2 => kZ_0 (hf S' h1 h2)
set_option maxRecDepth 20000 in
theorem cm_granted {f : Bool → qS → Prop} (h : MAt A S m V) (hf : ∀ S', MAt A S' m (setT V 0) → Fr S S' m (m + 27) → f true S') : Run (d + 2) 141 [.ref m] A S (kZ A f) := by
  refine Run.i (C := mX11_granted) rfl rfl rfl fun J hJ => ?_
  refine sX11_granted_0 hJ ?_
  simp only [h.1.1.1, Option.some.injEq, Prod.mk.injEq, exists_eq_left', exists_eq_left, true_and, and_true, and_self, true_or, or_true, forall_const, exists_const, exists_and_left, wcat, Nat.zero_le, Nat.reduceLeDiff, Int32.lt_irrefl, not_false_eq_true, Nat.zero_add, forall_eq]
  exact cm_good h fun S' h1 h2 => kZ_1 (hf S' h1 h2)
set_option maxRecDepth 20000 in
theorem cm_noneL {v : Int32} {f : Int64 → qS → Prop} (h : MAt A S m V) (hf : ∀ S', MAt A S' m (setT V v) → Fr S S' m (m + 27) → f 0 S') : Run (d + 2) 214 [.ref m, .int v] A S (kL A f) := by
  refine Run.i (C := mX11_none) rfl rfl rfl fun J hJ => ?_
  refine sX11_none_0 hJ ?_
  simp only [h.1.1.1, Option.some.injEq, Prod.mk.injEq, exists_eq_left', exists_eq_left, true_and, and_true, and_self, true_or, or_true, forall_const, exists_const, exists_and_left, wcat, Nat.zero_le, Nat.reduceLeDiff, Int32.lt_irrefl, not_false_eq_true, Nat.zero_add, forall_eq]
  exact cm_refused h fun S' h1 h2 => kL_i (hf S' h1 h2)
set_option maxRecDepth 20000 in
theorem cm_sum {v : Int64} {f : Int64 → qS → Prop} (h : MAt A S m V) (hf : ∀ S', MAt A S' m (setT V 0) → Fr S S' m (m + 27) → f v S') : Run (d + 2) 215 [.ref m, .long v] A S (kL A f) := by
  refine Run.i (C := mX11_sum) rfl rfl rfl fun J hJ => ?_
  refine sX11_sum_0 hJ ?_
  simp only [h.1.1.1, Option.some.injEq, Prod.mk.injEq, exists_eq_left', exists_eq_left, true_and, and_true, and_self, true_or, or_true, forall_const, exists_const, exists_and_left, wcat, Nat.zero_le, Nat.reduceLeDiff, Int32.lt_irrefl, not_false_eq_true, Nat.zero_add, forall_eq]
  exact cm_good h fun S' h1 h2 => kL_i (hf S' h1 h2)
set_option maxRecDepth 20000 in
theorem cm_in {v lo hi : Int32} {f : Bool → qS → Prop} (hf : f (inB v lo hi) S) : Run (d + 1) 142 [.int v, .int lo, .int hi] A S (kZ A f) := by
  refine Run.i (C := mX11_in) rfl rfl rfl fun J hJ => ?_
  refine sX11_in_0 hJ ⟨fun z => ⟨Or.inl rfl, kZ_0 ?_⟩, fun z => ⟨fun z1 => ⟨Or.inl rfl, kZ_0 ?_⟩, fun z1 => ⟨Or.inr rfl, kZ_1 ?_⟩⟩⟩
  · rwa [show inB v lo hi = false from decide_eq_false (fun w => w.1 z)] at hf
  · rwa [show inB v lo hi = false from decide_eq_false (fun w => w.2 z1)] at hf
  · rwa [show inB v lo hi = true from decide_eq_true ⟨z, z1⟩] at hf
theorem mLed_n {o : Option Tld} (h : mLed A S m o) (e : gR S m 3 = none) : o = none := by
  cases o with
  | none => rfl
  | some td =>
    obtain ⟨q, h1, -⟩ := h
    rw [e] at h1
    cases h1
theorem mLed_s {o : Option Tld} {q : Nat} (h : mLed A S m o) (e : gR S m 3 = some q) : ∃ td, o = some td ∧ m + 27 < q ∧ LgAt A S q td := by
  cases o with
  | none =>
    have h : gR S m 3 = none := h
    rw [e] at h
    cases h
  | some td =>
    obtain ⟨q', h1, h2, h3⟩ := h
    rw [e] at h1
    cases h1
    exact ⟨td, rfl, h2, h3⟩
set_option maxRecDepth 20000 in
theorem cm_isPaper {p : Int32} {f : Bool → qS → Prop} (h : MAt A S m V) (hf : f (papB V p) S) : Run (d + 2) 202 [.ref m, .int p] A S (kZ A f) := by
  refine Run.i (C := mX11_isPaper) rfl rfl rfl fun J hJ => ?_
  refine sX11_isPaper_0 hJ ⟨h.1.1.1, fun z => ⟨Or.inl rfl, kZ_0 ?_⟩, fun q z => ⟨by decide, cm_in ?_⟩⟩
  · rwa [papB, mLed_n h.2.2.2 z] at hf
  · obtain ⟨td, e, -⟩ := mLed_s h.2.2.2 z
    rw [papB, e] at hf
    refine q_eqb (fun y => ⟨Or.inl rfl, kZ_0 ?_⟩) (fun y => ⟨Or.inr rfl, kZ_1 ?_⟩)
    · rwa [y] at hf
    · rwa [y] at hf
set_option maxRecDepth 20000 in
theorem cm_isTrade {t : Int32} {f : Bool → qS → Prop} (h : MAt A S m V) (hv : vOk V) (hf : f (hasT (vNow V) t) S) : Run (d + 1) 203 [.ref m, .int t] A S (kZ A f) := by
  refine Run.i (C := mX11_isTrade) rfl rfl rfl fun J hJ => ?_
  obtain ⟨⟨⟨k0, k1, k2, k3, k4, k5, k6, k7, k8, k9, k10, k11, k12, k13, k14, k15, k16, k17, k18, k19, k20, k21, k22, k23, k24, k25, k26⟩, ⟨r5, r15, r16, r17, r18, r21, r22, r23, r24, r25, r26, r27, r28, r29, r30, r31, r32, r33, r34, r35, r36, r37, r38, r39, r40, r48⟩⟩, -, ⟨-, -, c3, -⟩, hL⟩ := h
  have cz : (0 : Int32).toNatClampNeg = 0 := rfl
  have v0 : vp_in 0 145 := vp_n (i := 0) (by omega) (by omega)
  refine sX11_isTrade_0 hJ ?_
  simp only [k0, k2, r15, cz, v0, c3.1, Option.some.injEq, Prod.mk.injEq, exists_eq_left', exists_eq_left, true_and, and_true, and_self, true_or, or_true, forall_const, exists_const, exists_and_left, wcat, Nat.zero_le, Nat.reduceLeDiff, Int32.lt_irrefl, not_false_eq_true, Nat.zero_add, forall_eq]
  refine ⟨fun z => kZ_0 ?_, fun q z => ⟨fun z1 => kZ_0 ?_, fun z1 => ⟨fun z2 => kZ_0 ?_, fun z2 => kZ_1 ?_⟩⟩⟩
  · rw [(hv.2.2.1 (mLed_n hL z)).1] at hf
    have e : hasT [] t = false := decide_eq_false (fun w => by
      rcases Int32.lt_or_le t 0 with y | y
      · exact w.1 y
      · exact w.2 y)
    rwa [e] at hf
  · rwa [show hasT (vNow V) t = false from decide_eq_false (fun w => w.1 z1)] at hf
  · rwa [show hasT (vNow V) t = false from decide_eq_false (fun w => w.2 z2)] at hf
  · rwa [show hasT (vNow V) t = true from decide_eq_true ⟨z1, z2⟩] at hf
set_option maxRecDepth 20000 in
theorem cm_isSell {t : Int32} {f : Bool → qS → Prop} (h : MAt A S m V) (hv : vOk V) (hf : f (isSellT (vNow V) t) S) : Run (d + 2) 204 [.ref m, .int t] A S (kZ A f) := by
  refine Run.i (C := mX11_isSell) rfl rfl rfl fun J hJ => ?_
  have hl := hv.2.1.1.2.2
  refine sX11_isSell_0 hJ ⟨h.1.1.1, by decide, cm_isTrade h hv ?_⟩
  refine q_eqb (fun z => ⟨Or.inl rfl, kZ_0 ?_⟩) (fun z => ?_)
  · rwa [show isSellT (vNow V) t = false by simp [isSellT, z]] at hf
  · obtain ⟨⟨⟨k0, k1, k2, k3, k4, k5, k6, k7, k8, k9, k10, k11, k12, k13, k14, k15, k16, k17, k18, k19, k20, k21, k22, k23, k24, k25, k26⟩, ⟨r5, r15, r16, r17, r18, r21, r22, r23, r24, r25, r26, r27, r28, r29, r30, r31, r32, r33, r34, r35, r36, r37, r38, r39, r40, r48⟩⟩, -, ⟨-, -, c3, -⟩, hL⟩ := h
    obtain ⟨i, hi, rfl⟩ := hasT_i (by omega) z
    simp only [k0, r15, Option.some.injEq, Prod.mk.injEq, exists_eq_left', exists_eq_left, true_and, and_true, and_self, true_or, or_true, forall_const, exists_const, exists_and_left, wcat, Nat.zero_le, Nat.reduceLeDiff, Int32.lt_irrefl, not_false_eq_true, Nat.zero_add, forall_eq]
    refine cm_of (c := 1) rfl k2 (by omega) (by omega) ?_
    rw [(c3.2 i hi).1]
    refine ⟨fun y => kZ_0 ?_, fun y => kZ_1 ?_⟩
    · rwa [show isSellT (vNow V) (nI i) = false by simp [isSellT, cl_n (show i ≤ 100000 by omega), y]] at hf
    · rwa [show isSellT (vNow V) (nI i) = true by simp [isSellT, z, cl_n (show i ≤ 100000 by omega), y]] at hf
theorem cp145.k {S' : qS} (h : cp145 S S' (m + 2) (m + 3)) : Fk S S' m := ⟨fun b k n => ⟨by rw [h.1, if_neg (fun z => n (by unfold scr; omega))], h.2.1 b k⟩, h.2.2⟩
theorem MH.cp {H : Nat → List Lot} {S' : qS} {a : Nat} (h : MH S m H) (hc : cp145 S S' a (m + 3)) : MH S' m H := by
  intro q hq
  obtain ⟨a1, a2, a3⟩ := h q hq
  refine ⟨by rw [hc.1, if_neg (by omega)]; exact a1, a2, fun i hi => rowE.lot ⟨fun b b1 b2 => by rw [hc.1, if_neg (by omega)], hc.2.1 _ _⟩ (a3 i hi)⟩
set_option maxRecDepth 20000 in
theorem cm_works {f : qS → Prop} (h : MAt A S m V) (hv : vOk V) (hf : ∀ S', MAt A S' m V → RwAt S' (m + 3) (vNow V) → Fk S S' m → f S') : Run (d + 2) 179 [.ref m] A S (kV A f) := by
  refine Run.i (C := mX11_works) rfl rfl rfl fun J hJ => ?_
  have h0 := h
  obtain ⟨⟨⟨k0, k1, k2, k3, k4, k5, k6, k7, k8, k9, k10, k11, k12, k13, k14, k15, k16, k17, k18, k19, k20, k21, k22, k23, k24, k25, k26⟩, ⟨r5, r15, r16, r17, r18, r21, r22, r23, r24, r25, r26, r27, r28, r29, r30, r31, r32, r33, r34, r35, r36, r37, r38, r39, r40, r48⟩⟩, ⟨H, hH⟩, ⟨-, -, c3, -⟩, hL⟩ := h
  refine sX11_works_0 hJ ?_
  simp only [k0, r15, r16, Option.some.injEq, Prod.mk.injEq, exists_eq_left', exists_eq_left, true_and, and_true, and_self, true_or, or_true, forall_const, exists_const, exists_and_left, wcat, Nat.zero_le, Nat.reduceLeDiff, Int32.lt_irrefl, not_false_eq_true, Nat.zero_add, forall_eq]
  refine cm_copies k2 k3 (by omega) (by omega) (by omega) (by omega) (by omega) fun S' hc => kV_i (hf S' (h0.fk hc.k (hH.cp hc)) ?_ hc.k)
  exact (RwO.same (o' := 0) c3.o hv.2.1.1.2.2 fun k hk => by rw [Nat.zero_add, hc.1, if_pos ⟨rfl, hk⟩]).at
set_option maxRecDepth 20000 in
theorem cm_booksNow {td : Tld} {f : qS → Prop} (h : MAt A S m V) (hv : vOk V) (hL : vLed V = some td) (hf : ∀ S', MAt A S' m V → BkM A S' m td.1 999 (vNow V) → Fk S S' m → f S') : Run (d + 9) 198 [.ref m] A S (kV A f) := by
  refine Run.i (C := mX11_booksNow) rfl rfl rfl fun J hJ => ?_
  refine sX11_booksNow_0 hJ ?_
  simp only [h.1.1.1, Option.some.injEq, Prod.mk.injEq, exists_eq_left', exists_eq_left, true_and, and_true, and_self, true_or, or_true, forall_const, exists_const, exists_and_left, wcat, Nat.zero_le, Nat.reduceLeDiff, Int32.lt_irrefl, not_false_eq_true, Nat.zero_add, forall_eq]
  refine cm_works h hv fun S1 h1 hx1 hr1 => ?_
  have h1' := h1
  obtain ⟨hI1, ⟨H, hH⟩, -, hL1⟩ := h1'
  rw [hL] at hL1
  obtain ⟨q, e3, hq, hk, hrf, hw, -⟩ := hL1
  simp only [e3, hk.1, hw, Option.some.injEq, Prod.mk.injEq, exists_eq_left', exists_eq_left, true_and, and_true, and_self, true_or, or_true, forall_const, exists_const, exists_and_left, wcat, Nat.zero_le, Nat.reduceLeDiff, Int32.lt_irrefl, not_false_eq_true, Nat.zero_add, forall_eq]
  refine cm_books hI1 hx1 hH hv.2.1.1.b fun S2 hB hx2 hr2 => kV_i ?_
  have hk2 : Fk S1 S2 m := hr2.k (by omega)
  exact hf S2 (h1.fk hk2 hB.2.1) hB (hr1.trans hk2)
end
