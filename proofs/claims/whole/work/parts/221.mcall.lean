/-! the reference's calls: drawnGains, drawnHeld, size -/
def rdC (c : Bool) (s n : Int32) : Int32 := if c then (if inB s 0 65536 && inB n 0 12 then 0 else 2) else 1
def dwT (V : VSt) (s n : Int32) : List Row := vNow V ++ dwL (lastD (vNow V) (vNow V).length) (pN n) (pN s)
def aDrG (V : VSt) (s n : Int32) : Int64 := if rdC (vLed V).isSome s n = 0 then smA pGain (lw (vLed V)) 999 (dwT V s n) else 0
def aDrH (V : VSt) (p s n : Int32) : Int32 := if rdC (papB V p) s n = 0 then shSum (aRes (lw (vLed V)) 999 (dwT V s n) (pN p)).1 (aRes (lw (vLed V)) 999 (dwT V s n) (pN p)).1.length else -1
theorem rdC_le {c : Bool} {s n : Int32} : (rdC c s n ≤ 0) = (rdC c s n = 0) := by
  unfold rdC
  repeat' split
  all_goals decide
theorem rdC_0 {c : Bool} {s n : Int32} (h : rdC c s n = 0) : c = true ∧ ∃ sd k, sd < 65537 ∧ k ≤ 12 ∧ s = nI sd ∧ n = nI k := by
  unfold rdC at h
  cases c
  · have h : (1 : Int32) = 0 := h
    exact absurd h (by decide)
  · refine ⟨rfl, ?_⟩
    rw [if_pos rfl] at h
    cases hb : (inB s 0 65536 && inB n 0 12)
    · rw [hb] at h
      have h : (2 : Int32) = 0 := h
      exact absurd h (by decide)
    · have hb := Bool.and_eq_true_iff.mp hb
      obtain ⟨a, ha, ea⟩ := inB_i (n := 65536) (by omega) rfl hb.1
      obtain ⟨b, hb', eb⟩ := inB_i (n := 12) (by omega) rfl hb.2
      exact ⟨a, b, by omega, hb', ea, eb⟩
section
variable {d : Nat} {A : qA} {S : qS} {m : Nat} {V : VSt}
set_option maxRecDepth 20000 in
theorem cm_refusesDraw {c : Bool} {s n : Int32} {f : Int32 → qS → Prop} (hf : f (rdC c s n) S) : Run (d + 2) 250 [.ref m, .int (bI c), .int s, .int n] A S (kI A f) := by
  refine Run.i (C := mX11_refusesDraw) rfl rfl rfl fun J hJ => ?_
  refine sX11_refusesDraw_0 hJ (q_neb (fun z => ⟨wc rfl, cm_in (q_eqb (fun z1 => kI_i ?_) (fun z1 => ⟨wc rfl, cm_in (q_eqb (fun z2 => kI_i ?_) (fun z2 => kI_i ?_))⟩))⟩) (fun z => kI_i ?_))
  · rwa [rdC, z, z1] at hf
  · rwa [rdC, z, z1, z2] at hf
  · rwa [rdC, z, z1, z2] at hf
  · rwa [rdC, z] at hf
set_option maxRecDepth 20000 in
theorem cm_drawnGains {s n : Int32} {f : Int64 → qS → Prop} (h : MAt A S m V) (hv : vOk V) (hf : ∀ S', MAt A S' m (setT V (rdC (vLed V).isSome s n)) → Fr S S' m (m + 27) → f (aDrG V s n) S') : Run (d + 10) 251 [.ref m, .int s, .int n] A S (kL A f) := by
  refine Run.i (C := mX11_drawnGains) rfl rfl rfl fun J hJ => ?_
  refine sX11_drawnGains_0 hJ ⟨h.1.1.1, fun T e => ?_⟩
  subst e
  refine ⟨h.1.1.1, fun z => ⟨h.1.1.1, wc rfl, cm_refusesDraw (c := false) ⟨fun c => absurd c (by rw [rdC_le]; intro w; have := (rdC_0 w).1; cases this), fun _ => ⟨h.1.1.1, wc rfl, cm_noneL h.t0 fun S' h2 hr2 => kL_i ?_⟩⟩⟩, fun q z => ⟨h.1.1.1, wc rfl, cm_refusesDraw (c := true) ?_⟩⟩
  · have hn := led_n (mLed_n h.t0.2.2.2 z)
    have := hf S'
    rw [aDrG, hn, if_neg (fun w => by have := (rdC_0 w).1; cases this)] at this
    exact this h2 (frT0 hr2)
  · obtain ⟨td, hL, -⟩ := mLed_s h.t0.2.2.2 z
    have hf' := hf
    rw [aDrG, led_s hL] at hf'
    rw [rdC_le]
    refine ⟨fun y => ?_, fun y => ⟨h.1.1.1, wc rfl, cm_noneL h.t0 fun S' h2 hr2 => kL_i ?_⟩⟩
    · obtain ⟨-, sd, k, h1, h2, rfl, rfl⟩ := rdC_0 y
      rw [if_pos y] at hf'
      have e1 : pN (nI sd) = sd := cl_n (by omega)
      have e2 : pN (nI k) = k := cl_n (by omega)
      rw [dwT, e1, e2] at hf'
      refine ⟨h.1.1.1, wc rfl, cm_booksDrawn h.t0 hv hL h1 h2 fun S2 h2 hB hr2 => ⟨h.1.1.1, wc rfl, cm_allGains hB ⟨h.1.1.1, wc rfl, cm_sum h2 fun S' h3 hr3 => kL_i ?_⟩⟩⟩
      have := hf' S'
      rw [y] at this
      exact this h3 (frT0 (hr2.fr.trans hr3))
    · rw [if_neg y] at hf'
      exact hf' S' h2 (frT0 hr2)
set_option maxRecDepth 20000 in
theorem cm_drawnHeld {p s n : Int32} {f : Int32 → qS → Prop} (h : MAt A S m V) (hv : vOk V) (hf : ∀ S', MAt A S' m (setT V (rdC (papB V p) s n)) → Fr S S' m (m + 27) → f (aDrH V p s n) S') : Run (d + 10) 252 [.ref m, .int p, .int s, .int n] A S (kI A f) := by
  refine Run.i (C := mX11_drawnHeld) rfl rfl rfl fun J hJ => ?_
  refine sX11_drawnHeld_0 hJ ⟨h.1.1.1, fun T e => ?_⟩
  subst e
  refine ⟨h.1.1.1, wc rfl, cm_isPaper h.t0 ⟨h.1.1.1, wc rfl, cm_refusesDraw ?_⟩⟩
  rw [rdC_le]
  refine ⟨fun y => ?_, fun y => ⟨h.1.1.1, wc rfl, cm_refused h.t0 fun S' h2 hr2 => kI_i ?_⟩⟩
  · obtain ⟨hp, sd, k, h1, h2, rfl, rfl⟩ := rdC_0 y
    obtain ⟨i, hi, rfl, td, hL⟩ := papB_i hp
    have e0 : pN (nI i) = i := cl_n (by omega)
    have e1 : pN (nI sd) = sd := cl_n (by omega)
    have e2 : pN (nI k) = k := cl_n (by omega)
    have hf' := hf
    rw [aDrH, if_pos y, dwT, e0, e1, e2] at hf'
    refine ⟨h.1.1.1, wc rfl, cm_booksDrawn h.t0 hv hL h1 h2 fun S2 h2 hB hr2 => ⟨h.1.1.1, wc rfl, cm_sharesOf h2.1 hB.2.1 hi ⟨h.1.1.1, wc rfl, cm_good h2 fun S' h3 hr3 => kI_i ?_⟩⟩⟩
    have := hf' S'
    rw [y] at this
    exact this h3 (frT0 (hr2.fr.trans hr3))
  · have := hf S'
    rw [aDrH, if_neg y] at this
    exact this h2 (frT0 hr2)
set_option maxRecDepth 20000 in
set_option maxHeartbeats 1000000 in
theorem cm_size {w : Int32} {f : Int32 → qS → Prop} (h : MAt A S m V) (hv : vOk V) (hf : ∀ S', MAt A S' m V → Fr S S' m (m + 27) → f (aSize V w) S') : Run (d + 2) 266 [.ref m, .int w] A S (kI A f) := by
  refine Run.i (C := mX11_size) rfl rfl rfl fun J hJ => ?_
  have h0 := h.t0 (x := 0)
  have hf' := hf (uI S m 0 0) h0 (Fr.rf.uI (by omega) (by omega))
  obtain ⟨c1, c2, c3, c4, c5, c6, c7, c8, c9, c10⟩ := h0.2.2.1
  obtain ⟨⟨k0, k1, k2, k3, k4, k5, k6, k7, k8, k9, k10, k11, k12, k13, k14, k15, k16, k17, k18, k19, k20, k21, k22, k23, k24, k25, k26⟩, ⟨r5, r15, r16, r17, r18, r21, r22, r23, r24, r25, r26, r27, r28, r29, r30, r31, r32, r33, r34, r35, r36, r37, r38, r39, r40, r48⟩⟩ := h0.1
  have cz : (0 : Int32).toNatClampNeg = 0 := rfl
  have v0 : vp_in 0 145 := vp_n (i := 0) (by omega) (by omega)
  refine sX11_size_0 hJ ⟨h.1.1.1, fun T e => ?_⟩
  subst e
  refine ⟨fun y7 => ⟨wc rfl, cm_in (q_neb (fun z => ⟨k0, fun zn => kI_i ?_, fun q zs => ?_⟩) (fun z => kI_i ?_))⟩, fun y7 => ⟨k0, ?_⟩⟩
  · have hn := mLed_n h0.2.2.2 zn
    obtain ⟨a1, a2, a3⟩ := hv.2.2.1 hn
    rw [aSize, if_neg y7, z, if_pos rfl, hn, a1, a2, a3] at hf'
    simp only [lw, List.length_nil, show nI 0 = 0 from rfl, ite_self] at hf'
    exact hf'
  · obtain ⟨td, hL, hq, ⟨l0, l1, -⟩, ⟨t4, -⟩, w1, w2, w3, w4, -⟩ := mLed_s h0.2.2.2 zs
    rw [aSize, if_neg y7, z, if_pos rfl, lw_s hL, hL] at hf'
    simp only [k0, zs, l0, l1, t4, k2, r15, cz, v0, w1, w2, w3, w4.1, c3.1, c4, c6, Option.some.injEq, Prod.mk.injEq, exists_eq_left', exists_eq_left, true_and, and_true, and_self, true_or, or_true, forall_const, exists_const, exists_and_left, wcat, Nat.zero_le, Nat.reduceLeDiff, Int32.lt_irrefl, not_false_eq_true, Nat.zero_add, forall_eq]
    refine ⟨fun y => kI_i ?_, fun y => ⟨fun y1 => kI_i ?_, fun y1 => ⟨fun y2 => kI_i ?_, fun y2 => ⟨fun y3 => kI_i ?_, fun y3 => ⟨fun y4 => kI_i ?_, fun y4 => ⟨fun y5 => kI_i ?_, fun y5 => kI_i ?_⟩⟩⟩⟩⟩⟩
    · rwa [if_pos y] at hf'
    · rwa [if_neg y, if_pos y1] at hf'
    · rwa [if_neg y, if_neg y1, if_pos y2] at hf'
    · rwa [if_neg y, if_neg y1, if_neg y2, if_pos y3] at hf'
    · rwa [if_neg y, if_neg y1, if_neg y2, if_neg y3, if_pos y4] at hf'
    · rwa [if_neg y, if_neg y1, if_neg y2, if_neg y3, if_neg y4, if_pos y5] at hf'
    · rwa [if_neg y, if_neg y1, if_neg y2, if_neg y3, if_neg y4, if_neg y5] at hf'
  · rw [aSize, if_neg y7, z] at hf'
    exact hf'
  · rw [aSize, if_pos y7] at hf'
    rw [c2]
    exact kI_i hf'
end
