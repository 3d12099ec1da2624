/-! the class's drawnGains, drawnHeld -/
section
variable {d : Nat} {A : qA} {S S' : qS} {x : Nat} {V : VSt} {tA tB nA nB bA bB : Nat} {π : Nat → Nat}
theorem rdC_t {s n : Int32} (h1 : inB s 0 65536 = true) (h2 : inB n 0 12 = true) : rdC true s n = 0 := by unfold rdC; rw [h1, h2]; rfl
theorem rdC_1 {s n : Int32} (h1 : inB s 0 65536 = false) : rdC true s n = 2 := by unfold rdC; rw [h1]; rfl
theorem rdC_2 {s n : Int32} (h1 : inB s 0 65536 = true) (h2 : inB n 0 12 = false) : rdC true s n = 2 := by unfold rdC; rw [h1, h2]; rfl
theorem rdC_n {s n : Int32} : rdC false s n = 1 := rfl
theorem ne20 : ¬ (2 : Int32) = 0 := by decide
theorem ne10 : ¬ (1 : Int32) = 0 := by decide
set_option maxRecDepth 20000 in
theorem ct_drawnGains {s n : Int32} {f : Int64 → qS → Prop} (h : XAt A S x V) (hv : vOk V) (hf : ∀ S', XAt A S' x (setT V (rdC (vLed V).isSome s n)) → Fr S S' x (x + 467) → f (aDrG V s n) S') : Run (d + 10) 112 [.ref x, .int s, .int n] A S (kL A f) := by
  refine Run.i (C := mX9_drawnGains) rfl rfl rfl fun J hJ => ?_
  obtain ⟨tA, tB, nA, nB, bA, bB, π, h⟩ := h
  have hk := h.1.1
  unfold aDrG at hf
  refine sX9_drawnGains_0 hJ ⟨hk, ?_⟩
  rw [h.2.2.2.1.2.2.1]
  cases hL : vLed V with
  | none =>
    rw [hL] at hf
    refine ⟨fun z => absurd rfl z, fun _ => ⟨hk, wc rfl, ct_refuse h (by decide) fun S1 h1 f1 => kL_i ?_⟩⟩
    have := hf S1 h1.at f1
    rwa [show rdC (none : Option Tld).isSome s n = 1 from rfl, if_neg ne10] at this
  | some td =>
    have hw : lw (vLed V) = td.1 := lw_s hL
    rw [show (vLed V).isSome = true by rw [hL]; rfl] at hf
    refine ⟨fun _ => ⟨wc rfl, ct_isWithin (q_eqb (fun c => ⟨hk, wc rfl, ct_refuse h (by decide) fun S1 h1 f1 => kL_i ?_⟩) (fun c => ⟨wc rfl, ct_isWithin (And.symm (q_eqb (fun c2 => ⟨hk, wc rfl, ct_refuse h (by decide) fun S1 h1 f1 => kL_i ?_⟩) (fun c2 => ⟨hk, fun S1 e1 => ?_⟩)))⟩))⟩, fun z => absurd (show bI true = 0 from z) (by decide)⟩
    · have := hf S1
      rw [rdC_1 c, if_neg ne20] at this
      exact this h1.at f1
    · have := hf S1
      rw [rdC_2 c c2, if_neg ne20] at this
      exact this h1.at f1
    · subst e1
      rw [rdC_t c c2, if_pos rfl] at hf
      obtain ⟨sd, hsd, rfl⟩ := inB_i (n := 65536) (by omega) rfl c
      obtain ⟨k, hk12, rfl⟩ := inB_i (n := 12) (by omega) rfl c2
      have e1 : pN (nI sd) = sd := cl_n (by omega)
      have e2 : pN (nI k) = k := cl_n (by omega)
      rw [dwT, e1, e2] at hf
      refine ⟨hk, wc rfl, ct_bookDrawn (h.set (t := 0) (by decide)) hv (by omega) hk12 rfl fun S2 s2 o pl h2 hB hC f2 => ⟨hk, bB, h2.r9, h2.tb.k, wc rfl, ct_allGains hB (kL_i ?_)⟩⟩
      rw [hC.all]
      exact hf S2 h2.at (fr14.trans f2)
set_option maxRecDepth 20000 in
theorem ct_drawnHeld {p s n : Int32} {f : Int32 → qS → Prop} (h : XAt A S x V) (hv : vOk V) (hf : ∀ S', XAt A S' x (setT V (rdC (papB V p) s n)) → Fr S S' x (x + 467) → f (aDrH V p s n) S') : Run (d + 10) 113 [.ref x, .int p, .int s, .int n] A S (kI A f) := by
  refine Run.i (C := mX9_drawnHeld) rfl rfl rfl fun J hJ => ?_
  obtain ⟨tA, tB, nA, nB, bA, bB, π, h⟩ := h
  have hk := h.1.1
  unfold aDrH at hf
  refine sX9_drawnHeld_0 hJ ⟨hk, wc rfl, ct_hasPaper h (And.symm (q_eqb (fun c0 => ⟨hk, wc rfl, ct_refuse h (by decide) fun S1 h1 f1 => kI_i ?_⟩) (fun c0 => ?_)))⟩
  · have := hf S1
    rw [c0, rdC_n, if_neg ne10] at this
    exact this h1.at f1
  · rw [c0] at hf
    refine ⟨wc rfl, ct_isWithin (q_eqb (fun c => ⟨hk, wc rfl, ct_refuse h (by decide) fun S1 h1 f1 => kI_i ?_⟩) (fun c => ⟨wc rfl, ct_isWithin (And.symm (q_eqb (fun c2 => ⟨hk, wc rfl, ct_refuse h (by decide) fun S1 h1 f1 => kI_i ?_⟩) (fun c2 => ⟨hk, fun S1 e1 => ?_⟩)))⟩))⟩
    · have := hf S1
      rw [rdC_1 c, if_neg ne20] at this
      exact this h1.at f1
    · have := hf S1
      rw [rdC_2 c c2, if_neg ne20] at this
      exact this h1.at f1
    · subst e1
      rw [rdC_t c c2, if_pos rfl] at hf
      obtain ⟨sd, hsd, rfl⟩ := inB_i (n := 65536) (by omega) rfl c
      obtain ⟨k, hk12, rfl⟩ := inB_i (n := 12) (by omega) rfl c2
      obtain ⟨q, hq, rfl, -⟩ := papB_i c0
      have e0 : pN (nI q) = q := cl_n (by omega)
      have e1 : pN (nI sd) = sd := cl_n (by omega)
      have e2 : pN (nI k) = k := cl_n (by omega)
      rw [dwT, e0, e1, e2] at hf
      refine ⟨hk, wc rfl, ct_bookDrawn (h.set (t := 0) (by decide)) hv (by omega) hk12 rfl fun S2 s2 o pl h2 hB hC f2 => ?_⟩
      obtain ⟨bl, br, -, bh, -⟩ := hB
      refine ⟨hk, bB, h2.r9, h2.tb.k, bB + 1, br.1, 3, bl.2.1, vp_n (by omega) (by omega), bB + 18 + 42 * q, by rw [cl_n (by omega)]; exact br.2.2.2.2.2.2.2 q hq, (bh q hq).1.1, wc rfl, ct_allShares (bh q hq) (kI_i ?_)⟩
      rw [hC.1 q hq]
      exact hf S2 h2.at (fr14.trans f2)
end
