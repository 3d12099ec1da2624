/-! the reference's calls: size, mean -/
theorem rem64 {a b : Int64} (hb : ¬ b = 0) : (a - a / b * b).toInt = a.toInt.tmod b.toInt := by
  have h1 := Int64.toInt_lt b
  have h2 := Int64.le_toInt b
  have hn : ¬ b.toInt = 0 := fun z => hb (Int64.toInt_inj.mp (by rw [z, Int64.toInt_zero]))
  have hna := Int.natAbs_tmod a.toInt b.toInt
  have hlt : a.toInt.natAbs % b.toInt.natAbs < b.toInt.natAbs := Nat.mod_lt _ (by omega)
  rw [Int64.toInt_sub, Int64.toInt_mul, Int64.toInt_div, Int.sub_bmod_bmod]
  have e : Int.bmod (a.toInt - Int.bmod (a.toInt.tdiv b.toInt) (2 ^ 64) * b.toInt) (2 ^ 64) = Int.bmod (a.toInt - a.toInt.tdiv b.toInt * b.toInt) (2 ^ 64) := by
    rw [← Int.sub_bmod_bmod, Int.bmod_mul_bmod, Int.sub_bmod_bmod]
  rw [e, Int.mul_comm, ← Int.tmod_def]
  exact Int.bmod_eq_of_le_mul_two (by omega) (by omega)
def eu : Nat → Int64 → Int64 → Int64
  | 0, a, _ => a
  | n + 1, a, b => if b = 0 then a else eu n b (a - a / b * b)
/-- n rounds are enough -/
def eu0 : Nat → Int64 → Int64 → Prop
  | 0, _, b => b = 0
  | n + 1, a, b => b = 0 ∨ eu0 n b (a - a / b * b)
theorem eu0_bound : ∀ (k : Nat) (a b : Int64), b.toInt.natAbs < 2 ^ k → eu0 (2 * k + 1) a b
  | 0, a, b, h => Or.inl (Int64.toInt_inj.mp (by rw [Int64.toInt_zero]; omega))
  | k + 1, a, b, h => by
    by_cases hb : b = 0
    · exact Or.inl hb
    · refine Or.inr ?_
      show eu0 (2 * k + 1 + 1) b (a - a / b * b)
      by_cases hr : a - a / b * b = 0
      · exact Or.inl hr
      · refine Or.inr (eu0_bound k _ _ ?_)
        have hn : ¬ b.toInt = 0 := fun z => hb (Int64.toInt_inj.mp (by rw [z, Int64.toInt_zero]))
        have hrn : ¬ (a - a / b * b).toInt = 0 := fun z => hr (Int64.toInt_inj.mp (by rw [z, Int64.toInt_zero]))
        rw [rem64 hr, Int.natAbs_tmod]
        have e1 : (a - a / b * b).toInt.natAbs = a.toInt.natAbs % b.toInt.natAbs := by rw [rem64 hb, Int.natAbs_tmod]
        have l1 : (a - a / b * b).toInt.natAbs < b.toInt.natAbs := by rw [e1]; exact Nat.mod_lt _ (by omega)
        generalize (a - a / b * b).toInt.natAbs = r at *
        have hr0 : 0 < r := by
          rcases Nat.eq_zero_or_pos r with z | z
          · exfalso
            apply hrn
            have : (a - a / b * b).toInt.natAbs = r := by rw [rem64 hb, Int.natAbs_tmod, e1]
            omega
          · exact z
        have l2 : b.toInt.natAbs % r < r := Nat.mod_lt _ hr0
        have l3 : b.toInt.natAbs % r + r ≤ b.toInt.natAbs := by
          have d1 := Nat.div_add_mod b.toInt.natAbs r
          have d2 : 1 ≤ b.toInt.natAbs / r := (Nat.le_div_iff_mul_le hr0).mpr (by omega)
          have d3 : r * 1 ≤ r * (b.toInt.natAbs / r) := Nat.mul_le_mul_left r d2
          omega
        rw [Nat.pow_succ] at h
        omega
theorem eu0_up : ∀ (n j : Nat) (a b : Int64), eu0 n a b → eu0 (n + j) a b ∧ eu (n + j) a b = eu n a b
  | 0, 0, a, b, h => ⟨h, rfl⟩
  | 0, j + 1, a, b, h => by
    have h : b = 0 := h
    rw [Nat.zero_add]
    refine ⟨Or.inl h, ?_⟩
    show eu (j + 1) a b = a
    rw [eu, if_pos h]
  | n + 1, j, a, b, h => by
    rw [Nat.add_right_comm]
    by_cases hb : b = 0
    · exact ⟨Or.inl hb, by rw [eu, if_pos hb, eu, if_pos hb]⟩
    · have h' := h.resolve_left hb
      have := eu0_up n j _ _ h'
      exact ⟨Or.inr this.1, by rw [eu, if_neg hb, eu, if_neg hb]; exact this.2⟩
theorem eu_ne : ∀ (n : Nat) (a b : Int64), eu0 n a b → (¬ a = 0 ∨ ¬ b = 0) → ¬ eu n a b = 0
  | 0, a, b, h, hab => by
    have h : b = 0 := h
    rcases hab with z | z
    · exact z
    · exact absurd h z
  | n + 1, a, b, h, hab => by
    rw [eu]
    by_cases hb : b = 0
    · rw [if_pos hb]
      rcases hab with z | z
      · exact z
      · exact absurd hb z
    · rw [if_neg hb]
      exact eu_ne n _ _ (h.resolve_left hb) (Or.inl hb)
def aMean (V : VSt) (p : Int32) (lo : Bool) : Int64 := if papB V p then (if shSum (bkV V (pN p)).1 (bkV V (pN p)).1.length = 0 then (if lo then 1 else coSum (bkV V (pN p)).1 (bkV V (pN p)).1.length) / eu 128 (coSum (bkV V (pN p)).1 (bkV V (pN p)).1.length) 1 else (if lo then (shSum (bkV V (pN p)).1 (bkV V (pN p)).1.length).toInt64 else coSum (bkV V (pN p)).1 (bkV V (pN p)).1.length) / eu 128 (coSum (bkV V (pN p)).1 (bkV V (pN p)).1.length) (shSum (bkV V (pN p)).1 (bkV V (pN p)).1.length).toInt64) else -1
theorem eu128 {a : Int64} {x : Int32} : eu0 128 a x.toInt64 := by
  have h : x.toInt64.toInt.natAbs < 2 ^ 32 := by
    rw [Int32.toInt_toInt64]
    have h1 := Int32.toInt_lt x
    have h2 := Int32.le_toInt x
    omega
  exact (eu0_up (2 * 32 + 1) 63 _ _ (eu0_bound 32 a _ h)).1
theorem eu128o {a : Int64} : eu0 128 a 1 := (eu0_up (2 * 1 + 1) 125 _ _ (eu0_bound 1 a 1 (by decide))).1
section
variable {d : Nat} {A : qA} {S : qS} {m : Nat} {V : VSt}
set_option maxRecDepth 20000 in
theorem cm_common {a b : Int64} {f : Int64 → qS → Prop} {n : Nat} (h : eu0 n a b) (hf : f (eu n a b) S) : Run (d + 1) 144 [.long a, .long b] A S (kL A f) := by
  refine Run.i (C := mX11_common) rfl rfl rfl fun J hJ => ?_
  have loop : ∀ n' x y (w0 w1 w2 w3 w5 w7 w8 w9 : Option Value), eu0 n' x y → eu n' x y = eu n a b → J 6 [w0, w1, w2, w3, some (.long x), w5, some (.long y), w7, w8, w9] [] A S := by
    intro n'
    induction n' with
    | zero =>
      intro x y w0 w1 w2 w3 w5 w7 w8 w9 h0 he
      have h0 : y = 0 := h0
      refine sX11_common_6 hJ ?_
      rw [lgc_eq]
      refine ⟨fun _ => kL_i ?_, fun z => absurd h0 z⟩
      rw [eu] at he
      rw [he]; exact hf
    | succ n' ih =>
      intro x y w0 w1 w2 w3 w5 w7 w8 w9 h0 he
      refine sX11_common_6 hJ ?_
      rw [lgc_eq]
      rw [eu] at he
      refine ⟨fun z => kL_i ?_, fun z => ⟨z, ih _ _ _ _ _ _ _ _ _ _ (h0.resolve_left z) ?_⟩⟩
      · rw [if_pos z] at he
        rw [he]; exact hf
      · rw [if_neg z] at he
        exact he
  exact sX11_common_0 hJ (loop n a b _ _ _ _ _ _ _ _ h rfl)
set_option maxRecDepth 20000 in
theorem cm_fraction {a b : Int64} {lo : Bool} {f : Int64 → qS → Prop} {n : Nat} (h : MAt A S m V) (h0 : eu0 n a b) (hb : ¬ b = 0) (hf : ∀ S', MAt A S' m (setT V 0) → Fr S S' m (m + 27) → f ((if lo then b else a) / eu n a b) S') : Run (d + 2) 145 [.ref m, .long a, .long b, .int (bI lo)] A S (kL A f) := by
  refine Run.i (C := mX11_fraction) rfl rfl rfl fun J hJ => ?_
  refine sX11_fraction_0 hJ ⟨h.1.1.1, wc rfl, cm_good h fun S1 h1 hr1 => q_eqb (fun z => ⟨wc rfl, cm_common h0 ⟨eu_ne _ _ _ h0 (Or.inr hb), kL_i ?_⟩⟩) (fun z => ⟨wc rfl, cm_common h0 ⟨eu_ne _ _ _ h0 (Or.inr hb), kL_i ?_⟩⟩)⟩
  · have := hf S1 h1 hr1
    rw [z] at this
    exact this
  · have := hf S1 h1 hr1
    rw [z] at this
    exact this
set_option maxRecDepth 20000 in
theorem cm_mean {p : Int32} {lo : Bool} {f : Int64 → qS → Prop} (h : MAt A S m V) (hv : vOk V) (hf : ∀ S', MAt A S' m (qst (papB V p) V) → Fr S S' m (m + 27) → f (aMean V p lo) S') : Run (d + 10) 213 [.ref m, .int p, .int (bI lo)] A S (kL A f) := by
  refine Run.i (C := mX11_mean) rfl rfl rfl fun J hJ => ?_
  refine sX11_mean_0 hJ ⟨h.1.1.1, fun T e => ?_⟩
  subst e
  refine ⟨h.1.1.1, wc rfl, cm_isPaper h.t0 (q_neb (fun z => ?_) (fun z => ⟨h.1.1.1, wc rfl, cm_refused h.t0 fun S' h2 hr2 => kL_i ?_⟩))⟩
  · obtain ⟨i, hi, rfl, td, hL⟩ := papB_i z
    have e : pN (nI i) = i := cl_n (by omega)
    refine ⟨h.1.1.1, wc rfl, cm_booksNow h.t0 hv hL fun S2 h2 hB hr2 => ⟨h.1.1.1, wc rfl, cm_sharesOf h2.1 (hB.v hL).2.1 hi ⟨h.1.1.1, wc rfl, cm_costOf h2.1 (hB.v hL).2.1 hi ⟨fun y => ⟨h.1.1.1, wc rfl, cm_fraction h2 eu128 (i64_0 y) fun S' h3 hr3 => kL_i ?_⟩, fun y => ⟨h.1.1.1, wc rfl, cm_fraction h2 eu128o (by decide) fun S' h3 hr3 => kL_i ?_⟩⟩⟩⟩⟩
    · have := hf S'
      rw [z, aMean, z, if_pos rfl, e, if_neg (show ¬ shSum (bkV V i).1 (bkV V i).1.length = 0 from y)] at this
      exact this h3 (frT0 (hr2.fr.trans hr3))
    · have := hf S'
      rw [z, aMean, z, if_pos rfl, e, if_pos (show shSum (bkV V i).1 (bkV V i).1.length = 0 from y)] at this
      exact this h3 (frT0 (hr2.fr.trans hr3))
  · have := hf S'
    rw [z, aMean, z] at this
    exact this h2 (frT0 hr2)
end
