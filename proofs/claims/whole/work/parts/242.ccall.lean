/-! the class's calls: worth, chain, mean, trades, sizes -/
theorem chMax_c {L : List Lot} {c : Int32} (hc : 0 ≤ c) : ∀ n, chMax L c n = if c < chMax L 0 n then chMax L 0 n else c
  | 0 => by
    show c = if c < 0 then 0 else c
    rw [if_neg (Int32.not_lt.mpr hc)]
  | n + 1 => by
    have ih := chMax_c (L := L) hc n
    show (if chMax L c n < (lt L n).2.2.2.2.2 then (lt L n).2.2.2.2.2 else chMax L c n) = if c < (if chMax L 0 n < (lt L n).2.2.2.2.2 then (lt L n).2.2.2.2.2 else chMax L 0 n) then (if chMax L 0 n < (lt L n).2.2.2.2.2 then (lt L n).2.2.2.2.2 else chMax L 0 n) else c
    rw [ih]
    generalize chMax L 0 n = u
    generalize (lt L n).2.2.2.2.2 = v
    simp only [i32_lt]
    by_cases a : c.toInt < u.toInt
    · simp only [if_pos a]
      by_cases b : u.toInt < v.toInt
      · simp only [if_pos b, if_pos (show c.toInt < v.toInt by omega)]
      · simp only [if_neg b, if_pos a]
    · simp only [if_neg a]
      by_cases b : u.toInt < v.toInt
      · simp only [if_pos b]
      · simp only [if_neg b, if_neg a, if_neg (show ¬ c.toInt < v.toInt by omega)]
theorem chMax_ge {L : List Lot} {c : Int32} (hc : 0 ≤ c) : ∀ n, 0 ≤ chMax L c n
  | 0 => hc
  | n + 1 => by
    have ih := chMax_ge (L := L) hc n
    show 0 ≤ if chMax L c n < (lt L n).2.2.2.2.2 then (lt L n).2.2.2.2.2 else chMax L c n
    split
    · rename_i z
      exact Int32.le_trans ih (Int32.le_of_lt z)
    · exact ih
section
variable {d : Nat} {A : qA} {S : qS} {x : Nat} {V : VSt} {tA tB nA nB bA bB : Nat} {π : Nat → Nat}
set_option maxRecDepth 20000 in
theorem ct_worth {p pr : Int32} {f : Int64 → qS → Prop} (h : XAt A S x V) (hf : ∀ S', XAt A S' x (qst2 (papB V p) (inB pr 0 999) V) → Fr S S' x (x + 467) → f (aWorth V p pr) S') : Run (d + 10) 84 [.ref x, .int p, .int pr] A S (kL A f) := by
  refine Run.i (C := mX9_worth) rfl rfl rfl fun J hJ => ?_
  obtain ⟨tA, tB, nA, nB, bA, bB, π, h⟩ := h
  have hk := h.1.1
  unfold aWorth qst2 at hf
  refine sX9_worth_0 hJ ⟨hk, wc rfl, ct_hasPaper h (And.symm (q_eqb (fun c => ⟨hk, wc rfl, ct_refuse h (by decide) fun S1 h1 f1 => kL_i ?_⟩) (fun c => ⟨wc rfl, ct_isWithin (And.symm (q_eqb (fun c1 => ⟨hk, wc rfl, ct_refuse h (by decide) fun S1 h1 f1 => kL_i ?_⟩) (fun c1 => ⟨hk, fun T e => ?_⟩)))⟩)))⟩
  · rw [c] at hf; exact hf S1 h1.at f1
  · rw [c, c1] at hf; exact hf S1 h1.at f1
  · subst e
    obtain ⟨q, hq, rfl, -⟩ := papB_i c
    have h1 := h.set (t := 0) (by decide)
    obtain ⟨b1, b2, b3, b4, b5⟩ := h1.bk.lo hq
    have b4' : gR (uI S x 14 0) (bA + 1) (nI q).toNatClampNeg = some (bA + 18 + 42 * q) := by rw [cl_n (by omega)]; exact b4
    refine ⟨hk, bA, h1.r8, b1, bA + 1, b2, 3, b3, vp_n (by omega) (by omega), bA + 18 + 42 * q, b4', b5.1.1, wc rfl, ct_allShares b5 ⟨hk, bA, h1.r8, b1, bA + 1, b2, 3, b3, vp_n (by omega) (by omega), bA + 18 + 42 * q, b4', b5.1.1, wc rfl, ct_allCost b5 (kL_i ?_)⟩⟩
    rw [c, c1, pN, cl_n (by omega)] at hf
    exact hf _ h1.at fr14
set_option maxRecDepth 20000 in
theorem ct_chain {f : Int32 → qS → Prop} (h : XAt A S x V) (hf : ∀ S', XAt A S' x (qst (vLed V).isSome V) → Fr S S' x (x + 467) → f (aChain V) S') : Run (d + 10) 85 [.ref x] A S (kI A f) := by
  refine Run.i (C := mX9_chain) rfl rfl rfl fun J hJ => ?_
  obtain ⟨tA, tB, nA, nB, bA, bB, π, h⟩ := h
  have hk := h.1.1
  unfold aChain qst at hf
  refine sX9_chain_0 hJ ⟨hk, ?_⟩
  rw [h.2.2.2.1.2.2.1]
  refine And.symm (q_eqb (fun c => ⟨hk, wc rfl, ct_refuse h (by decide) fun S1 h1 f1 => kI_i ?_⟩) (fun c => ⟨hk, fun T e => ?_⟩))
  · rw [c] at hf; exact hf S1 h1.at f1
  · subst e
    have h1 := h.set (t := 0) (by decide)
    have b := fun q (hq : q < 3) => h1.bk.lo hq
    have st : ∀ q, q < 3 → ∀ c : Int32, 0 ≤ c → J 22 [some (.ref x), some (.int (chMax (bkV V q).1 c (bkV V q).1.length)), some (.int (nI (q + 1)))] [] A (uI S x 14 0) → J 22 [some (.ref x), some (.int c), some (.int (nI q))] [] A (uI S x 14 0) := by
      intro q hq c hc hj
      obtain ⟨b1, b2, b3, b4, b5⟩ := b q hq
      refine sX9_chain_22 hJ ⟨fun z => absurd ((nIle (a := 3) (by omega) (by omega)).1 z) (by omega), fun _ => ⟨hk, bA, h1.r8, b1, bA + 1, b2, 3, b3, vp_n (by omega) (by omega), bA + 18 + 42 * q, by rw [cl_n (by omega)]; exact b4, b5.1.1, wc rfl, ct_longestChain b5 ⟨wc rfl, ?_⟩⟩⟩
      rw [nI_1]
      rw [chMax_c hc] at hj
      exact hj
    refine st 0 (by omega) 0 (by decide) (st 1 (by omega) _ (chMax_ge (by decide) _) (st 2 (by omega) _ (chMax_ge (chMax_ge (by decide) _) _) (sX9_chain_22 hJ ⟨fun _ => kI_i ?_, fun z => absurd ((nIle (a := 3) (by omega) (by omega)).2 (Nat.le_refl 3)) z⟩)))
    rw [c] at hf
    exact hf _ h1.at fr14
set_option maxRecDepth 20000 in
theorem ct_commonDivisor {a b : Int64} {f : Int64 → qS → Prop} (hf : f (eu 128 a b) S) : Run (d + 1) 83 [.long a, .long b] A S (kL A f) := by
  refine Run.i (C := mX9_commonDivisor) rfl rfl rfl fun J hJ => ?_
  have loop : ∀ n k (m l : Int64) (w0 w1 w2 w3 w5 w7 w9 w10 : Option Value), k + n = 128 → eu n m l = eu 128 a b → J 9 [w0, w1, w2, w3, some (.long m), w5, some (.long l), w7, some (.int (nI k)), w9, w10] [] A S := by
    intro n
    induction n with
    | zero =>
      intro k m l w0 w1 w2 w3 w5 w7 w9 w10 hk he
      refine sX9_commonDivisor_9 hJ ⟨fun _ => kL_i ?_, fun z => absurd ((nIle (a := 128) (by omega) (by omega)).2 (by omega)) z⟩
      rw [← he] at hf
      exact hf
    | succ n ih =>
      intro k m l w0 w1 w2 w3 w5 w7 w9 w10 hk he
      refine sX9_commonDivisor_9 hJ ⟨fun z => absurd ((nIle (a := 128) (by omega) (by omega)).1 z) (by omega), fun _ => ⟨fun z => kL_i ?_, fun z => ⟨fun c => z ((lgc_eq _ _).2 c), ?_⟩⟩⟩
      · rw [eu, if_pos ((lgc_eq _ _).1 z)] at he
        rw [← he] at hf
        exact hf
      · rw [eu, if_neg (fun c => z ((lgc_eq _ _).2 c))] at he
        rw [nI_1]
        exact ih (k + 1) _ _ _ _ _ _ _ _ _ _ (by omega) he
  exact sX9_commonDivisor_0 hJ (loop 128 0 a b _ _ _ _ _ _ _ _ (by omega) rfl)
theorem shSum_0 {L : List Lot} {b c : Nat} (hb : b ≤ mxN) (h : ∀ l, l ∈ L → okL b c l) (hl : L.length ≤ 100) (h0 : shSum L L.length = 0) : L = [] := by
  rw [shSum_all hb h] at h0
  have := shN_le hb L h
  rw [show (0 : Int32) = nI 0 from rfl, nIeqB (by unfold mxN at this; omega) (by omega)] at h0
  exact List.eq_nil_of_length_eq_zero (by omega)
set_option maxRecDepth 20000 in
theorem ct_mean {p : Int32} {lo : Bool} {f : Int64 → qS → Prop} (h : XAt A S x V) (hv : vOk V) (hf : ∀ S', XAt A S' x (qst (papB V p) V) → Fr S S' x (x + 467) → f (aMean V p lo) S') : Run (d + 10) 82 [.ref x, .int p, .int (bI lo)] A S (kL A f) := by
  refine Run.i (C := mX9_mean) rfl rfl rfl fun J hJ => ?_
  obtain ⟨tA, tB, nA, nB, bA, bB, π, h⟩ := h
  have hk := h.1.1
  unfold aMean qst at hf
  refine sX9_mean_0 hJ ⟨hk, wc rfl, ct_hasPaper h (And.symm (q_eqb (fun c => ⟨hk, wc rfl, ct_refuse h (by decide) fun S1 h1 f1 => kL_i ?_⟩) (fun c => ⟨hk, fun T e => ?_⟩)))⟩
  · rw [c] at hf; exact hf S1 h1.at f1
  · subst e
    obtain ⟨q, hq, rfl, -⟩ := papB_i c
    have h1 := h.set (t := 0) (by decide)
    have hB := h1.bk
    obtain ⟨b1, b2, b3, b4, b5⟩ := h1.bk.lo hq
    have b5 : LoAt A (uI S x 14 0) (bA + 18 + 42 * q) (bkV V q).1 := b5
    have b4' : gR (uI S x 14 0) (bA + 1) (nI q).toNatClampNeg = some (bA + 18 + 42 * q) := by rw [cl_n (by omega)]; exact b4
    rw [c, pN, cl_n (by omega)] at hf
    have hf := hf _ h1.at fr14
    refine ⟨hk, bA, h1.r8, b1, bA + 1, b2, 3, b3, vp_n (by omega) (by omega), bA + 18 + 42 * q, b4', b5.1.1, wc rfl, ct_allCost b5 ⟨hk, bA, h1.r8, b1, bA + 1, b2, 3, b3, vp_n (by omega) (by omega), bA + 18 + 42 * q, b4', b5.1.1, wc rfl, ct_allShares b5 ⟨fun z => ⟨wc rfl, ct_commonDivisor ?_⟩, fun z => ?_⟩⟩⟩
    · have hs : ¬ shSum (bkV V q).1 (bkV V q).1.length = 0 := fun e => z (by rw [e]; rfl)
      rw [if_pos rfl, if_neg hs] at hf
      have ne : ¬ (shSum (bkV V q).1 (bkV V q).1.length).toInt64 = 0 := i64_0 hs
      have eu0' : eu0 128 (coSum (bkV V q).1 (bkV V q).1.length) (shSum (bkV V q).1 (bkV V q).1.length).toInt64 := by
        refine (eu0_up (2 * 32 + 1) 63 _ _ (eu0_bound 32 _ _ ?_)).1
        rw [Int32.toInt_toInt64]
        have a1 := Int32.toInt_lt (shSum (bkV V q).1 (bkV V q).1.length)
        have a2 := Int32.le_toInt (shSum (bkV V q).1 (bkV V q).1.length)
        omega
      have nz := eu_ne 128 _ _ eu0' (Or.inr ne)
      refine ⟨fun z1 => ?_, fun z1 => absurd ((lgc_eq _ _).1 z1) nz⟩
      cases lo
      · exact ⟨fun _ => ⟨nz, kL_i hf⟩, fun e => absurd rfl e⟩
      · exact ⟨fun e => absurd e (by decide), fun _ => ⟨nz, kL_i hf⟩⟩
    · have hs : shSum (bkV V q).1 (bkV V q).1.length = 0 := by
        have z' := (lgc_eq _ _).1 z
        by_cases e : shSum (bkV V q).1 (bkV V q).1.length = 0
        · exact e
        · exact absurd z' (i64_0 e)
      obtain ⟨s, o, pl, w1, w2, ⟨nn, w3, w4⟩, w5⟩ := hB
      have eL : (bkV V q).1 = [] := shSum_0 (b := 999 * 9 ^ 4) (c := nn q) (by decide) (w3 q hq).1 (by have := b5.2.choose_spec.2.2.1; omega) hs
      rw [if_pos rfl, if_pos hs, eL] at hf
      cases lo
      · exact ⟨fun _ => kL_i hf, fun e => absurd rfl e⟩
      · exact ⟨fun e => absurd e (by decide), fun _ => kL_i hf⟩
end
