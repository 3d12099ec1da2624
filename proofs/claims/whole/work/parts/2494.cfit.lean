/-! the class finds the sets that fit -/
section
variable {d : Nat} {A : qA} {S S' : qS} {x : Nat} {V : VSt} {td : Tld} {tA tB nA nB bA bB : Nat} {π : Nat → Nat}
theorem XW.fl2 (h : XW A S x V tA tB nA nB bA bB π) (hs : ∀ b k, ¬ (b = x + 444 ∨ b = x + 445) → gI S' b k = gI S b k) (hl : ∀ b k, gL S' b k = gL S b k) (hr : ∀ b k, gR S' b k = gR S b k) : XW A S' x V tA tB nA nB bA bB π := XP.flag (c := 0) h (fun b k n => by rw [gI_uI, if_neg (by omega), gI_uI, if_neg (by omega)]; exact hs b k (by omega)) (fun b k => hl b k) (fun b k => hr b k) ⟨false, by rw [gI_uI, if_pos ⟨rfl, rfl⟩]; rfl, fun z => by cases z⟩
/-- the found sets below k -/
def FtS (S : qS) (x : Nat) (L : List Nat) : Prop := gI S (x + 444) 1 = nI L.length ∧ ∀ i, i < L.length → gI S (x + 445) i = nI (L.getD i 0)
set_option maxRecDepth 20000 in
theorem ct_findFits {f : qS → Prop} (h : XP A S x V tA tB nA nB bA bB π) (hL : vLed V = some td) (hvt : vTd td) (hf : ∀ S', XP A S' x V tA tB nA nB bA bB π → FtS S' x (allS td) → Fr S S' x (x + 467) → f S') : Run (d + 8) 109 [.ref x] A S (kV A f) := by
  refine Run.i (C := mX9_findFits) rfl rfl rfl fun J hJ => ?_
  have hk := h.1.1
  have k1 := h.1.2.2.2.2.2.2.1
  have k2 := h.1.2.2.2.2.2.2.2
  obtain ⟨d1, d2, d3, d4, d5⟩ := h.2.2.1
  have hl4 := hvt.2.2.2.1
  have r13 := h.2.1.1.2.2.2.2.2.2.2.2.2.2
  have r0 := h.2.1.2.2.1
  have el : ldV V = td := by unfold ldV; rw [hL]; rfl
  have p16 : 2 ^ td.2.2.1.length ≤ 16 := by
    have : 2 ^ td.2.2.1.length ≤ 2 ^ 4 := Nat.pow_le_pow_right (by omega) hl4
    omega
  obtain ⟨b, hb, hb2⟩ := h.2.2.2.2.2.1
  rw [el] at hb2
  refine sX9_findFits_0 hJ ⟨hk, x + 444, r13, k1, ?_⟩
  rw [hb]
  refine q_eqb (fun c => ⟨hk, x + 444, r13, k1, Or.inr rfl, fun S1 e1 => ⟨hk, x + 444, by rw [e1]; exact r13, k1, fun S2 e2 => ?_⟩⟩) (fun c => kV_i (hf S h (hb2 c) Fr.rf))
  have gi2 : ∀ b k, ¬ b = x + 444 → gI S2 b k = gI S b k := fun b k n => by rw [e2, gI_uI, if_neg (fun z => n z.1), e1, gI_uI, if_neg (fun z => n z.1)]
  have gl2 : ∀ b k, gL S2 b k = gL S b k := fun b k => by rw [e2, e1]; rfl
  have gr2 : ∀ b k, gR S2 b k = gR S b k := fun b k => by rw [e2, e1]; rfl
  have h2 : XW A S2 x V tA tB nA nB bA bB π := h.w.fl2 (fun b k n => gi2 b k (by omega)) gl2 gr2
  have f2 : Fr S S2 x (x + 467) := fun b hb k => ⟨gi2 b k (by omega), gl2 b k, gr2 b k⟩
  have t2 := h2.tdd hL
  have c2 : gI S2 (x + 444) 1 = nI 0 := by rw [e2, gI_uI, if_pos ⟨rfl, rfl⟩]; rfl
  have fl : gI S2 (x + 444) 2 = 1 := by rw [e2, gI_uI, if_neg (by omega), e1, gI_uI, if_pos ⟨rfl, rfl⟩]
  refine ⟨hk, tA, h2.s4, t2.1.1, ?_⟩
  rw [t2.2.2.2.2.1, shl1 hl4]
  have loop : ∀ n k (Sj : qS), k + n = 2 ^ td.2.2.1.length → XW A Sj x V tA tB nA nB bA bB π → FtS Sj x (ftL td k) → gI Sj (x + 444) 2 = 1 → Fr S Sj x (x + 467) → J 39 [some (.ref x), some (.int (nI (2 ^ td.2.2.1.length))), some (.int (nI k))] [] A Sj := by
    intro n
    induction n with
    | zero =>
      intro k Sj hk' hj hF hfl fj
      refine sX9_findFits_39 hJ ⟨fun _ => kV_i ?_, fun z => absurd ((nIle (by omega) (by omega)).2 (by omega)) z⟩
      have ek : k = 2 ^ td.2.2.1.length := by omega
      have hF' : FtS Sj x (allS td) := by unfold allS; rw [← ek]; exact hF
      refine hf Sj (hj.p ⟨true, hfl, fun _ => ?_⟩) hF' fj
      rw [el]; exact hF'
    | succ n ih =>
      intro k Sj hk' hj hF hfl fj
      have lk := ftL_len td k
      refine sX9_findFits_39 hJ ⟨fun z => absurd ((nIle (by omega) (by omega)).1 z) (by omega), fun _ => ⟨fun z => absurd ((nIle (a := 16) (by omega) (by omega)).1 z) (by omega), fun _ => ⟨hk, wc rfl, ct_isFit hj hL hvt fun S3 h3 f3 => ?_⟩⟩⟩
      have F3 : FtS S3 x (ftL td k) := ⟨(f3 _ (by omega) _).1.trans hF.1, fun i hi => (f3 _ (by omega) _).1.trans (hF.2 i hi)⟩
      have fl3 : gI S3 (x + 444) 2 = 1 := (f3 _ (by omega) _).1.trans hfl
      have fr3 := fj.trans (f3.wide (Nat.le_refl _) (show x + 329 ≤ x + 467 by omega))
      rw [nI_1]
      have rj : gR S3 x 13 = some (x + 444) := (show XP A (uI S3 (x + 444) 2 0) x V tA tB nA nB bA bB π from h3).2.1.1.2.2.2.2.2.2.2.2.2.2
      have r0' : gR S3 (x + 444) 0 = some (x + 445) := (show XP A (uI S3 (x + 444) 2 0) x V tA tB nA nB bA bB π from h3).2.1.2.2.1
      refine q_eqb (fun cb => ih (k + 1) S3 (by omega) h3 ?_ fl3 fr3) (fun cb => ⟨hk, x + 444, rj, k1, x + 445, r0', hk, x + 444, rj, k1, 16, k2, ?_⟩)
      · rw [ftL, if_neg (by rw [cb]; decide)]; exact F3
      · rw [F3.1, cl_n (by omega)]
        refine ⟨vp_n (by omega) (by omega), fun S4 e4 => ⟨hk, x + 444, by rw [e4]; exact rj, k1, k1, fun S5 e5 => ?_⟩⟩
        have g4 : gI S4 (x + 444) 1 = nI (ftL td k).length := by rw [e4, gI_uI, if_neg (by omega)]; exact F3.1
        rw [g4, nI_1] at e5
        have gi5 : ∀ b k', ¬ (b = x + 444 ∨ b = x + 445) → gI S5 b k' = gI S3 b k' := fun b k' n => by rw [e5, gI_uI, if_neg (by omega), e4, gI_uI, if_neg (by omega)]
        have gl5 : ∀ b k', gL S5 b k' = gL S3 b k' := fun b k' => by rw [e5, e4]; rfl
        have gr5 : ∀ b k', gR S5 b k' = gR S3 b k' := fun b k' => by rw [e5, e4]; rfl
        refine ih (k + 1) S5 (by omega) (h3.fl2 gi5 gl5 gr5) ?_ ?_ (fr3.trans fun b hb k' => ⟨gi5 b k' (by omega), gl5 b k', gr5 b k'⟩)
        · rw [ftL, if_pos cb]
          refine ⟨?_, fun i hi => ?_⟩
          · rw [e5, gI_uI, if_pos ⟨rfl, rfl⟩, List.length_append, List.length_singleton]
          · rw [List.length_append, List.length_singleton] at hi
            rw [e5, gI_uI, if_neg (by omega), e4, gI_uI]
            by_cases ei : i = (ftL td k).length
            · rw [if_pos ⟨rfl, ei⟩, ei]
              simp
            · rw [if_neg (fun z => ei z.2), F3.2 i (by omega)]
              simp [List.getElem?_append_left (show i < (ftL td k).length by omega)]
        · rw [e5, gI_uI, if_neg (by omega), e4, gI_uI, if_neg (by omega)]; exact fl3
  exact loop (2 ^ td.2.2.1.length) 0 S2 (by omega) h2 ⟨c2, fun i hi => absurd hi (Nat.not_lt_zero _)⟩ fl f2
theorem setP0 (hvt : vTd td) : ∀ u, pst td 0 u = td.2.1
  | 0 => rfl
  | u + 1 => by
    show (if bitB 0 (nI u) then _ else pst td 0 u) = _
    have : bitB 0 (nI u) = false := decide_eq_false (by
      rw [Int32.zero_shiftRight, Int32.zero_and]
      decide)
    rw [this]
    exact setP0 hvt u
set_option maxRecDepth 20000 in
theorem ct_judge {f : Int32 → qS → Prop} (h : XAt A S x V) (hv : vOk V) (hf : ∀ S', XAt A S' x (qst (vLed V).isSome V) → Fr S S' x (x + 467) → f (aJudge V) S') : Run (d + 10) 108 [.ref x] A S (kI A f) := by
  refine Run.i (C := mX9_judge) rfl rfl rfl fun J hJ => ?_
  obtain ⟨tA, tB, nA, nB, bA, bB, π, h⟩ := h
  have hk := h.1.1
  obtain ⟨d1, d2, d3, d4, d5⟩ := h.2.2.1
  unfold aJudge qst at hf
  refine sX9_judge_0 hJ ⟨hk, ?_⟩
  rw [h.2.2.2.1.2.2.1]
  cases hL : vLed V with
  | none =>
    rw [hL] at hf
    refine ⟨fun z => absurd rfl z, fun _ => ⟨hk, wc rfl, ct_refuse h (by decide) fun S1 h1 f1 => kI_i (hf S1 h1.at f1)⟩⟩
  | some td =>
    rw [hL] at hf
    have hvt := hv.1 td hL
    refine ⟨fun _ => ⟨hk, fun S1 e1 => ?_⟩, fun z => absurd (show bI true = 0 from z) (by decide)⟩
    subst e1
    have h1 := h.set (t := 0) (by decide)
    have t1 := h1.w.tdd (td := td) hL
    refine ⟨hk, bB, h1.r9, hk, tA, h1.r4, t1.1.1, tA + 1, t1.2.1.1, hk, tA, h1.r4, t1.1.1, h1.tb.k, wc rfl, ?_⟩
    rw [t1.2.2.2.1]
    refine ct_bookTrial h1 t1.2.2.1 (by omega) hvt.2.1.1 fun S2 h2 b2 t2 f2 => ⟨hk, wc rfl, ?_⟩
    have es : setP td 0 = td.2.1 := setP0 hvt _
    refine ct_firstWrongGain hk h2.r4 h2.r9 (h2.w.tdd (td := td) hL) hvt (b2 hvt.2.1.2) hvt.2.1.1 rfl (kI_i ?_)
    have := hf S2 h2.at (fr14.trans (h1.frB f2))
    dsimp only at this
    rwa [es] at this
end
