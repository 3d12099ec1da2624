/-! the class's acts -/
section
variable {d : Nat} {A : qA} {S S' : qS} {x : Nat} {V V' : VSt} {tA tB nA nB bA bB nA' nB' bA' bB' : Nat} {π π' : Nat → Nat}
theorem XP.hi (h : XP A S x V tA tB nA nB bA bB π) (hl : (vPast V).length ≤ 16) : HiAt A S x π (vPast V) := ⟨⟨h.1.2.2.2.1, h.1.2.2.2.2.1⟩, h.2.1.2.1, h.2.2.2.1.2.2.2.2.2.2.2.2, hl, h.2.1.2.2.2.2, h.2.2.1.2.2.2, h.2.2.2.2.1.1⟩
/-- told and images stay as they are -/
theorem XP.gen (h : XP A S x V tA tB nA nB bA bB π) (hF : Fr S S' x (x + 467)) (hs : ∀ b, (x + 1 ≤ b ∧ b < x + 27) ∨ x + 443 ≤ b → ∀ k, gI S' b k = gI S b k ∧ gL S' b k = gL S b k ∧ gR S' b k = gR S b k) (hR : gR S' x 0 = gR S x 0 ∧ gR S' x 2 = gR S x 2 ∧ gR S' x 4 = gR S x 4 ∧ gR S' x 5 = gR S x 5 ∧ gR S' x 10 = gR S x 10 ∧ gR S' x 11 = gR S x 11 ∧ gR S' x 13 = gR S x 13) (r6 : gR S' x 6 = some nA') (r7 : gR S' x 7 = some nB') (r8 : gR S' x 8 = some bA') (r9 : gR S' x 9 = some bB') (hD : (nA' = x + 27 ∧ nB' = x + 34 ∨ nA' = x + 34 ∧ nB' = x + 27) ∧ (bA' = x + 41 ∧ bB' = x + 185 ∨ bA' = x + 185 ∧ bB' = x + 41)) (e0 : vLed V' = vLed V) (e3 : vImg V' = vImg V) (hI : XI S' x V') (hH : HiAt A S' x π' (vPast V')) (hN : TrAt A S' nA' 24 (vNow V')) (hT : ∃ T, TrAt A S' nB' 24 T) (hb : BN A S' bA' (lw (vLed V)) 999 (vNow V')) (hB : BA A S' bB') : XP A S' x V' tA tB nA' nB' bA' bB' π' := by
  obtain ⟨hK, hX, ⟨d1, d2, d3, d4, d5⟩, hI0, hXT, hQ, hA, hB', hN0, -, hb0, -⟩ := h
  obtain ⟨⟨f1, f2, f3, f4, f5, f6, f7, f8, f9, f10, f11⟩, f12, f13, f14, f15⟩ := hX
  have el : ldV V' = ldV V := by unfold ldV; rw [e0]
  refine ⟨hK, ⟨⟨hR.1.trans f1, hR.2.1.trans f2, hR.2.2.1.trans f3, hR.2.2.2.1.trans f4, r6, r7, r8, r9, hR.2.2.2.2.1.trans f9, hR.2.2.2.2.2.1.trans f10, hR.2.2.2.2.2.2.trans f11⟩, hH.2.1, (hs (x + 444) (by omega) _).2.2.trans f13, fun i hi => (hs (x + 443) (by omega) _).2.2.trans (f14 i hi), hH.2.2.2.2.1⟩, ⟨d1, hD.1, hD.2, hH.2.2.2.2.2.1⟩, hI, ⟨hH.2.2.2.2.2.2, fun i hi => ?_⟩, ?_, ?_, ?_, hN, hT, by rw [e0]; exact hb, hB⟩
  · obtain ⟨T, h1, h2⟩ := hXT.2 i hi
    exact ⟨T, h1.cel (fun b b1 b2 k => hs b (by omega) k) hF, by rw [e3]; exact h2⟩
  · rw [el]
    obtain ⟨b, g1, g2⟩ := hQ
    exact ⟨b, (hs (x + 444) (by omega) _).1.trans g1, fun c => ⟨(hs (x + 444) (by omega) _).1.trans (g2 c).1, fun i hi => (hs (x + 445) (by omega) _).1.trans ((g2 c).2 i hi)⟩⟩
  · rw [el]
    exact hA.cel (fun b b1 b2 k => hs b (by omega) k) hF
  · obtain ⟨td', hB'⟩ := hB'
    exact ⟨td', hB'.cel (fun b b1 b2 k => hs b (by omega) k) hF⟩
theorem HiAt.cel {P : List (List Row)} (h : HiAt A S x π P) (hF : Fr S S' x (x + 467)) (hs : ∀ b, x + 329 ≤ b → b < x + 443 → ∀ k, gI S' b k = gI S b k ∧ gL S' b k = gL S b k ∧ gR S' b k = gR S b k) : HiAt A S' x π P := by
  obtain ⟨k1, r1, i1, l1, r2, ⟨p1, p2⟩, t1⟩ := h
  refine ⟨k1, (hs _ (by omega) (by omega) _).2.2.trans r1, (hs _ (by omega) (by omega) _).1.trans i1, l1, fun i hi => (hs _ (by omega) (by omega) _).2.2.trans (r2 i hi), ⟨p1, p2⟩, fun i hi => ?_⟩
  obtain ⟨T, h1, h2⟩ := t1 i hi
  have := p1 i hi
  exact ⟨T, h1.cel (fun b b1 b2 k => hs b (by omega) (by omega) k) hF, h2⟩
theorem pastN_len (h : (vPast V).length ≤ 16) : (pastN V).length ≤ 16 := by
  unfold pastN
  rw [List.length_append, List.length_singleton]
  split
  · rw [List.length_drop]; omega
  · omega
set_option maxRecDepth 20000 in
theorem ct_takeOverTrialBook {f : qS → Prop} (hk : A.1 x = some (9, 0)) (r8 : gR S x 8 = some bA) (r9 : gR S x 9 = some bB) (hf : f (uR (uR S x 8 (some bB)) x 9 (some bA))) : Run (d + 1) 72 [.ref x] A S (kV A f) := by
  refine Run.i (C := mX9_takeOverTrialBook) rfl rfl rfl fun J hJ => ?_
  refine sX9_takeOverTrialBook_0 hJ ⟨hk, bA, r8, hk, bB, r9, hk, fun S1 e1 => ⟨hk, fun S2 e2 => ?_⟩⟩
  subst e1 e2
  exact kV_i hf
set_option maxRecDepth 20000 in
theorem ct_actByTrial {T : List Row} {f : Bool → qS → Prop} (h : XP A S x V tA tB nA nB bA bB π) (hv : vOk V) (hT : TrAt A S nB 24 T) (hvT : vT T) (hf0 : shortT (lw (vLed V)) 999 T = true → ∀ S', XP A S' x V tA tB nA nB bA bB π → Fr S S' x (x + 467) → f false S') (hf : shortT (lw (vLed V)) 999 T = false → ∀ S' π', XP A S' x (setT (upV V T (pastN V) (vImg V)) 0) tA tB nB nA bB bA π' → Fr S S' x (x + 467) → f true S') : Run (d + 6) 122 [.ref x] A S (kZ A f) := by
  refine Run.i (C := mX9_actByTrial) rfl rfl rfl fun J hJ => ?_
  have hk := h.1.1
  have hD := h.2.2.1
  obtain ⟨d1, d2, d3, d4, d5⟩ := hD
  refine sX9_actByTrial_0 hJ ⟨hk, bB, h.r9, hk, nB, h.r7, hk, tA, h.r4, h.td.1.1, h.tb.k, wc rfl, ?_⟩
  rw [h.tw]
  refine ct_bookTrial h hT (by omega) hvT fun S1 h1 b1 t1 f1 => ?_
  have F1 := h.frB f1
  cases c : shortT (lw (vLed V)) 999 T
  · rw [c] at hf b1
    have hl := hv.2.2.2.2.1
    refine ⟨fun _ => ⟨hk, x + 329, h1.2.1.1.2.2.2.2.2.2.2.2.1, hk, nA, h1.r6, h1.1.2.2.2.1, wc rfl, ct_keep (h1.hi hl) h1.now (by omega) fun S2 π' h2 f2 => ?_⟩, fun z => absurd z (by decide)⟩
    have gx : ∀ k, gR S2 x k = gR S1 x k := fun k => (f2 x (by omega) k).2.2
    refine ⟨hk, nA, (gx 6).trans h1.r6, hk, nB, (gx 7).trans h1.r7, hk, fun S3 e3 => ⟨hk, fun S4 e4 => ⟨hk, wc rfl, ct_takeOverTrialBook (bA := bA) (bB := bB) hk ?_ ?_ ⟨hk, fun S5 e5 => ⟨Or.inr rfl, kZ_1 (hf rfl S5 π' ?_ ?_)⟩⟩⟩⟩⟩
    · rw [e4, gR_uR, if_neg (by omega), e3, gR_uR, if_neg (by omega)]; exact (gx 8).trans h1.r8
    · rw [e4, gR_uR, if_neg (by omega), e3, gR_uR, if_neg (by omega)]; exact (gx 9).trans h1.r9
    · have eI : ∀ b k, ¬ (b = x ∧ k = 14) → gI S5 b k = gI S2 b k := by
        intro b k n
        rw [e5, gI_uI, if_neg n, gI_uR, gI_uR, e4, gI_uR, e3, gI_uR]
      have eL : ∀ b k, gL S5 b k = gL S2 b k := by
        intro b k
        rw [e5, gL_uI, gL_uR, gL_uR, e4, gL_uR, e3, gL_uR]
      have eR : ∀ b k, ¬ (b = x ∧ (k = 6 ∨ k = 7 ∨ k = 8 ∨ k = 9)) → gR S5 b k = gR S2 b k := by
        intro b k n
        rw [e5, gR_uI, gR_uR, if_neg (by omega), gR_uR, if_neg (by omega), e4, gR_uR, if_neg (by omega), e3, gR_uR, if_neg (by omega)]
      have s2 : ∀ b, ¬ b = x → ∀ k, gI S5 b k = gI S2 b k ∧ gL S5 b k = gL S2 b k ∧ gR S5 b k = gR S2 b k := fun b hb k => ⟨eI b k (by omega), eL b k, eR b k (by omega)⟩
      have s1 : ∀ b, ¬ b = x → (b < x + 329 ∨ x + 443 ≤ b) → ∀ k, gI S5 b k = gI S1 b k ∧ gL S5 b k = gL S1 b k ∧ gR S5 b k = gR S1 b k := fun b hb hc k => ⟨(s2 b hb k).1.trans (f2 b (by omega) k).1, (s2 b hb k).2.1.trans (f2 b (by omega) k).2.1, (s2 b hb k).2.2.trans (f2 b (by omega) k).2.2⟩
      have F25 : Fr S2 S5 x (x + 467) := fun b hb k => s2 b (by omega) k
      have F15 : Fr S1 S5 x (x + 467) := (f2.wide (by omega) (by omega)).trans F25
      obtain ⟨i1, i2, i3, i4, i5, i6, i7, i8, i9⟩ := h1.2.2.2.1
      refine h1.gen F15 (fun b hb k => s1 b (by omega) (by omega) k) ⟨(eR x 0 (by omega)).trans (gx 0), (eR x 2 (by omega)).trans (gx 2), (eR x 4 (by omega)).trans (gx 4), (eR x 5 (by omega)).trans (gx 5), (eR x 10 (by omega)).trans (gx 10), (eR x 11 (by omega)).trans (gx 11), (eR x 13 (by omega)).trans (gx 13)⟩ ?_ ?_ ?_ ?_ ⟨by omega, by omega⟩ rfl rfl ⟨fun k hk => ?_, ?_, ?_, ?_, ?_, ?_, fun z => absurd (show (0 : Int32) = 4 from z) (by decide), fun _ => rfl, ?_⟩ (h2.cel F25 fun b b1 b2 k => s2 b (by omega) k) (t1.cel (fun b b1 b2 k => s1 b (by omega) (by omega) k) F15) ⟨_, h1.now.cel (fun b b1 b2 k => s1 b (by omega) (by omega) k) F15⟩ ((b1 rfl).cel (fun b b1 b2 k => s1 b (by omega) (by omega) k) F15) (h1.bk.any.cel (fun b b1 b2 k => s1 b (by omega) (by omega) k) F15)
      · rw [e5, gR_uI, gR_uR, if_neg (by omega), gR_uR, if_neg (by omega), e4, gR_uR, if_neg (by omega), e3, gR_uR, if_pos ⟨rfl, rfl⟩]
      · rw [e5, gR_uI, gR_uR, if_neg (by omega), gR_uR, if_neg (by omega), e4, gR_uR, if_pos ⟨rfl, rfl⟩]
      · rw [e5, gR_uI, gR_uR, if_neg (by omega), gR_uR, if_pos ⟨rfl, rfl⟩]
      · rw [e5, gR_uI, gR_uR, if_pos ⟨rfl, rfl⟩]
      · exact (s1 _ (by omega) (by omega) k).1.trans (i1 k hk)
      · exact ((eI x 1 (by omega)).trans (f2 x (by omega) 1).1).trans i2
      · exact ((eI x 3 (by omega)).trans (f2 x (by omega) 3).1).trans i3
      · exact ((eI x 12 (by omega)).trans (f2 x (by omega) 12).1).trans i4
      · rw [e5, gI_uI, if_pos ⟨rfl, rfl⟩]; rfl
      · exact ((eI x 15 (by omega)).trans (f2 x (by omega) 15).1).trans i6
      · exact (eI _ _ (by omega)).trans h2.2.2.1
    · have F2 : Fr S1 S2 x (x + 467) := f2.wide (by omega) (by omega)
      rw [e5, e4, e3]
      exact (F1.trans F2).trans (((((Fr.rf.uR (by omega) (by omega)).uR (by omega) (by omega)).uR (by omega) (by omega)).uR (by omega) (by omega)).uI (by omega) (by omega))
  · exact ⟨fun z => absurd rfl z, fun _ => ⟨Or.inl rfl, kZ_0 (hf0 c S1 h1 F1)⟩⟩
end
