/-! feed -/
theorem bvs (v : BitVec 32) (s : Nat) (hs : s ≤ 24) : (v >>> s).signExtend 8 = (v.sshiftRight s).signExtend 8 := by
  ext i hi
  rw [BitVec.getElem_signExtend, BitVec.getElem_signExtend, dif_pos (show i < 32 by omega), dif_pos (show i < 32 by omega), BitVec.getElem_ushiftRight, BitVec.getElem_sshiftRight, dif_pos (show s + i < 32 by omega)]
  exact BitVec.getLsbD_eq_getElem (by omega)
theorem shb1 (v a b c : Int32) (s : Nat) (hs : s ≤ 24) (h1 : ((b.toUInt32 &&& c.toUInt32).toBitVec % 32).toNat = s) (h2 : (a.toBitVec.smod 32).toNat = s) : ((v.toUInt32 >>> (b.toUInt32 &&& c.toUInt32)).toInt32).toInt8 = (v >>> a).toInt8 := by
  apply Int8.toBitVec_inj.mp
  rw [Int32.toBitVec_toInt8, Int32.toBitVec_toInt8, UInt32.toBitVec_toInt32, UInt32.toBitVec_shiftRight, Int32.toBitVec_shiftRight, Int32.toBitVec_toUInt32]
  show (v.toBitVec >>> ((b.toUInt32 &&& c.toUInt32).toBitVec % 32).toNat).signExtend 8 = (v.toBitVec.sshiftRight (a.toBitVec.smod 32).toNat).signExtend 8
  rw [h1, h2]
  exact bvs _ _ hs
def shf (i : Nat) : Int32 := 24 - 8 * nI i
theorem shb (v : Int32) : ∀ i, i < 4 → (((v.toUInt32 >>> ((shf i).toUInt32 &&& Int32.toUInt32 31)).toInt32).toInt8.toInt32).toInt8.toInt32 = byV v i := by
  intro i hi
  have e : ((v.toUInt32 >>> ((shf i).toUInt32 &&& Int32.toUInt32 31)).toInt32).toInt8 = (v >>> ((24 - (8 * (nI i - nI i / 4 * 4))) &&& 31)).toInt8 := by
    rcases (show i = 0 ∨ i = 1 ∨ i = 2 ∨ i = 3 by omega) with e | e | e | e <;> subst e
    · exact shb1 v _ _ _ 24 (by omega) (by decide) (by decide)
    · exact shb1 v _ _ _ 16 (by omega) (by decide) (by decide)
    · exact shb1 v _ _ _ 8 (by omega) (by decide) (by decide)
    · exact shb1 v _ _ _ 0 (by omega) (by decide) (by decide)
  unfold byV
  rw [e]
theorem byV4 (v : Int32) (i : Nat) (h : i < 20) : byV v i = byV v (i % 4) := by
  have e1 : nI i - nI i / 4 * 4 = nI (i % 4) := pk_rem (d := 4) (by omega) (by omega) (by omega)
  have e2 : nI (i % 4) - nI (i % 4) / 4 * 4 = nI (i % 4 % 4) := pk_rem (d := 4) (by omega) (by omega) (by omega)
  unfold byV
  rw [e1, e2, Nat.mod_mod]
/-- k bytes more on the tape, from n on -/
def FdS (S S' : qS) (x n : Nat) (g : Nat → Int32) (k : Nat) : Prop := (∀ b j, gI S' b j = if b = x + 1 ∧ n ≤ j ∧ j < n + k then g (j - n) else if b = x ∧ j = 1 then nI (n + k) else gI S b j) ∧ (∀ b j, gL S' b j = gL S b j) ∧ ∀ b j, gR S' b j = gR S b j
theorem FdS.trans {S S1 S2 : qS} {x n k k' : Nat} {g g' : Nat → Int32} (h1 : FdS S S1 x n g k) (h2 : FdS S1 S2 x (n + k) g' k') : FdS S S2 x n (fun i => if i < k then g i else g' (i - k)) (k + k') := by
  refine ⟨fun b j => ?_, fun b j => (h2.2.1 b j).trans (h1.2.1 b j), fun b j => (h2.2.2 b j).trans (h1.2.2 b j)⟩
  rw [h2.1, h1.1]
  dsimp only
  by_cases c1 : b = x + 1 ∧ n + k ≤ j ∧ j < n + k + k'
  · rw [if_pos c1, if_pos ⟨c1.1, by omega, by omega⟩, if_neg (by omega), show j - n - k = j - (n + k) by omega]
  · rw [if_neg c1]
    by_cases c2 : b = x ∧ j = 1
    · rw [if_pos c2, if_neg (by omega), if_pos c2, Nat.add_assoc]
    · rw [if_neg c2, if_neg c2, if_neg c2]
      by_cases c3 : b = x + 1 ∧ n ≤ j ∧ j < n + k
      · rw [if_pos c3, if_pos ⟨c3.1, by omega, by omega⟩, if_pos (by omega)]
      · rw [if_neg c3, if_neg (by omega)]
section
variable {d : Nat} {A : qA} {S S' : qS} {x : Nat} {V V' : VSt} {tA tB nA nB bA bB : Nat} {π : Nat → Nat}
set_option maxRecDepth 20000 in
theorem ct_putOnTape {n : Nat} {a : Int32} {f : qS → Prop} (hk : A.1 x = some (9, 0)) (r0 : gR S x 0 = some (x + 1)) (k1 : A.1 (x + 1) = some (12, 900)) (c1 : gI S x 1 = nI n) (hn : n + 4 ≤ 900) (hf : ∀ S', FdS S S' x n (byV a) 4 → f S') : Run (d + 1) 68 [.ref x, .int a] A S (kV A f) := by
  refine Run.i (C := mX9_putOnTape) rfl rfl rfl fun J hJ => ?_
  have loop : ∀ m i (Sj : qS), i + m = 4 → FdS S Sj x n (byV a) i → J 3 [some (.ref x), some (.int a), some (.int (shf i))] [] A Sj := by
    intro m
    induction m with
    | zero =>
      intro i Sj hi h
      have e : i = 4 := by omega
      subst e
      exact sX9_putOnTape_3 hJ ⟨fun _ => kV_i (hf Sj h), fun z => absurd (by decide) z⟩
    | succ m ih =>
      intro i Sj hi h
      have s0 : ¬ shf i < 0 := by
        rcases (show i = 0 ∨ i = 1 ∨ i = 2 ∨ i = 3 by omega) with e | e | e | e <;> subst e <;> decide
      have s1 : shf i + (-8) = shf (i + 1) := by
        rcases (show i = 0 ∨ i = 1 ∨ i = 2 ∨ i = 3 by omega) with e | e | e | e <;> subst e <;> decide
      have c2 : gI Sj x 1 = nI (n + i) := by
        by_cases e : i = 0
        · rw [h.1, if_neg (by omega), if_pos ⟨rfl, rfl⟩]
        · rw [h.1, if_neg (by omega), if_pos ⟨rfl, rfl⟩]
      refine sX9_putOnTape_3 hJ ⟨fun z => absurd z s0, fun _ => ⟨hk, ?_⟩⟩
      rw [c2, cl_n (by omega), shb a i (by omega), s1]
      refine ⟨fun z => absurd ((nIle (a := 900) (by omega) (by omega)).1 z) (by omega), fun _ => ⟨hk, x + 1, (h.2.2 _ _).trans r0, hk, 900, k1, vp_n (by omega) (by omega), fun S3 e3 => ⟨hk, hk, fun S4 e4 => ih (i + 1) S4 (by omega) ?_⟩⟩⟩
      have c3 : gI S3 x 1 = nI (n + i) := by rw [e3, gI_uI, if_neg (by omega)]; exact c2
      rw [c3, nI_1] at e4
      refine ⟨fun b j => ?_, fun b j => by rw [e4, e3]; exact h.2.1 b j, fun b j => by rw [e4, e3]; exact h.2.2 b j⟩
      rw [e4, gI_uI, e3, gI_uI]
      by_cases q1 : b = x ∧ j = 1
      · rw [if_pos q1, if_neg (by omega), if_pos q1, Nat.add_assoc]
      · rw [if_neg q1]
        by_cases q2 : b = x + 1 ∧ j = n + i
        · rw [if_pos q2, if_pos ⟨q2.1, by omega, by omega⟩, show j - n = i by omega]
        · rw [if_neg q2, h.1, if_neg q1, if_neg q1]
          by_cases q3 : b = x + 1 ∧ n ≤ j ∧ j < n + i
          · rw [if_pos q3, if_pos ⟨q3.1, by omega, by omega⟩]
          · rw [if_neg q3, if_neg (by omega)]
  refine sX9_putOnTape_0 hJ ?_
  have := loop 4 0 S (by omega) ⟨fun b j => by
    by_cases q : b = x ∧ j = 1
    · rw [if_neg (by omega), if_pos q, q.1, q.2, c1, Nat.add_zero]
    · rw [if_neg (by omega), if_neg q], fun _ _ => rfl, fun _ _ => rfl⟩
  exact this
/-- what changed: the head, the tape, the reader, what is told beside, the trial -/
theorem XP.up3 (h : XP A S x V tA tB nA nB bA bB π) (hF : Fr S S' x (x + 467)) (hs : ∀ b, x + 2 < b → ¬ (tB ≤ b ∧ b < tB + 12) → ¬ (nB ≤ b ∧ b < nB + 7) → ¬ (bB ≤ b ∧ b < bB + 144) → ∀ k, gI S' b k = gI S b k ∧ gL S' b k = gL S b k ∧ gR S' b k = gR S b k) (hR : ∀ k, gR S' x k = gR S x k) (e0 : vLed V' = vLed V) (e1 : vNow V' = vNow V) (e2 : vPast V' = vPast V) (e3 : vImg V' = vImg V) (hI : XI S' x V') (hW : ∃ td', TdAt A S' tB td') (hT : ∃ T, TrAt A S' nB 24 T) (hB : BA A S' bB) : XP A S' x V' tA tB nA nB bA bB π := by
  obtain ⟨hK, hX, hD, -, hXT, hQ, hA, -, hN, -, hb, -⟩ := h
  have hD' := hD
  obtain ⟨d1, d2, d3, d4, d5⟩ := hD'
  obtain ⟨⟨f1, f2, f3, f4, f5, f6, f7, f8, f9, f10, f11⟩, f12, f13, f14, f15⟩ := hX
  have el : ldV V' = ldV V := by unfold ldV; rw [e0]
  have ew : lw (vLed V') = lw (vLed V) := by rw [e0]
  have hs' : ∀ b, x + 2 < b → (b < x + 27 → ¬ (tB ≤ b ∧ b < tB + 12)) → ¬ (nB ≤ b ∧ b < nB + 7) → ¬ (bB ≤ b ∧ b < bB + 144) → ∀ k, gI S' b k = gI S b k ∧ gL S' b k = gL S b k ∧ gR S' b k = gR S b k := fun b b1 b2 b3 b4 k => hs b b1 (by omega) b3 b4 k
  refine ⟨hK, ⟨⟨(hR _).trans f1, (hR _).trans f2, (hR _).trans f3, (hR _).trans f4, (hR _).trans f5, (hR _).trans f6, (hR _).trans f7, (hR _).trans f8, (hR _).trans f9, (hR _).trans f10, (hR _).trans f11⟩, (hs (x + 329) (by omega) (by omega) (by omega) (by omega) _).2.2.trans f12, (hs (x + 444) (by omega) (by omega) (by omega) (by omega) _).2.2.trans f13, fun i hi => (hs (x + 443) (by omega) (by omega) (by omega) (by omega) _).2.2.trans (f14 i hi), fun i hi => (hs (x + 330) (by omega) (by omega) (by omega) (by omega) _).2.2.trans (f15 i hi)⟩, hD, hI, hXT.cel d4 hF (fun b b1 b2 k => hs b (by omega) (by omega) (by omega) (by omega) k) e2 e3, ?_, ?_, hW, ?_, hT, ?_, hB⟩
  · rw [el]
    obtain ⟨b, g1, g2⟩ := hQ
    refine ⟨b, (hs (x + 444) (by omega) (by omega) (by omega) (by omega) _).1.trans g1, fun c => ⟨(hs (x + 444) (by omega) (by omega) (by omega) (by omega) _).1.trans (g2 c).1, fun i hi => (hs (x + 445) (by omega) (by omega) (by omega) (by omega) _).1.trans ((g2 c).2 i hi)⟩⟩
  · rw [el]
    exact hA.cel (fun b b1 b2 k => hs b (by omega) (by omega) (by omega) (by omega) k) hF
  · rw [e1]
    exact hN.cel (fun b b1 b2 k => hs b (by omega) (by omega) (by omega) (by omega) k) hF
  · rw [ew, e1]
    exact hb.cel (fun b b1 b2 k => hs b (by omega) (by omega) (by omega) (by omega) k) hF
theorem FdS.c1 {n k : Nat} {g : Nat → Int32} (h : FdS S S' x n g k) : gI S' x 1 = nI (n + k) := by rw [h.1, if_neg (by omega), if_pos ⟨rfl, rfl⟩]
set_option maxRecDepth 20000 in
theorem ct_feed {a b c d' e : Int32} {f : Int32 → qS → Prop} (h : XAt A S x V) (hv : vOk V) (hf : ∀ S', XAt A S' x (uFeed V a b c d' e).1 → Fr S S' x (x + 467) → f (uFeed V a b c d' e).2 S') : Run (d + 2) 67 [.ref x, .int a, .int b, .int c, .int d', .int e] A S (kI A f) := by
  refine Run.i (C := mX9_feed) rfl rfl rfl fun J hJ => ?_
  have h' := h
  obtain ⟨tA, tB, nA, nB, bA, bB, π, h⟩ := h
  have hk := h.1.1
  have k1 := h.1.2.1
  have r0 := h.2.1.1.1
  have hn9 := hv.2.2.2.2.2.2.2
  obtain ⟨i1, i2, i3, i4, i5, i6, i7, i8, i9⟩ := h.2.2.2.1
  obtain ⟨d1, d2, d3, d4, d5⟩ := h.2.2.1
  have e20 : nI (vN V) + 20 = nI (vN V + 20) := nI_add _ 20
  refine sX9_feed_0 hJ ⟨hk, ?_⟩
  rw [i2, e20, show (900 : Int32) = nI 900 from rfl, nIle (by omega) (by omega)]
  unfold uFeed at hf
  refine ⟨fun z => ?_, fun z => ?_⟩
  · rw [if_pos z] at hf
    refine ⟨hk, wc rfl, ct_putOnTape hk r0 k1 i2 (by omega) fun S1 g1 => ⟨hk, wc rfl, ct_putOnTape hk ((g1.2.2 _ _).trans r0) k1 g1.c1 (by omega) fun S2 g2 => ?_⟩⟩
    have g12 := g1.trans g2
    refine ⟨hk, wc rfl, ct_putOnTape hk ((g12.2.2 _ _).trans r0) k1 g12.c1 (by omega) fun S3 g3 => ?_⟩
    have g13 := g12.trans g3
    refine ⟨hk, wc rfl, ct_putOnTape hk ((g13.2.2 _ _).trans r0) k1 g13.c1 (by omega) fun S4 g4 => ?_⟩
    have g14 := g13.trans g4
    refine ⟨hk, wc rfl, ct_putOnTape hk ((g14.2.2 _ _).trans r0) k1 g14.c1 (by omega) fun S5 g5 => ⟨hk, ?_⟩⟩
    have g15 := g14.trans g5
    have e1 : gI S5 x 1 = nI (vN V + 20) := g15.c1
    rw [e1]
    have fr : Fr S S5 x (x + 467) := fun b hb j => ⟨by rw [g15.1, if_neg (by omega), if_neg (by omega)], g15.2.1 b j, g15.2.2 b j⟩
    have same : ∀ b, ¬ b = x + 1 → ∀ j, ¬ (b = x ∧ j = 1) → gI S5 b j = gI S b j := fun b hb j hj => by rw [g15.1, if_neg (by omega), if_neg hj]
    have hs : ∀ b, x + 2 < b → ∀ k, gI S5 b k = gI S b k ∧ gL S5 b k = gL S b k ∧ gR S5 b k = gR S b k := fun b hb k => ⟨same b (by omega) k (by omega), g15.2.1 b k, g15.2.2 b k⟩
    obtain ⟨td', hW⟩ := h.2.2.2.2.2.2.2.1
    obtain ⟨T, hT⟩ := h.2.2.2.2.2.2.2.2.2.1
    refine kI_i (hf S5 ⟨tA, tB, nA, nB, bA, bB, π, h.up3 (V' := setTp V (tpF V a b c d' e 20) (vN V + 20)) fr (fun b hb _ _ _ k => hs b hb k) (fun k => g15.2.2 x k) rfl rfl rfl rfl ⟨fun j hj => ?_, e1, (same _ (by omega) _ (by omega)).trans i3, (same _ (by omega) _ (by omega)).trans i4, (same _ (by omega) _ (by omega)).trans i5, (same _ (by omega) _ (by omega)).trans i6, fun q => (same _ (by omega) _ (by omega)).trans (i7 q), i8, (same _ (by omega) _ (by omega)).trans i9⟩ ⟨td', hW.cel (fun b b1 b2 k => hs b (by omega) k) fr⟩ ⟨T, hT.cel (fun b b1 b2 k => hs b (by omega) k) fr⟩ (h.tb.cel (fun b b1 b2 k => hs b (by omega) k) fr)⟩ fr)
    show gI S5 (x + 1) j = tpF V a b c d' e 20 j
    unfold tpF
    rw [g15.1]
    by_cases q : vN V ≤ j ∧ j < vN V + 20
    · rw [if_pos ⟨rfl, q.1, q.2⟩, if_pos q]
      obtain ⟨i, hi⟩ : ∃ i, i = j - vN V := ⟨_, rfl⟩
      rw [← hi]
      have hi20 : i < 20 := by omega
      unfold byW
      dsimp only
      clear hi g15 g14 g13 g12 g1 g2 g3 g4 g5 q
      by_cases q16 : 16 ≤ i
      · rw [if_pos q16, if_neg (by omega), byV4 e i hi20, byV4 e (i - (4 + 4 + 4 + 4)) (by omega), show (i - (4 + 4 + 4 + 4)) % 4 = i % 4 by omega]
      · rw [if_neg q16, if_pos (by omega)]
        by_cases q12 : 12 ≤ i
        · rw [if_pos q12, if_neg (by omega), byV4 d' i hi20, byV4 d' (i - (4 + 4 + 4)) (by omega), show (i - (4 + 4 + 4)) % 4 = i % 4 by omega]
        · rw [if_neg q12, if_pos (by omega)]
          by_cases q8 : 8 ≤ i
          · rw [if_pos q8, if_neg (by omega), byV4 c i hi20, byV4 c (i - (4 + 4)) (by omega), show (i - (4 + 4)) % 4 = i % 4 by omega]
          · rw [if_neg q8, if_pos (by omega)]
            by_cases q4 : 4 ≤ i
            · rw [if_pos q4, if_neg (by omega), byV4 b i hi20, byV4 b (i - 4) (by omega), show (i - 4) % 4 = i % 4 by omega]
            · rw [if_neg q4, if_pos (by omega)]
    · rw [if_neg (by omega), if_neg (by omega), if_neg q]
      exact i1 j hj
  · rw [if_neg z] at hf
    exact kI_i (hf S h' Fr.rf)
end
