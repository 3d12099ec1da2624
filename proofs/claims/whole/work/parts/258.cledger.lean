/-! the class's call ledger -/
section
variable {d : Nat} {A : qA} {S S' : qS} {x : Nat} {V V' : VSt} {tA tB nA nB bA bB : Nat} {π : Nat → Nat}
set_option maxRecDepth 20000 in
theorem ct_refuseText {u v : Int32} {f : Int32 → qS → Prop} (hk : A.1 x = some (9, 0)) (hf : f (-1) (uI (uI (uI S x 15 u) x 16 v) x 14 4)) : Run (d + 2) 70 [.ref x, .int u, .int v] A S (kI A f) := by
  refine Run.i (C := mX9_refuseText) rfl rfl rfl fun J hJ => ?_
  refine sX9_refuseText_0 hJ ⟨hk, fun S1 e1 => ⟨hk, fun S2 e2 => ⟨hk, wc rfl, ?_⟩⟩⟩
  subst e1 e2
  refine Run.i (C := mX9_refuse) rfl rfl rfl fun J hJ => ?_
  refine sX9_refuse_0 hJ ⟨hk, fun T e => ?_⟩
  subst e
  exact kI_i (kI_i hf)
set_option maxRecDepth 20000 in
theorem ct_takeOverTold {T0 T : List Row} {f : qS → Prop} (hk : A.1 x = some (9, 0)) (r4 : gR S x 4 = some tA) (r5 : gR S x 5 = some tB) (r6 : gR S x 6 = some nA) (r8 : gR S x 8 = some bA) (r9 : gR S x 9 = some bB) (r10 : gR S x 10 = some (x + 329)) (k10 : A.1 (x + 329) = some (2, 0)) (r13 : gR S x 13 = some (x + 444)) (k13 : A.1 (x + 444) = some (1, 0)) (kt : A.1 tB = some (7, 0)) (rt : gR S tB 2 = some (tB + 1)) (hN : TrAt A S nA 24 T0) (hT : TrAt A S (tB + 1) 16 T) (hd : x < tB ∧ x < nA ∧ (nA + 7 ≤ tB + 1 ∨ tB + 8 ≤ nA)) (hf : ∀ S8, TrAt A S8 nA 24 T → Fr (uR (uR S x 5 (some tA)) x 4 (some tB)) S8 nA (nA + 7) → f (uI (uI (uI (uI (uR (uR S8 x 8 (some bB)) x 9 (some bA)) (x + 329) 1 0) x 12 0) (x + 444) 2 0) x 3 1)) : Run (d + 2) 71 [.ref x] A S (kV A f) := by
  refine Run.i (C := mX9_takeOverTold) rfl rfl rfl fun J hJ => ?_
  have fr : Fr S (uR (uR S x 5 (some tA)) x 4 (some tB)) x (x + 1) := (Fr.rf.uR (by omega) (by omega)).uR (by omega) (by omega)
  refine sX9_takeOverTold_0 hJ ⟨hk, tB, r5, hk, tA, r4, hk, fun S3 e3 => ⟨hk, fun S4 e4 => ?_⟩⟩
  subst e3 e4
  have g : ∀ k, ¬ k = 5 → ¬ k = 4 → gR (uR (uR S x 5 (some tA)) x 4 (some tB)) x k = gR S x k := fun k c1 c2 => by rw [gR_uR, if_neg (fun z => c2 z.2), gR_uR, if_neg (fun z => c1 z.2)]
  have hT16 := hT.2.2.2.1
  refine ⟨hk, nA, (g 6 (by decide) (by decide)).trans r6, hk, tB, by rw [gR_uR, if_pos ⟨rfl, rfl⟩], kt, tB + 1, (fr tB (by omega) 2).2.2.trans rt, hN.1.1, wc rfl, ct_copyFrom (hN.fr fr (by omega)) (hT.fr fr (by omega)) (by omega) (by omega) fun S8 h8 f8 => ?_⟩
  have g8 : ∀ k, ¬ k = 5 → ¬ k = 4 → gR S8 x k = gR S x k := fun k c1 c2 => (f8 x (by omega) k).2.2.trans (g k c1 c2)
  refine ⟨hk, wc rfl, ct_takeOverTrialBook (bA := bA) (bB := bB) hk ((g8 8 (by decide) (by decide)).trans r8) ((g8 9 (by decide) (by decide)).trans r9) ?_⟩
  refine ⟨hk, x + 329, ?_, k10, fun S11 e11 => ⟨hk, fun S12 e12 => ⟨hk, x + 444, ?_, k13, Or.inl rfl, fun S14 e14 => ⟨hk, Or.inr rfl, fun S15 e15 => ?_⟩⟩⟩⟩
  · rw [gR_uR, if_neg (by omega), gR_uR, if_neg (by omega)]
    exact (g8 10 (by decide) (by decide)).trans r10
  · rw [e12, gR_uI, e11, gR_uI, gR_uR, if_neg (by omega), gR_uR, if_neg (by omega)]
    exact (g8 13 (by decide) (by decide)).trans r13
  · rw [e15, e14, e12, e11]
    exact kV_i (hf S8 h8 f8)
set_option maxRecDepth 20000 in
set_option maxHeartbeats 2000000 in
theorem ct_ledger {y nu : Int32} {wd : Int64} {wr : Int32} {f : Int32 → qS → Prop} (h : XAt A S x V) (hv : vOk V) (hby : ∀ k, isBy (vTape V k)) (hf : ∀ S', XAt A S' x (uLed V y nu wd wr).1 → Fr S S' x (x + 467) → f (uLed V y nu wd wr).2 S') : Run (d + 10) 69 [.ref x, .int y] A S (kI A f) := by
  refine Run.i (C := mX9_ledger) rfl rfl rfl fun J hJ => ?_
  obtain ⟨tA, tB, nA, nB, bA, bB, π, h⟩ := h
  have hk := h.1.1
  have hn9 := hv.2.2.2.2.2.2.2
  obtain ⟨i1, i2, i3, i4, i5, i6, i7, i8, i9⟩ := h.2.2.2.1
  obtain ⟨d1, d2, d3, d4, d5⟩ := h.2.2.1
  have hX := h.2.1
  obtain ⟨⟨f1, f2, f3, f4, f5, f6, f7, f8, f9, f10, f11⟩, f12, f13, f14, f15⟩ := hX
  have bad2 : (y < 0 ∨ ¬ y ≤ nI (vN V)) → ∀ S', XP A S' x (setT V 2) tA tB nA nB bA bB π → Fr S S' x (x + 467) → kI A f (some (.int (-1))) A S' := by
    intro z S' h1 h2
    have e : uLed V y nu wd wr = (setT V 2, -1) := by
      unfold uLed
      rcases z with z | z
      · rw [if_pos z]
      · rw [if_neg z, ite_self]
    have := hf S'
    rw [e] at this
    exact kI_i (this h1.at h2)
  refine sX9_ledger_0 hJ ⟨fun z => ⟨hk, wc rfl, ct_refuse h (by decide) fun S' h1 h2 => bad2 (Or.inl z) S' h1 h2⟩, fun z => ⟨hk, ?_⟩⟩
  rw [i2]
  refine ⟨fun z1 => ⟨hk, fun S3 e3 => ?_⟩, fun z1 => ⟨hk, wc rfl, ct_refuse h (by decide) fun S' h1 h2 => bad2 (Or.inr z1) S' h1 h2⟩⟩
  obtain ⟨n, hn, en⟩ := nI_of2 (M := nI (vN V)) (nI_toInt (by omega)) z z1
  have hnn : n ≤ vN V := by
    rw [en] at z1
    exact (nIle (by omega) (by omega)).1 z1
  have ecl : y.toNatClampNeg = n := by rw [en, cl_n (by omega)]
  have eu : uLed V y nu wd wr = if (exR (txR (vTape V) n nu wd wr)).2.1 ≤ 0 then ((vTape V, 0, some (txR (vTape V) n nu wd wr).2.2, (txR (vTape V) n nu wd wr).2.2.2.1, [], [], 0, 0, -1), nI (txR (vTape V) n nu wd wr).2.2.2.1.length) else ((vTape V, 0, vLed V, vNow V, vPast V, vImg V, 4, (exR (txR (vTape V) n nu wd wr)).2.1, (exR (txR (vTape V) n nu wd wr)).2.2), -1) := by
    unfold uLed
    rw [if_neg z, if_pos z1, ecl]
  rw [eu] at hf
  have fo := txR_fo (tp := vTape V) (n := n) (nu := nu) (wd := wd) (wr := wr)
  have g3 : ∀ b k, ¬ (b = x ∧ k = 1) → gI S3 b k = gI S b k := fun b k c => by rw [e3, gI_uI, if_neg c]
  have r3 : ∀ b k, gR S3 b k = gR S b k := fun b k => by rw [e3, gR_uI]
  have l3 : ∀ b k, gL S3 b k = gL S b k := fun b k => by rw [e3, gL_uI]
  have s3 : ∀ b, ¬ b = x → ∀ k, gI S3 b k = gI S b k ∧ gL S3 b k = gL S b k ∧ gR S3 b k = gR S b k := fun b hb k => ⟨g3 b k (fun c => hb c.1), l3 b k, r3 b k⟩
  have fr3 : Fr S S3 x (x + 1) := by rw [e3]; exact Fr.rf.uI (by omega) (by omega)
  obtain ⟨tdB, hW⟩ := h.2.2.2.2.2.2.2.1
  obtain ⟨TB, hTB⟩ := h.2.2.2.2.2.2.2.2.2.1
  have hdR : Rd (x + 2) (x + 1) tB := by unfold Rd; omega
  rw [en]
  refine ⟨hk, x + 2, (r3 _ _).trans f2, hk, x + 1, (r3 _ _).trans f1, hk, tB, (r3 _ _).trans f4, h.1.2.2.1, wc rfl, ct_readText (tp := vTape V) (nu := nu) (wd := wd) (wr := wr) h.1.2.2.1 h.1.2.1 (by omega) (fun k hk' => (g3 _ _ (by omega)).trans (i1 k hk')) hby (by omega) hdR (hW.cel (fun b b1 b2 k => s3 b (by omega) k) fr3) fun b S7 h7 q7 => ?_⟩
  generalize txR (vTape V) n nu wd wr = R at h7 hf fo
  obtain ⟨h7a, h7b, h7T, h7i⟩ := h7
  have s7 : ∀ b, ¬ b = x → ¬ b = x + 2 → ¬ (tB ≤ b ∧ b < tB + 12) → ∀ k, gI S7 b k = gI S b k ∧ gL S7 b k = gL S b k ∧ gR S7 b k = gR S b k := fun b c1 c2 c3 k => ⟨(q7 b c2 c3 k).1.trans (s3 b c1 k).1, (q7 b c2 c3 k).2.1.trans (s3 b c1 k).2.1, (q7 b c2 c3 k).2.2.trans (s3 b c1 k).2.2⟩
  have x7r : ∀ k, gR S7 x k = gR S x k := fun k => (q7 x (by omega) (by omega) k).2.2.trans (r3 x k)
  have x7i : ∀ k, gI S7 x k = gI S3 x k := fun k => (q7 x (by omega) (by omega) k).1
  have x71 : gI S7 x 1 = 0 := by rw [x7i, e3, gI_uI, if_pos ⟨rfl, rfl⟩]
  have F7 : Fr S S7 x (x + 467) := fun b hb k => s7 b (by omega) (by omega) (by omega) k
  -- a text that is refused
  have bad : ∀ (u v : Int32) S8, (exR R).1.2.1 = 5 → u = (exR R).2.1 → v = (exR R).2.2 → (∀ b, ¬ b = x → ¬ b = x + 2 → ¬ (tB ≤ b ∧ b < tB + 12) → ¬ (bB ≤ b ∧ b < bB + 144) → ∀ k, gI S8 b k = gI S b k ∧ gL S8 b k = gL S b k ∧ gR S8 b k = gR S b k) → (∀ k, gR S8 x k = gR S x k) → (∀ k, gI S8 x k = gI S7 x k) → (∃ td', TdAt A S8 tB td') → BA A S8 bB → f (-1) (uI (uI (uI S8 x 15 u) x 16 v) x 14 4) := by
    intro u v S8 o eu' ev' s8 x8r x8i hW8 hB8
    rw [if_neg (fo.1 o)] at hf
    have gg : ∀ b k, ¬ (b = x ∧ (k = 14 ∨ k = 15 ∨ k = 16)) → gI (uI (uI (uI S8 x 15 u) x 16 v) x 14 4) b k = gI S8 b k := fun b k c => by rw [gI_uI, if_neg (by omega), gI_uI, if_neg (by omega), gI_uI, if_neg (by omega)]
    have F8 : Fr S (uI (uI (uI S8 x 15 u) x 16 v) x 14 4) x (x + 467) := fun b hb k => ⟨(gg b k (by omega)).trans (s8 b (by omega) (by omega) (by omega) (by omega) k).1, (s8 b (by omega) (by omega) (by omega) (by omega) k).2.1, (s8 b (by omega) (by omega) (by omega) (by omega) k).2.2⟩
    have F89 : Fr S8 (uI (uI (uI S8 x 15 u) x 16 v) x 14 4) x (x + 1) := fun b hb k => ⟨gg b k (by omega), rfl, rfl⟩
    have s9 : ∀ b, ¬ b = x → ∀ k, gI (uI (uI (uI S8 x 15 u) x 16 v) x 14 4) b k = gI S8 b k ∧ gL (uI (uI (uI S8 x 15 u) x 16 v) x 14 4) b k = gL S8 b k ∧ gR (uI (uI (uI S8 x 15 u) x 16 v) x 14 4) b k = gR S8 b k := fun b hb k => ⟨gg b k (fun c => hb c.1), rfl, rfl⟩
    have xi : ∀ k, ¬ (k = 14 ∨ k = 15 ∨ k = 16) → ¬ k = 1 → gI (uI (uI (uI S8 x 15 u) x 16 v) x 14 4) x k = gI S x k := fun k c c1 => (gg x k (fun z => c z.2)).trans ((x8i k).trans ((x7i k).trans (g3 x k (fun z => c1 z.2))))
    obtain ⟨td8, hW8⟩ := hW8
    refine hf _ ⟨tA, tB, nA, nB, bA, bB, π, h.up3 (V' := (vTape V, 0, vLed V, vNow V, vPast V, vImg V, 4, (exR R).2.1, (exR R).2.2)) F8 (fun b b1 b2 b3 b4 k => ?_) (fun k => x8r k) rfl rfl rfl rfl ⟨fun k hk' => ?_, ?_, ?_, ?_, ?_, ?_, fun _ => ?_, fun c => absurd rfl c, ?_⟩ ⟨td8, hW8.cel (fun b b1 b2 k => s9 b (by omega) k) F89⟩ ⟨TB, hTB.cel (fun b b1 b2 k => ?_) F8⟩ (hB8.cel (fun b b1 b2 k => s9 b (by omega) k) F89)⟩ F8
    · have := s8 b (by omega) (by omega) b2 b4 k
      exact ⟨(gg b k (by omega)).trans this.1, this.2.1, this.2.2⟩
    · exact (gg _ _ (by omega)).trans ((s8 _ (by omega) (by omega) (by omega) (by omega) k).1.trans (i1 k hk'))
    · exact (gg _ _ (by omega)).trans ((x8i 1).trans x71)
    · exact (xi 3 (by decide) (by decide)).trans i3
    · exact (xi 12 (by decide) (by decide)).trans i4
    · rw [gI_uI, if_pos ⟨rfl, rfl⟩]; rfl
    · rw [gI_uI, if_neg (by omega), gI_uI, if_neg (by omega), gI_uI, if_pos ⟨rfl, rfl⟩]; exact eu'
    · rw [gI_uI, if_neg (by omega), gI_uI, if_pos ⟨rfl, rfl⟩]; exact ev'
    · exact (gg _ _ (by omega)).trans ((s8 _ (by omega) (by omega) (by omega) (by omega) 1).1.trans i9)
    · have := s8 b (by omega) (by omega) (by omega) (by omega) k
      exact ⟨(gg b k (by omega)).trans this.1, this.2.1, this.2.2⟩
  refine And.symm (q_eqb (fun cb => ?_) (fun cb => ?_))
  · subst cb
    obtain ⟨o, e0, e1⟩ := h7a rfl
    refine ⟨hk, x + 2, (x7r 2).trans f2, h.1.2.2.1, hk, x + 2, (x7r 2).trans f2, h.1.2.2.1, hk, wc rfl, ct_refuseText hk (kI_i (bad _ _ S7 o e0 e1 (fun b c1 c2 c3 c4 k => s7 b c1 c2 c3 k) x7r (fun _ => rfl) ⟨_, h7T.2⟩ (h.tb.cel (fun b b1 b2 k => s7 b (by omega) (by omega) (by omega) k) F7)))⟩
  · subst cb
    obtain ⟨o1, o2, o3⟩ := h7b rfl
    have tT := h7T.2.2.2.1
    have hpt := h7i.1
    have ex2R : ex2 R.2.1 R.1 = R.1 := by rw [ex2, o3, if_pos rfl, ex1, if_pos o1]
    have n5 : ¬ R.1.1.2.1 = 5 := by rw [o1]; decide
    refine ⟨hk, bB, (x7r 9).trans f8, hk, tB, (x7r 5).trans f4, h7T.2.1.1, tB + 1, h7T.2.2.1.1, hk, tB, (x7r 5).trans f4, h7T.2.1.1, h.tb.k, wc rfl, ?_⟩
    rw [h7T.2.2.2.2.1]
    refine ct_book (h.tb.cel (fun b b1 b2 k => s7 b (by omega) (by omega) (by omega) k) F7) tT hpt.2.1 (by omega) fun S8 h8 b8 F8 => ?_
    have s8 : ∀ b, ¬ (bB ≤ b ∧ b < bB + 144) → ∀ k, gI S8 b k = gI S7 b k ∧ gL S8 b k = gL S7 b k ∧ gR S8 b k = gR S7 b k := fun b hb k => F8 b (by omega) k
    have T8 : TdF A S8 tB R.2.1 R.2.2 := h7T.cel (fun b b1 b2 k => s8 b (by omega) k) F8
    cases cs : shortT R.2.2.1 999 R.2.2.2.1
    · -- taken over
      have eR : exR R = R.1 := by rw [exR, ex2R, ex3, if_neg n5, if_neg (by rw [cs]; decide)]
      have f0 : R.1.2.1 = 0 := by
        have := fo.2 (by rw [eR]; exact n5)
        rwa [eR] at this
      rw [eR, f0, if_pos (by decide)] at hf
      have bn8 := b8 cs
      refine ⟨fun _ => ⟨hk, wc rfl, ct_takeOverTold (tA := tA) (tB := tB) (nA := nA) (bA := bA) (bB := bB) (T0 := vNow V) (T := R.2.2.2.1) hk ?_ ?_ ?_ ?_ ?_ ?_ h.1.2.2.2.1 ?_ h.1.2.2.2.2.2.2.1 T8.2.1.1 T8.2.2.1.1 (h.now.cel (fun b b1 b2 k => ?_) ((F7.trans (F8.wide (by omega) (by omega))))) T8.2.2.2.1 (by omega) fun S9 h9 F9 => ?_⟩, fun c => absurd c (by decide)⟩
      · exact (s8 x (by omega) 4).2.2.trans ((x7r 4).trans f3)
      · exact (s8 x (by omega) 5).2.2.trans ((x7r 5).trans f4)
      · exact (s8 x (by omega) 6).2.2.trans ((x7r 6).trans f5)
      · exact (s8 x (by omega) 8).2.2.trans ((x7r 8).trans f7)
      · exact (s8 x (by omega) 9).2.2.trans ((x7r 9).trans f8)
      · exact (s8 x (by omega) 10).2.2.trans ((x7r 10).trans f9)
      · exact (s8 x (by omega) 13).2.2.trans ((x7r 13).trans f11)
      · have a1 := s8 b (by omega) k
        have a2 := s7 b (by omega) (by omega) (by omega) k
        exact ⟨a1.1.trans a2.1, a1.2.1.trans a2.2.1, a1.2.2.trans a2.2.2⟩
      · generalize eZ : uI (uI (uI (uI (uR (uR S9 x 8 (some bB)) x 9 (some bA)) (x + 329) 1 0) x 12 0) (x + 444) 2 0) x 3 1 = Z
        refine ⟨hk, fun Sa ea => ⟨hk, fun Sb eb => ⟨hk, nA, ?_, h.now.1.1, ?_⟩⟩⟩
        · rw [eb, gR_uI, ea, gR_uI, ← eZ, gR_uI, gR_uI, gR_uI, gR_uI, gR_uR, if_neg (by omega), gR_uR, if_neg (by omega), (F9 x (by omega) 6).2.2, gR_uR, if_neg (by omega), gR_uR, if_neg (by omega)]
          exact (s8 x (by omega) 6).2.2.trans ((x7r 6).trans f5)
        · -- the cells at the end
          have zi : ∀ b k, ¬ (b = x ∧ (k = 3 ∨ k = 12 ∨ k = 14 ∨ k = 15)) → ¬ (b = x + 329 ∧ k = 1) → ¬ (b = x + 444 ∧ k = 2) → gI Sb b k = gI S9 b k := by
            intro b k c1 c2 c3
            rw [eb, gI_uI, if_neg (by omega), ea, gI_uI, if_neg (by omega), ← eZ, gI_uI, if_neg (by omega), gI_uI, if_neg c3, gI_uI, if_neg (by omega), gI_uI, if_neg c2, gI_uR, gI_uR]
          have zl : ∀ b k, gL Sb b k = gL S9 b k := fun b k => by rw [eb, gL_uI, ea, gL_uI, ← eZ]; rfl
          have zr : ∀ b k, ¬ (b = x ∧ (k = 8 ∨ k = 9)) → gR Sb b k = gR S9 b k := by
            intro b k c
            rw [eb, gR_uI, ea, gR_uI, ← eZ, gR_uI, gR_uI, gR_uI, gR_uI, gR_uR, if_neg (by omega), gR_uR, if_neg (by omega)]
          have z9 : ∀ b, ¬ b = x → ¬ b = x + 329 → ¬ b = x + 444 → ∀ k, gI Sb b k = gI S9 b k ∧ gL Sb b k = gL S9 b k ∧ gR Sb b k = gR S9 b k := fun b c1 c2 c3 k => ⟨zi b k (by omega) (by omega) (by omega), zl b k, zr b k (by omega)⟩
          have z8 : ∀ b, ¬ b = x → ¬ (nA ≤ b ∧ b < nA + 7) → ∀ k, gI S9 b k = gI S8 b k ∧ gL S9 b k = gL S8 b k ∧ gR S9 b k = gR S8 b k := by
            intro b c1 c2 k
            obtain ⟨a1, a2, a3⟩ := F9 b (by omega) k
            refine ⟨a1, a2, a3.trans ?_⟩
            rw [gR_uR, if_neg (fun z => c1 z.1), gR_uR, if_neg (fun z => c1 z.1)]
          have zS : ∀ b, ¬ b = x → ¬ b = x + 2 → ¬ (tB ≤ b ∧ b < tB + 12) → ¬ (nA ≤ b ∧ b < nA + 7) → ¬ (bB ≤ b ∧ b < bB + 144) → ∀ k, gI S9 b k = gI S b k ∧ gL S9 b k = gL S b k ∧ gR S9 b k = gR S b k := by
            intro b c1 c2 c3 c4 c5 k
            have a1 := z8 b c1 c4 k
            have a2 := s8 b c5 k
            have a3 := s7 b c1 c2 c3 k
            exact ⟨a1.1.trans (a2.1.trans a3.1), a1.2.1.trans (a2.2.1.trans a3.2.1), a1.2.2.trans (a2.2.2.trans a3.2.2)⟩
          have zA : ∀ b, ¬ b = x → ¬ b = x + 2 → ¬ b = x + 329 → ¬ b = x + 444 → ¬ (tB ≤ b ∧ b < tB + 12) → ¬ (nA ≤ b ∧ b < nA + 7) → ¬ (bB ≤ b ∧ b < bB + 144) → ∀ k, gI Sb b k = gI S b k ∧ gL Sb b k = gL S b k ∧ gR Sb b k = gR S b k := by
            intro b c1 c2 c6 c7 c3 c4 c5 k
            have a1 := z9 b c1 c6 c7 k
            have a2 := zS b c1 c2 c3 c4 c5 k
            exact ⟨a1.1.trans a2.1, a1.2.1.trans a2.2.1, a1.2.2.trans a2.2.2⟩
          have FA : Fr S Sb x (x + 467) := fun b hb k => zA b (by omega) (by omega) (by omega) (by omega) (by omega) (by omega) (by omega) k
          have F8b : Fr S8 Sb x (x + 467) := by
            intro b hb k
            have a1 := z9 b (by omega) (by omega) (by omega) k
            have a2 := z8 b (by omega) (by omega) k
            exact ⟨a1.1.trans a2.1, a1.2.1.trans a2.2.1, a1.2.2.trans a2.2.2⟩
          have F9b : Fr S9 Sb x (x + 467) := fun b hb k => z9 b (by omega) (by omega) (by omega) k
          have x9 : ∀ k, ¬ k = 4 → ¬ k = 5 → gR S9 x k = gR S x k := by
            intro k c4 c5
            rw [(F9 x (by omega) k).2.2, gR_uR, if_neg (fun z => c4 z.2), gR_uR, if_neg (fun z => c5 z.2)]
            exact (s8 x (by omega) k).2.2.trans (x7r k)
          have N9 : TrAt A Sb nA 24 R.2.2.2.1 := h9.cel (fun b b1 b2 k => z9 b (by omega) (by omega) (by omega) k) F9b
          rw [show gI Sb nA 7 = nI R.2.2.2.1.length from N9.2.2.1.1]
          refine kI_i (hf Sb ⟨tB, tA, nA, nB, bB, bA, π, h.1, ⟨⟨?_, ?_, ?_, ?_, ?_, ?_, ?_, ?_, ?_, ?_, ?_⟩, ?_, ?_, fun i hi => ?_, fun i hi => ?_⟩, ⟨by omega, d2, by omega, d4, d5⟩, ⟨fun k hk' => ?_, ?_, ?_, ?_, ?_, ?_, fun c => absurd (show (0 : Int32) = 4 from c) (by decide), fun _ => rfl, ?_⟩, ⟨fun i hi => ?_, fun i hi => ?_⟩, ⟨false, ?_, fun c => by (cases c)⟩, T8.2.cel (fun b b1 b2 k => ?_) F8b, ⟨_, h.td.cel (fun b b1 b2 k => zA b (by omega) (by omega) (by omega) (by omega) (by omega) (by omega) (by omega) k) FA⟩, N9, ⟨TB, hTB.cel (fun b b1 b2 k => zA b (by omega) (by omega) (by omega) (by omega) (by omega) (by omega) (by omega) k) FA⟩, bn8.cel (fun b b1 b2 k => ?_) F8b, h.bk.any.cel (fun b b1 b2 k => zA b (by omega) (by omega) (by omega) (by omega) (by omega) (by omega) (by omega) k) FA⟩ FA)
          · exact (zr x 0 (by omega)).trans ((x9 0 (by decide) (by decide)).trans f1)
          · exact (zr x 2 (by omega)).trans ((x9 2 (by decide) (by decide)).trans f2)
          · rw [zr x 4 (by omega), (F9 x (by omega) 4).2.2, gR_uR, if_pos ⟨rfl, rfl⟩]
          · rw [zr x 5 (by omega), (F9 x (by omega) 5).2.2, gR_uR, if_neg (by omega), gR_uR, if_pos ⟨rfl, rfl⟩]
          · exact (zr x 6 (by omega)).trans ((x9 6 (by decide) (by decide)).trans f5)
          · exact (zr x 7 (by omega)).trans ((x9 7 (by decide) (by decide)).trans f6)
          · rw [eb, gR_uI, ea, gR_uI, ← eZ, gR_uI, gR_uI, gR_uI, gR_uI, gR_uR, if_neg (by omega), gR_uR, if_pos ⟨rfl, rfl⟩]
          · rw [eb, gR_uI, ea, gR_uI, ← eZ, gR_uI, gR_uI, gR_uI, gR_uI, gR_uR, if_pos ⟨rfl, rfl⟩]
          · exact (zr x 10 (by omega)).trans ((x9 10 (by decide) (by decide)).trans f9)
          · exact (zr x 11 (by omega)).trans ((x9 11 (by decide) (by decide)).trans f10)
          · exact (zr x 13 (by omega)).trans ((x9 13 (by decide) (by decide)).trans f11)
          · exact (zr _ _ (by omega)).trans ((zS (x + 329) (by omega) (by omega) (by omega) (by omega) (by omega) 0).2.2.trans f12)
          · exact (zr _ _ (by omega)).trans ((zS (x + 444) (by omega) (by omega) (by omega) (by omega) (by omega) 0).2.2.trans f13)
          · exact (zr _ _ (by omega)).trans ((zS (x + 443) (by omega) (by omega) (by omega) (by omega) (by omega) i).2.2.trans (f14 i hi))
          · exact (zr _ _ (by omega)).trans ((zS (x + 330) (by omega) (by omega) (by omega) (by omega) (by omega) i).2.2.trans (f15 i hi))
          · exact (zA (x + 1) (by omega) (by omega) (by omega) (by omega) (by omega) (by omega) (by omega) k).1.trans (i1 k hk')
          · rw [zi x 1 (by omega) (by omega) (by omega), (F9 x (by omega) 1).1, gI_uR, gI_uR, (s8 x (by omega) 1).1, x71]; rfl
          · rw [eb, gI_uI, if_neg (by omega), ea, gI_uI, if_neg (by omega), ← eZ, gI_uI, if_pos ⟨rfl, rfl⟩]; rfl
          · rw [eb, gI_uI, if_neg (by omega), ea, gI_uI, if_neg (by omega), ← eZ, gI_uI, if_neg (by omega), gI_uI, if_neg (by omega), gI_uI, if_pos ⟨rfl, rfl⟩]; rfl
          · rw [eb, gI_uI, if_pos ⟨rfl, rfl⟩]; rfl
          · rw [eb, gI_uI, if_neg (by omega), ea, gI_uI, if_pos ⟨rfl, rfl⟩]; rfl
          · rw [eb, gI_uI, if_neg (by omega), ea, gI_uI, if_neg (by omega), ← eZ, gI_uI, if_neg (by omega), gI_uI, if_neg (by omega), gI_uI, if_neg (by omega), gI_uI, if_pos ⟨rfl, rfl⟩]; rfl
          · obtain ⟨T, q1, q2⟩ := h.2.2.2.2.1.1 i hi
            have := d4 i hi
            exact ⟨T, q1.cel (fun b b1 b2 k => zA b (by omega) (by omega) (by omega) (by omega) (by omega) (by omega) (by omega) k) FA, fun c => absurd c (Nat.not_lt_zero _)⟩
          · obtain ⟨T, q1, q2⟩ := h.2.2.2.2.1.2 i hi
            exact ⟨T, q1.cel (fun b b1 b2 k => zA b (by omega) (by omega) (by omega) (by omega) (by omega) (by omega) (by omega) k) FA, fun c => absurd c (Nat.not_lt_zero _)⟩
          · rw [eb, gI_uI, if_neg (by omega), ea, gI_uI, if_neg (by omega), ← eZ, gI_uI, if_neg (by omega), gI_uI, if_pos ⟨rfl, rfl⟩]; rfl
          · have a1 := z9 b (by omega) (by omega) (by omega) k
            have a2 := z8 b (by omega) (by omega) k
            exact ⟨a1.1.trans a2.1, a1.2.1.trans a2.2.1, a1.2.2.trans a2.2.2⟩
          · have a1 := z9 b (by omega) (by omega) (by omega) k
            have a2 := z8 b (by omega) (by omega) k
            exact ⟨a1.1.trans a2.1, a1.2.1.trans a2.2.1, a1.2.2.trans a2.2.2⟩
    · -- some sell is short
      have eR : exR R = flw 7 R.1 := by rw [exR, ex2R, ex3, if_neg n5, if_pos cs]
      refine ⟨fun c => absurd rfl c, fun _ => ⟨hk, wc rfl, ct_refuseText hk (kI_i (bad 7 (nI n) S8 (by rw [eR]; exact flw_5) (by rw [eR, flw, if_neg n5]) (by rw [eR, flw, if_neg n5, o2]) (fun b c1 c2 c3 c4 k => ?_) (fun k => (s8 x (by omega) k).2.2.trans (x7r k)) (fun k => (s8 x (by omega) k).1) ⟨_, T8.2⟩ h8))⟩⟩
      have a2 := s8 b c4 k
      have a3 := s7 b c1 c2 c3 k
      exact ⟨a2.1.trans a3.1, a2.2.1.trans a3.2.1, a2.2.2.trans a3.2.2⟩
end
