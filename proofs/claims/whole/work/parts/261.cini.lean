/-! the class's constructors: objects one by one into an array; lots, book, history, sets that fit -/
def Lp (Q : qA → qS → Nat → Prop) (W c w : Nat) (A0 : qA) (S0 : qS) (q o i : Nat) (A : qA) (S : qS) : Prop := AOk A ∧ Ax A0 A ∧ A.2.1 = o + W * i ∧ A.2.2.1 = A0.2.2.1 + c * i ∧ A.2.2.2 = A0.2.2.2 + w * i ∧ (∀ j, j < i → Q A S (o + W * j) ∧ gR S q j = some (o + W * j)) ∧ (∀ b k, b < o → gI S b k = gI S0 b k ∧ gL S b k = gL S0 b k) ∧ (∀ b k, b < o → (b = q → ¬ k < i) → gR S b k = gR S0 b k) ∧ ∀ b k, o + W * i ≤ b → gI S b k = gI S0 b k ∧ gL S b k = gL S0 b k ∧ gR S b k = gR S0 b k
def Qst (Q : qA → qS → Nat → Prop) (W : Nat) : Prop := ∀ (A A' : qA) (S S' : qS) (a lo hi : Nat), Q A S a → Ax A A' → Same S S' a W → Fr S S' lo hi → Q A' S' a
theorem Lp.zero {Q : qA → qS → Nat → Prop} {W c w : Nat} {A0 : qA} {S0 : qS} {q o : Nat} (hA : AOk A0) (hn : A0.2.1 = o) : Lp Q W c w A0 S0 q o 0 A0 S0 := ⟨hA, Ax.rf, hn, rfl, rfl, fun i hi => absurd hi (Nat.not_lt_zero _), fun _ _ _ => ⟨rfl, rfl⟩, fun _ _ _ _ => rfl, fun _ _ _ => ⟨rfl, rfl, rfl⟩⟩
theorem Lp.step {Q : qA → qS → Nat → Prop} {W c w c1 w1 w2 u : Nat} {A0 A A1 A2 : qA} {S0 S S1 S2 S3 : qS} {q o i : Nat} (h : Lp Q W c w A0 S0 q o i A S) (hQs : Qst Q W) (hq : q < o) (hW : 1 ≤ W) (eA : A1 = newA A u 0 w1) (eS : S1 = uZ S A.2.1) (hc : Cn A1 S1 (o + W * i) W c1 w2 A2 S2) (hQ : Q A2 S2 (o + W * i)) (e3 : S3 = uR S2 q i (some A.2.1)) (ec : c = 1 + c1) (ew : w = w1 + w2) : Lp Q W c w A0 S0 q o (i + 1) A2 S3 := by
  obtain ⟨h1, h2, h4, h5, h6, h7, h8, h9, h10⟩ := h
  obtain ⟨n1, n2, n3, n4, n5, n6⟩ := hc
  have x1 : Ax A A1 := by rw [eA]; exact h1.ax
  have x2 := x1.trans n2
  have c11 : A1.2.2.1 = A.2.2.1 + 1 := by rw [eA]; rfl
  have s11 : A1.2.2.2 = A.2.2.2 + w1 := by rw [eA]; rfl
  have mW : W * (i + 1) = W * i + W := Nat.mul_succ W i
  have mc : c * (i + 1) = c * i + c := Nat.mul_succ c i
  have mw : w * (i + 1) = w * i + w := Nat.mul_succ w i
  rw [h4] at eS e3
  have gS : ∀ b k, (b < o + W * i ∨ o + W * i + W ≤ b) → gI S3 b k = gI S b k ∧ gL S3 b k = gL S b k ∧ (¬ (b = q ∧ k = i) → gR S3 b k = gR S b k) := by
    intro b k hb
    obtain ⟨w1', w2', w3'⟩ := n6 b (by omega) k
    rw [e3]
    refine ⟨by rw [gI_uR, w1', eS, gI_uZ, if_neg (by omega)], by rw [gL_uR, w2', eS, gL_uZ, if_neg (by omega)], fun z => by rw [gR_uR, if_neg z, w3', eS, gR_uZ, if_neg (by omega)]⟩
  have frS : Fr S S3 q (o + W * i + W) := fun b hb k => ⟨(gS b k (by omega)).1, (gS b k (by omega)).2.1, (gS b k (by omega)).2.2 (by omega)⟩
  have fr23 : Fr S2 S3 q (q + 1) := by rw [e3]; exact Fr.rf.uR (by omega) (by omega)
  refine ⟨n1, h2.trans x2, by rw [n3, mW]; omega, by rw [n4, c11, h5, mc]; omega, by rw [n5, s11, h6, mw]; omega, fun j hj => ?_, fun b k hb => ?_, fun b k hb hk => ?_, fun b k hb => ?_⟩
  · by_cases e : j = i
    · subst e
      refine ⟨hQs _ _ _ _ _ _ _ hQ Ax.rf (fun b b1 b2 k => fr23 b (by omega) k) fr23, ?_⟩
      rw [e3, gR_uR, if_pos ⟨rfl, rfl⟩]
    · obtain ⟨a1, a2⟩ := h7 j (by omega)
      have mj : W * j + W ≤ W * i := by
        rw [← Nat.mul_succ]
        exact Nat.mul_le_mul_left W (by omega)
      refine ⟨hQs _ _ _ _ _ _ _ a1 x2 (fun b b1 b2 k => ⟨(gS b k (by omega)).1, (gS b k (by omega)).2.1, (gS b k (by omega)).2.2 (by omega)⟩) frS, ?_⟩
      rw [(gS q j (by omega)).2.2 (by omega)]
      exact a2
  · exact ⟨(gS b k (by omega)).1.trans (h8 b k hb).1, (gS b k (by omega)).2.1.trans (h8 b k hb).2⟩
  · rw [(gS b k (by omega)).2.2 (fun z => hk z.1 (by omega))]
    exact h9 b k hb fun z => fun c => hk z (by omega)
  · rw [mW] at hb
    obtain ⟨w1', w2', w3'⟩ := h10 b k (by omega)
    exact ⟨(gS b k (by omega)).1.trans w1', (gS b k (by omega)).2.1.trans w2', ((gS b k (by omega)).2.2 (by omega)).trans w3'⟩
theorem Lp.fr {Q : qA → qS → Nat → Prop} {W c w : Nat} {A0 A : qA} {S0 S : qS} {q o i : Nat} (h : Lp Q W c w A0 S0 q o i A S) (hq : q < o) : Fr S0 S q (o + W * i) := by
  obtain ⟨h1, h2, h4, h5, h6, h7, h8, h9, h10⟩ := h
  intro b hb k
  by_cases c : b < q
  · exact ⟨(h8 b k (by omega)).1, (h8 b k (by omega)).2, h9 b k (by omega) (fun e => by omega)⟩
  · exact h10 b k (by omega)
def QL (A : qA) (_ : qS) (a : Nat) : Prop := A.1 a = some (3, 0)
def QT (A : qA) (S : qS) (a : Nat) : Prop := TrAt A S a 24 []
def QLo (A : qA) (S : qS) (a : Nat) : Prop := LoAt A S a []
theorem QL.st : Qst QL 1 := fun _ _ _ _ _ _ _ h e _ _ => e _ _ h
theorem QT.st : Qst QT 7 := fun _ _ _ _ _ _ _ h e hs hF => (TrAt.cel h hs hF).ax e
theorem LoAt.cel {A : qA} {S S' : qS} {a lo hi : Nat} {L : List Lot} (h : LoAt A S a L) (hs : Same S S' a 42) (hF : Fr S S' lo hi) : LoAt A S' a L := by
  obtain ⟨S1, f1, f2⟩ := hs.two hF
  obtain ⟨h1, π, h2⟩ := h
  exact ⟨h1, π, (h2.fr f1 (Or.inl (Nat.le_refl _))).fr f2 (Or.inr (Nat.le_refl _))⟩
theorem QLo.st : Qst QLo 42 := fun _ _ _ _ _ _ _ h e hs hF => (LoAt.cel h hs hF).ax e
theorem PiAt.cel {A : qA} {S S' : qS} {a lo hi : Nat} {G : List CPie} (h : PiAt A S a G) (hs : Same S S' a 11) (hF : Fr S S' lo hi) : PiAt A S' a G := by
  obtain ⟨S1, f1, f2⟩ := hs.two hF
  exact (h.fr f1 (Or.inl (Nat.le_refl _))).fr f2 (Or.inr (Nat.le_refl _))
section
variable {d : Nat} {A : qA} {S : qS} {a : Nat}
set_option maxRecDepth 20000 in
theorem ct_lotInit {f : qS → Prop} (hf : f S) : Run (d + 1) 23 [.ref a] A S (kV A f) := by
  refine Run.i (C := mX3_init) rfl rfl rfl fun J hJ => ?_
  exact sX3_init_0 hJ (kV_i hf)
set_option maxRecDepth 20000 in
theorem ct_loInit {f : qA → qS → Prop} (hN : Nw A S a 4) (hf : ∀ A' S', Cn A S a 42 41 280 A' S' → LoAt A' S' a [] → f A' S') : Run (d + 2) 24 [.ref a] A S (kVa (A.2.2.1 + 41) (A.2.2.2 + 280) f) := by
  refine Run.i (C := mX4_init) rfl rfl rfl fun J hJ => ?_
  obtain ⟨hA, hq, hn, hz⟩ := hN
  have caps : ∀ u b, u ≤ 41 → b ≤ 280 → A.2.2.1 + u ≤ A.2.2.1 + 41 ∧ A.2.2.2 + b ≤ A.2.2.2 + 280 := fun u b h1 h2 => by omega
  have e40 : (40 : Int32).toNatClampNeg = 40 := by decide
  refine sX4_init_0 hJ ?_
  rw [e40]
  have I := Iq.zero (S0 := S) (a := a) (kd := fun _ => (16, 40)) (rf := fun _ => 0) hA hn
  refine ⟨by decide, by decide, (caps 1 0 (by omega) (by omega)).1, (caps 0 40 (by omega) (by omega)).2, fun A1 T1 eA eS => ⟨by rw [eA]; exact (I.2.1.trans I.1.ax) _ _ hq, fun T2 eR => ?_⟩⟩
  have I := I.step (by omega) eA eS eR rfl rfl (by intro i hi; omega)
  have hI := I
  obtain ⟨i1, i2, i3, i4, i5, i6, i7, i8, i9⟩ := I
  have loop : ∀ g i A2 S2, i + g = 40 → Lp QL 1 1 6 A1 T2 (a + 1) (a + 2) i A2 S2 → J 15 [some (.ref a), some (.int (nI i))] [] A2 S2 := by
    intro g
    induction g with
    | zero =>
      intro i A2 S2 hi h
      have ei : i = 40 := by omega
      subst ei
      have hL := h
      obtain ⟨h1, h2, h4, h5, h6, h7, h8, h9, h10⟩ := h
      refine sX4_init_15 hJ ⟨fun _ => ?_, fun z => absurd (by decide) z⟩
      have fr0 : Fr S S2 a (a + 42) := ((hI.fr (by omega)).wide (Nat.le_refl _) (by omega)).trans ((hL.fr (by omega)).wide (by omega) (by omega))
      refine ⟨rfl, rfl, rfl, hf _ _ ⟨h1, i2.trans h2, by rw [h4], rfl, rfl, fr0⟩ ⟨⟨h2 _ _ (i2 _ _ hq), h2 _ _ (i6 0 (by omega)).1, fun j hj => ?_⟩, fun j => j, ?_, ?_, Nat.zero_le _, ⟨fun i hi => ⟨hi, ?_⟩, fun _ _ _ _ e => e⟩, fun i hi => absurd hi (Nat.not_lt_zero _)⟩⟩
      · have := (h7 j hj).1
        rw [Nat.one_mul] at this
        exact this
      · exact (h9 a 0 (by omega) (by omega)).trans (i6 0 (by omega)).2.1
      · exact (h8 a 1 (by omega)).1.trans ((i7 a 1 (by omega)).1.trans (hz 1).1)
      · have := (h7 i hi).2
        rw [Nat.one_mul] at this
        exact this
    | succ g ih =>
      intro i A2 S2 hi h
      have hL := h
      obtain ⟨h1, h2, h4, h5, h6, h7, h8, h9, h10⟩ := h
      have r0 : gR S2 a 0 = some (a + 1) := (h9 a 0 (by omega) (by omega)).trans (i6 0 (by omega)).2.1
      refine sX4_init_15 hJ ⟨fun z => absurd ((nIle (a := 40) (by omega) (by omega)).1 z) (by omega), fun _ => ⟨h2 _ _ (i2 _ _ hq), a + 1, r0, ?_, ?_, fun A3 S3 eA3 eS3 => ⟨wc rfl, ct_lotInit ⟨40, ?_, vp_n (by omega) (by omega), ?_, fun S4 e4 => ?_⟩⟩⟩⟩
      · rw [h5, i4]; exact Nat.le_trans (m := A.2.2.1 + (0 + 1 + 1 * i + 1)) (by omega) (caps (0 + 1 + 1 * i + 1) 0 (by omega) (by omega)).1
      · rw [h6, i5]; exact Nat.le_trans (m := A.2.2.2 + (0 + 40 + 6 * i + 6)) (by omega) (caps 0 (0 + 40 + 6 * i + 6) (by omega) (by omega)).2
      · rw [eA3]; exact h1.ax _ _ (h2 _ _ (i6 0 (by omega)).1)
      · rw [eA3]; exact newA_at
      · rw [cl_n (by omega)] at e4
        rw [nI_1]
        have hk : A3.1 (a + 2 + 1 * i) = some (3, 0) := by rw [eA3, ← h4]; exact newA_at
        exact ih (i + 1) A3 S4 (by omega) (hL.step QL.st (by omega) (by omega) eA3 eS3 (c1 := 0) (w2 := 0) ⟨by rw [eA3]; exact h1.new, Ax.rf, by rw [eA3]; show A2.2.1 + 1 = _; omega, rfl, rfl, Fr.rf⟩ hk e4 rfl rfl)
  exact loop 40 0 A1 T2 (by omega) (Lp.zero i1 i3)
set_option maxRecDepth 20000 in
theorem ct_fiInit {f : qA → qS → Prop} (hN : Nw A S a 1) (hf : ∀ A' S', Cn A S a 2 1 16 A' S' → A'.1 a = some (1, 0) → A'.1 (a + 1) = some (13, 16) → gR S' a 0 = some (a + 1) → gI S' a 2 = 0 → f A' S') : Run (d + 1) 15 [.ref a] A S (kVa (A.2.2.1 + 1) (A.2.2.2 + 16) f) := by
  refine Run.i (C := mX1_init) rfl rfl rfl fun J hJ => ?_
  obtain ⟨hA, hq, hn, hz⟩ := hN
  have e16 : (16 : Int32).toNatClampNeg = 16 := by decide
  refine sX1_init_0 hJ ?_
  rw [e16]
  have I := Iq.zero (S0 := S) (a := a) (kd := fun _ => (13, 16)) (rf := fun _ => 0) hA hn
  refine ⟨by decide, by decide, Nat.le_refl _, Nat.le_refl _, fun A1 T1 eA eS => ⟨by rw [eA]; exact (I.2.1.trans I.1.ax) _ _ hq, fun T2 eR => ?_⟩⟩
  have I := I.step (by omega) eA eS eR rfl rfl (by intro i hi; omega)
  have hI := I
  obtain ⟨i1, i2, i3, i4, i5, i6, i7, i8, i9⟩ := I
  exact ⟨rfl, rfl, rfl, hf _ _ ⟨i1, i2, by rw [i3], rfl, rfl, (hI.fr (by omega)).wide (Nat.le_refl _) (by omega)⟩ (i2 _ _ hq) (i6 0 (by omega)).1 (i6 0 (by omega)).2.1 ((i7 a 2 (by omega)).1.trans (hz 2).1)⟩
set_option maxRecDepth 20000 in
theorem ct_hiInit {f : qA → qS → Prop} (hN : Nw A S a 2) (hf : ∀ A' S', Cn A S a 114 113 2448 A' S' → A'.1 a = some (2, 0) → A'.1 (a + 1) = some (18, 16) → gR S' a 0 = some (a + 1) → gI S' a 1 = 0 → (∀ j, j < 16 → TrAt A' S' (a + 2 + 7 * j) 24 [] ∧ gR S' (a + 1) j = some (a + 2 + 7 * j)) → f A' S') : Run (d + 2) 20 [.ref a] A S (kVa (A.2.2.1 + 113) (A.2.2.2 + 2448) f) := by
  refine Run.i (C := mX2_init) rfl rfl rfl fun J hJ => ?_
  obtain ⟨hA, hq, hn, hz⟩ := hN
  have caps : ∀ u b, u ≤ 113 → b ≤ 2448 → A.2.2.1 + u ≤ A.2.2.1 + 113 ∧ A.2.2.2 + b ≤ A.2.2.2 + 2448 := fun u b h1 h2 => by omega
  have e16 : (16 : Int32).toNatClampNeg = 16 := by decide
  refine sX2_init_0 hJ ?_
  rw [e16]
  have I := Iq.zero (S0 := S) (a := a) (kd := fun _ => (18, 16)) (rf := fun _ => 0) hA hn
  refine ⟨by decide, by decide, (caps 1 0 (by omega) (by omega)).1, (caps 0 16 (by omega) (by omega)).2, fun A1 T1 eA eS => ⟨by rw [eA]; exact (I.2.1.trans I.1.ax) _ _ hq, fun T2 eR => ?_⟩⟩
  have I := I.step (by omega) eA eS eR rfl rfl (by intro i hi; omega)
  have hI := I
  obtain ⟨i1, i2, i3, i4, i5, i6, i7, i8, i9⟩ := I
  have loop : ∀ g i A2 S2, i + g = 16 → Lp QT 7 7 152 A1 T2 (a + 1) (a + 2) i A2 S2 → J 15 [some (.ref a), some (.int (nI i))] [] A2 S2 := by
    intro g
    induction g with
    | zero =>
      intro i A2 S2 hi h
      have ei : i = 16 := by omega
      subst ei
      have hL := h
      obtain ⟨h1, h2, h4, h5, h6, h7, h8, h9, h10⟩ := h
      refine sX2_init_15 hJ ⟨fun _ => ?_, fun z => absurd (by decide) z⟩
      have fr0 : Fr S S2 a (a + 114) := ((hI.fr (by omega)).wide (Nat.le_refl _) (by omega)).trans ((hL.fr (by omega)).wide (by omega) (by omega))
      exact ⟨rfl, rfl, rfl, hf _ _ ⟨h1, i2.trans h2, by rw [h4], rfl, rfl, fr0⟩ (h2 _ _ (i2 _ _ hq)) (h2 _ _ (i6 0 (by omega)).1) ((h9 a 0 (by omega) (by omega)).trans (i6 0 (by omega)).2.1) ((h8 a 1 (by omega)).1.trans ((i7 a 1 (by omega)).1.trans (hz 1).1)) h7⟩
    | succ g ih =>
      intro i A2 S2 hi h
      have hL := h
      obtain ⟨h1, h2, h4, h5, h6, h7, h8, h9, h10⟩ := h
      have r0 : gR S2 a 0 = some (a + 1) := (h9 a 0 (by omega) (by omega)).trans (i6 0 (by omega)).2.1
      refine sX2_init_15 hJ ⟨fun z => absurd ((nIle (a := 16) (by omega) (by omega)).1 z) (by omega), fun _ => ⟨h2 _ _ (i2 _ _ hq), a + 1, r0, ?_, ?_, fun A3 S3 eA3 eS3 => ?_⟩⟩
      · rw [h5, i4]; exact Nat.le_trans (m := A.2.2.1 + (0 + 1 + 7 * i + 1)) (by omega) (caps (0 + 1 + 7 * i + 1) 0 (by omega) (by omega)).1
      · rw [h6, i5]; exact Nat.le_trans (m := A.2.2.2 + (0 + 16 + 152 * i + 8)) (by omega) (caps 0 (0 + 16 + 152 * i + 8) (by omega) (by omega)).2
      · have c3 : A3.2.2.1 = A2.2.2.1 + 1 := by rw [eA3]; rfl
        have s3 : A3.2.2.2 = A2.2.2.2 + 8 := by rw [eA3]; rfl
        refine ⟨wc rfl, ?_, ?_, ?_⟩
        · rw [c3, h5, i4]; exact Nat.le_trans (m := A.2.2.1 + (0 + 1 + 7 * i + 1 + 6)) (by omega) (caps (0 + 1 + 7 * i + 1 + 6) 0 (by omega) (by omega)).1
        · rw [s3, h6, i5]; exact Nat.le_trans (m := A.2.2.2 + (0 + 16 + 152 * i + 8 + 144)) (by omega) (caps 0 (0 + 16 + 152 * i + 8 + 144) (by omega) (by omega)).2
        · have N3 : Nw A3 S3 A2.2.1 8 := Nw.new h1 rfl eA3 eS3
          refine ct_trInit (r := 24) N3 (by omega) fun A4 S4 cn t4 => ⟨16, ?_, vp_n (by omega) (by omega), t4.1.1, fun S5 e5 => ?_⟩
          · exact cn.2.1 _ _ (by rw [eA3]; exact h1.ax _ _ (h2 _ _ (i6 0 (by omega)).1))
          · rw [cl_n (by omega)] at e5
            rw [nI_1]
            rw [h4] at cn t4
            exact ih (i + 1) A4 S5 (by omega) (hL.step QT.st (by omega) (by omega) eA3 eS3 cn t4 e5 rfl rfl)
  exact loop 16 0 A1 T2 (by omega) (Lp.zero i1 i3)
set_option maxRecDepth 20000 in
set_option maxHeartbeats 1000000 in
theorem ct_bkInit {f : qA → qS → Prop} (hN : Nw A S a 0) (hf : ∀ A' S', Cn A S a 144 143 7680 A' S' → BkAt A' S' a (fun _ => []) [] [] 0 (0, fun _ => 0, fun _ => 0, fun _ => 0, fun _ => 0) → f A' S') : Run (d + 3) 0 [.ref a] A S (kVa (A.2.2.1 + 143) (A.2.2.2 + 7680) f) := by
  refine Run.i (C := mX0_init) rfl rfl rfl fun J hJ => ?_
  obtain ⟨hA, hq, hn, hz⟩ := hN
  have caps : ∀ u b, u ≤ 143 → b ≤ 7680 → A.2.2.1 + u ≤ A.2.2.1 + 143 ∧ A.2.2.2 + b ≤ A.2.2.2 + 7680 := fun u b h1 h2 => by omega
  have e3 : (3 : Int32).toNatClampNeg = 3 := by decide
  have e36 : (36 : Int32).toNatClampNeg = 36 := by decide
  have e24 : (24 : Int32).toNatClampNeg = 24 := by decide
  have e40 : (40 : Int32).toNatClampNeg = 40 := by decide
  refine sX0_init_0 hJ ?_
  rw [e3, e36, e24, e40]
  have I := Iq.zero (S0 := S) (a := a) (kd := fun _ => (17, 3)) (rf := fun _ => 0) hA hn
  refine ⟨by decide, by decide, (caps 1 0 (by omega) (by omega)).1, (caps 0 3 (by omega) (by omega)).2, fun A1 T1 eA eS => ⟨by rw [eA]; exact (I.2.1.trans I.1.ax) _ _ hq, fun T2 eR => ?_⟩⟩
  have I := I.step (by omega) eA eS eR rfl rfl (by intro i hi; omega)
  have hI := I
  obtain ⟨i1, i2, i3, i4, i5, i6, i7, i8, i9⟩ := I
  refine ⟨by rw [i4]; exact (caps 2 0 (by omega) (by omega)).1, by rw [i5]; exact (caps 0 14 (by omega) (by omega)).2, fun A3 T3 eA3 eS3 => ?_⟩
  have c3 : A3.2.2.1 = A1.2.2.1 + 1 := by rw [eA3]; rfl
  have s3 : A3.2.2.2 = A1.2.2.2 + 11 := by rw [eA3]; rfl
  have x3 : Ax A1 A3 := by rw [eA3]; exact i1.ax
  have N3 : Nw A3 T3 A1.2.1 5 := Nw.new i1 rfl eA3 eS3
  rw [i3] at N3 eS3
  rw [i3]
  refine ⟨wc rfl, by rw [c3, i4]; exact (caps 12 0 (by omega) (by omega)).1, by rw [s3, i5]; exact (caps 0 6674 (by omega) (by omega)).2, ct_piInit N3 fun A4 T4 cn pi => ⟨cn.2.1 _ _ (x3 _ _ (i2 _ _ hq)), fun T5 e5 => ?_⟩⟩
  obtain ⟨n1, n2, n3, n4, n5, n6⟩ := cn
  have q4 := n2 _ _ (x3 _ _ (i2 _ _ hq))
  have I := Iq.zero (S0 := T5) (a := a) (kd := fun i => if i < 2 then (13, 36) else if i < 4 then (13, 24) else (13, 40)) (rf := fun i => i + 2) n1 n3
  refine ⟨by decide, by decide, by rw [I.2.2.2.1, n4, c3, i4]; exact (caps 13 0 (by omega) (by omega)).1, by rw [I.2.2.2.2.1, n5, s3, i5]; exact (caps 0 6710 (by omega) (by omega)).2, fun A6 T6 eA eS => ⟨by rw [eA]; exact (I.2.1.trans I.1.ax) _ _ q4, fun T7 eR => ?_⟩⟩
  have I := I.step (by omega) eA eS eR rfl rfl (by intro i hi; omega)
  refine ⟨by decide, by decide, by rw [I.2.2.2.1, n4, c3, i4]; exact (caps 14 0 (by omega) (by omega)).1, by rw [I.2.2.2.2.1, n5, s3, i5]; exact (caps 0 6746 (by omega) (by omega)).2, fun A6 T6 eA eS => ⟨by rw [eA]; exact (I.2.1.trans I.1.ax) _ _ q4, fun T7 eR => ?_⟩⟩
  have I := I.step (by omega) eA eS eR rfl rfl (by intro i hi; omega)
  refine ⟨by decide, by decide, by rw [I.2.2.2.1, n4, c3, i4]; exact (caps 15 0 (by omega) (by omega)).1, by rw [I.2.2.2.2.1, n5, s3, i5]; exact (caps 0 6770 (by omega) (by omega)).2, fun A6 T6 eA eS => ⟨by rw [eA]; exact (I.2.1.trans I.1.ax) _ _ q4, fun T7 eR => ?_⟩⟩
  have I := I.step (by omega) eA eS eR rfl rfl (by intro i hi; omega)
  refine ⟨by decide, by decide, by rw [I.2.2.2.1, n4, c3, i4]; exact (caps 16 0 (by omega) (by omega)).1, by rw [I.2.2.2.2.1, n5, s3, i5]; exact (caps 0 6794 (by omega) (by omega)).2, fun A6 T6 eA eS => ⟨by rw [eA]; exact (I.2.1.trans I.1.ax) _ _ q4, fun T7 eR => ?_⟩⟩
  have I := I.step (by omega) eA eS eR rfl rfl (by intro i hi; omega)
  refine ⟨by decide, by decide, by rw [I.2.2.2.1, n4, c3, i4]; exact (caps 17 0 (by omega) (by omega)).1, by rw [I.2.2.2.2.1, n5, s3, i5]; exact (caps 0 6834 (by omega) (by omega)).2, fun A6 T6 eA eS => ⟨by rw [eA]; exact (I.2.1.trans I.1.ax) _ _ q4, fun T7 eR => ?_⟩⟩
  have I := I.step (by omega) eA eS eR rfl rfl (by intro i hi; omega)
  have hK := I
  obtain ⟨k1, k2, k3, k4, k5, k6, k7, k8, k9⟩ := I
  have xA1 : Ax A1 A6 := x3.trans (n2.trans k2)
  have g35 : ∀ b k, b < a + 2 → gI T5 b k = gI T2 b k ∧ gL T5 b k = gL T2 b k ∧ (¬ (b = a ∧ k = 1) → gR T5 b k = gR T2 b k) := by
    intro b k hb
    obtain ⟨w1, w2, w3⟩ := n6 b (by omega) k
    rw [e5]
    exact ⟨by rw [gI_uR, w1, eS3, gI_uZ, if_neg (by omega)], by rw [gL_uR, w2, eS3, gL_uZ, if_neg (by omega)], fun z => by rw [gR_uR, if_neg z, w3, eS3, gR_uZ, if_neg (by omega)]⟩
  have loop : ∀ g i A8 S8, i + g = 3 → Lp QLo 42 42 282 A6 T7 (a + 1) (a + 18) i A8 S8 → J 65 [some (.ref a), some (.int (nI i))] [] A8 S8 := by
    intro g
    induction g with
    | zero =>
      intro i A8 S8 hi h
      have ei : i = 3 := by omega
      subst ei
      have hL := h
      obtain ⟨h1, h2, h4, h5, h6, h7, h8, h9, h10⟩ := h
      refine sX0_init_65 hJ ⟨fun _ => ?_, fun z => absurd (by decide) z⟩
      have xx : Ax A1 A8 := xA1.trans h2
      have fr5 : Fr S T5 a (a + 13) := by
        intro b hb k
        have z := hI.fr (by omega) b (by omega) k
        by_cases c : b < a
        · obtain ⟨w1, w2, w3⟩ := g35 b k (by omega)
          exact ⟨w1.trans z.1, w2.trans z.2.1, (w3 (by omega)).trans z.2.2⟩
        · obtain ⟨w1, w2, w3⟩ := n6 b (by omega) k
          have y : gI T5 b k = gI T4 b k ∧ gL T5 b k = gL T4 b k ∧ gR T5 b k = gR T4 b k := by rw [e5]; exact ⟨rfl, rfl, by rw [gR_uR, if_neg (by omega)]⟩
          have y3 : gI T3 b k = gI T2 b k ∧ gL T3 b k = gL T2 b k ∧ gR T3 b k = gR T2 b k := by rw [eS3]; exact ⟨by rw [gI_uZ, if_neg (by omega)], by rw [gL_uZ, if_neg (by omega)], by rw [gR_uZ, if_neg (by omega)]⟩
          exact ⟨y.1.trans (w1.trans (y3.1.trans z.1)), y.2.1.trans (w2.trans (y3.2.1.trans z.2.1)), y.2.2.trans (w3.trans (y3.2.2.trans z.2.2))⟩
      have fr58 : Fr T5 S8 a (a + 144) := ((hK.fr (by omega)).wide (Nat.le_refl _) (by omega)).trans ((hL.fr (by omega)).wide (by omega) (by omega))
      have fr0 : Fr S S8 a (a + 144) := (fr5.wide (Nat.le_refl _) (by omega)).trans fr58
      -- the object's own cells
      have own : ∀ k, gI S8 a k = 0 ∧ gL S8 a k = 0 := by
        intro k
        exact ⟨(h8 a k (by omega)).1.trans ((k7 a k (by omega)).1.trans ((g35 a k (by omega)).1.trans ((i7 a k (by omega)).1.trans (hz k).1))), (h8 a k (by omega)).2.trans ((k7 a k (by omega)).2.trans ((g35 a k (by omega)).2.1.trans ((i7 a k (by omega)).2.trans (hz k).2.1)))⟩
      have ra : ∀ k, gR S8 a k = gR T7 a k := fun k => h9 a k (by omega) (by omega)
      have zz : ∀ i, i < 5 → ∀ k, gI S8 (a + 13 + i) k = 0 := by
        intro i hi k
        have := ((k6 i hi).2.2 k).1
        rw [show a + 1 + (0 + 1) + 11 + i = a + 13 + i by omega] at this
        exact (h8 _ k (by omega)).1.trans this
      have kk : ∀ i, i < 5 → A8.1 (a + 13 + i) = some (if i < 2 then (13, 36) else if i < 4 then (13, 24) else (13, 40)) := by
        intro i hi
        have := (k6 i hi).1
        rw [show a + 1 + (0 + 1) + 11 + i = a + 13 + i by omega] at this
        exact h2 _ _ this
      have rr : ∀ i, i < 5 → gR S8 a (i + 2) = some (a + 13 + i) := by
        intro i hi
        have := (k6 i hi).2.1
        rw [show a + 1 + (0 + 1) + 11 + i = a + 13 + i by omega] at this
        exact (ra _).trans this
      have s48 : ∀ b, a + 2 ≤ b → b < a + 13 → ∀ k, gI S8 b k = gI T4 b k ∧ gL S8 b k = gL T4 b k ∧ gR S8 b k = gR T4 b k := by
        intro b b1 b2 k
        have y : gI T5 b k = gI T4 b k ∧ gL T5 b k = gL T4 b k ∧ gR T5 b k = gR T4 b k := by rw [e5]; exact ⟨rfl, rfl, by rw [gR_uR, if_neg (by omega)]⟩
        exact ⟨(h8 b k (by omega)).1.trans ((k7 b k (by omega)).1.trans y.1), (h8 b k (by omega)).2.trans ((k7 b k (by omega)).2.trans y.2.1), (h9 b k (by omega) (by omega)).trans ((k8 b k (by omega) (by omega)).trans y.2.2)⟩
      have fr48 : Fr T4 S8 a (a + 144) := by
        have : Fr T4 T5 a (a + 144) := by rw [e5]; exact Fr.rf.uR (by omega) (by omega)
        exact this.trans fr58
      refine ⟨rfl, rfl, rfl, hf _ _ ⟨h1, i2.trans xx, by rw [h4], rfl, rfl, fr0⟩ ⟨⟨xx _ _ (i2 _ _ hq), xx _ _ (i6 0 (by omega)).1, kk 0 (by omega), kk 1 (by omega), kk 2 (by omega), kk 3 (by omega), kk 4 (by omega)⟩, ⟨?_, ?_, rr 0 (by omega), rr 1 (by omega), rr 2 (by omega), rr 3 (by omega), rr 4 (by omega), fun q hq' => (h7 q hq').2⟩, (pi.cel (fun b b1 b2 k => s48 b (by omega) (by omega) k) fr48).ax (k2.trans h2), fun q hq' => (h7 q hq').1, ⟨(own 7).1, Nat.zero_le _, fun i hi => absurd hi (Nat.not_lt_zero _)⟩, ⟨(own 8).2, (own 9).1, fun t _ => zz 0 (by omega) t, fun t _ => zz 1 (by omega) t, fun t _ => zz 2 (by omega) t, fun t _ => zz 3 (by omega) t⟩, fun i hi => absurd hi (Nat.not_lt_zero _)⟩⟩
      · exact (ra 0).trans ((k8 a 0 (by omega) (fun _ i hi => show ¬ i + 2 = 0 by omega)).trans (((g35 a 0 (by omega)).2.2 (by omega)).trans (i6 0 (by omega)).2.1))
      · refine (ra 1).trans ((k8 a 1 (by omega) (fun _ i hi => show ¬ i + 2 = 1 by omega)).trans ?_)
        rw [e5, gR_uR, if_pos ⟨rfl, rfl⟩]
    | succ g ih =>
      intro i A8 S8 hi h
      have hL := h
      obtain ⟨h1, h2, h4, h5, h6, h7, h8, h9, h10⟩ := h
      have r0 : gR S8 a 0 = some (a + 1) := (h9 a 0 (by omega) (by omega)).trans ((k8 a 0 (by omega) (fun _ i hi => show ¬ i + 2 = 0 by omega)).trans (((g35 a 0 (by omega)).2.2 (by omega)).trans (i6 0 (by omega)).2.1))
      refine sX0_init_65 hJ ⟨fun z => absurd ((nIle (a := 3) (by omega) (by omega)).1 z) (by omega), fun _ => ⟨h2 _ _ (xA1 _ _ (i2 _ _ hq)), a + 1, r0, ?_, ?_, fun A9 S9 eA9 eS9 => ?_⟩⟩
      · rw [h5, k4, n4, c3, i4]; exact Nat.le_trans (m := A.2.2.1 + (0 + 1 + 1 + 10 + (0 + 1 + 1 + 1 + 1 + 1) + 42 * i + 1)) (by omega) (caps (0 + 1 + 1 + 10 + (0 + 1 + 1 + 1 + 1 + 1) + 42 * i + 1) 0 (by omega) (by omega)).1
      · rw [h6, k5, n5, s3, i5]; exact Nat.le_trans (m := A.2.2.2 + (0 + 3 + 11 + 6660 + (0 + 36 + 36 + 24 + 24 + 40) + 282 * i + 2)) (by omega) (caps 0 (0 + 3 + 11 + 6660 + (0 + 36 + 36 + 24 + 24 + 40) + 282 * i + 2) (by omega) (by omega)).2
      · have c9 : A9.2.2.1 = A8.2.2.1 + 1 := by rw [eA9]; rfl
        have s9 : A9.2.2.2 = A8.2.2.2 + 2 := by rw [eA9]; rfl
        refine ⟨wc rfl, ?_, ?_, ?_⟩
        · rw [c9, h5, k4, n4, c3, i4]; exact Nat.le_trans (m := A.2.2.1 + (0 + 1 + 1 + 10 + (0 + 1 + 1 + 1 + 1 + 1) + 42 * i + 1 + 41)) (by omega) (caps (0 + 1 + 1 + 10 + (0 + 1 + 1 + 1 + 1 + 1) + 42 * i + 1 + 41) 0 (by omega) (by omega)).1
        · rw [s9, h6, k5, n5, s3, i5]; exact Nat.le_trans (m := A.2.2.2 + (0 + 3 + 11 + 6660 + (0 + 36 + 36 + 24 + 24 + 40) + 282 * i + 2 + 280)) (by omega) (caps 0 (0 + 3 + 11 + 6660 + (0 + 36 + 36 + 24 + 24 + 40) + 282 * i + 2 + 280) (by omega) (by omega)).2
        · have N9 : Nw A9 S9 A8.2.1 4 := Nw.new h1 rfl eA9 eS9
          refine ct_loInit N9 fun Ab Sb cn t4 => ⟨3, ?_, vp_n (by omega) (by omega), t4.1.1, fun Sc ec => ?_⟩
          · exact cn.2.1 _ _ (by rw [eA9]; exact h1.ax _ _ (h2 _ _ (xA1 _ _ (i6 0 (by omega)).1)))
          · rw [cl_n (by omega)] at ec
            rw [nI_1]
            rw [h4] at cn t4
            exact ih (i + 1) Ab Sc (by omega) (hL.step QLo.st (by omega) (by omega) eA9 eS9 cn t4 ec rfl rfl)
  exact loop 3 0 A6 T7 (by omega) (Lp.zero k1 k3)
end
