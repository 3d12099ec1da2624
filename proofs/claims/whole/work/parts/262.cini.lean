/-! the class's constructor -/
/-- below o nothing changed but the class's own fields and its row of images -/
def Kq (x o : Nat) (S S' : qS) : Prop := (∀ b, b < o → ¬ b = x → ¬ b = x + 443 → ∀ k, gI S' b k = gI S b k ∧ gL S' b k = gL S b k ∧ gR S' b k = gR S b k) ∧ Fr S S' x (x + 467)
theorem Kq.trans {x o o' : Nat} {S S' S'' : qS} (h : Kq x o S S') (h' : Kq x o' S' S'') (ho : o ≤ o') : Kq x o S S'' := ⟨fun b hb c1 c2 k => ⟨(h'.1 b (by omega) c1 c2 k).1.trans (h.1 b hb c1 c2 k).1, (h'.1 b (by omega) c1 c2 k).2.1.trans (h.1 b hb c1 c2 k).2.1, (h'.1 b (by omega) c1 c2 k).2.2.trans (h.1 b hb c1 c2 k).2.2⟩, h.2.trans h'.2⟩
theorem stg {A A1 A2 : qA} {S S1 S2 S3 : qS} {x o W c w w' u n f : Nat} (hA : AOk A) (ho : A.2.1 = o) (hx : x < o) (eA : A1 = newA A u n w) (eS : S1 = uZ S A.2.1) (hc : Cn A1 S1 o W c w' A2 S2) (e3 : S3 = uR S2 x f (some A.2.1)) (hW1 : 1 ≤ W) (hW : o + W ≤ x + 467) : AOk A2 ∧ Ax A A2 ∧ A2.2.1 = o + W ∧ A2.2.2.1 = A.2.2.1 + (1 + c) ∧ A2.2.2.2 = A.2.2.2 + (w + w') ∧ Kq x o S S3 ∧ (∀ k, gR S3 x k = if k = f then some o else gR S x k) ∧ (∀ k, gI S3 x k = gI S x k) ∧ Kq x (o + W) S2 S3 := by
  obtain ⟨n1, n2, n3, n4, n5, n6⟩ := hc
  have x1 : Ax A A1 := by rw [eA]; exact hA.ax
  have c1 : A1.2.2.1 = A.2.2.1 + 1 := by rw [eA]; rfl
  have s1 : A1.2.2.2 = A.2.2.2 + w := by rw [eA]; rfl
  rw [ho] at eS e3
  have gS : ∀ b k, (b < o ∨ o + W ≤ b) → gI S3 b k = gI S b k ∧ gL S3 b k = gL S b k ∧ (¬ (b = x ∧ k = f) → gR S3 b k = gR S b k) := by
    intro b k hb
    obtain ⟨w1, w2, w3⟩ := n6 b (by omega) k
    rw [e3]
    exact ⟨by rw [gI_uR, w1, eS, gI_uZ, if_neg (by omega)], by rw [gL_uR, w2, eS, gL_uZ, if_neg (by omega)], fun z => by rw [gR_uR, if_neg z, w3, eS, gR_uZ, if_neg (by omega)]⟩
  refine ⟨n1, x1.trans n2, n3, by rw [n4, c1]; omega, by rw [n5, s1]; omega, ⟨fun b hb cx _ k => ⟨(gS b k (by omega)).1, (gS b k (by omega)).2.1, (gS b k (by omega)).2.2 (by omega)⟩, fun b hb k => ⟨(gS b k (by omega)).1, (gS b k (by omega)).2.1, (gS b k (by omega)).2.2 (by omega)⟩⟩, fun k => ?_, fun k => (gS x k (by omega)).1, ⟨fun b hb cx _ k => ?_, fun b hb k => ?_⟩⟩
  · by_cases z : k = f
    · rw [if_pos z, e3, gR_uR, if_pos ⟨rfl, z⟩]
    · rw [if_neg z]
      exact (gS x k (by omega)).2.2 (fun q => z q.2)
  · rw [e3]; exact ⟨rfl, rfl, by rw [gR_uR, if_neg (by omega)]⟩
  · rw [e3]; exact ⟨rfl, rfl, by rw [gR_uR, if_neg (by omega)]⟩
theorem Cn.one {A : qA} {S : qS} {o : Nat} (hA : AOk A) (hn : A.2.1 = o + 1) : Cn A S o 1 0 0 A S := ⟨hA, Ax.rf, hn, rfl, rfl, Fr.rf⟩
theorem BN0 {A : qA} {S : qS} {B : Nat} (h : BkAt A S B (fun _ => []) [] [] 0 (0, fun _ => 0, fun _ => 0, fun _ => 0, fun _ => 0)) : BN A S B 0 999 [] := by
  obtain ⟨-, -, c3⟩ := book_rel (w := 0) (last := 999) (T := []) (pf := fun t => paF (tr [] t)) iTd0.1.2.1 (fun t _ => rfl)
  obtain ⟨d1, d2⟩ := c3 rfl
  exact ⟨c0, fun _ => 0, fun _ => 0, h, d1, d2, fun i hi => absurd hi (Nat.not_lt_zero _), fun i hi => absurd hi (Nat.not_lt_zero _)⟩
theorem XAt0 {A A3 A4 A5 A6 A7 A8 A9 : qA} {S T1 T3 T4 T5 T6 T7 T8 T9 T11 : qS} {x : Nat} (hK : XK A x) (r0 : gR S x 0 = some (x + 1)) (r2 : gR S x 2 = some (x + 2)) (r4 : gR S x 4 = some (x + 3)) (r5 : gR S x 5 = some (x + 15)) (r6 : gR S x 6 = some (x + 27)) (r7 : gR S x 7 = some (x + 34)) (r8 : gR S x 8 = some (x + 41)) (r9 : gR S x 9 = some (x + 185)) (r10 : gR S x 10 = some (x + 329)) (r11 : gR S x 11 = some (x + 443)) (r13 : gR S x 13 = some (x + 444)) (gx : ∀ k, gI S x k = 0) (F1 : Kq x (x + 2) T1 S) (zt : ∀ k, gI T1 (x + 1) k = 0) (F3 : Kq x (x + 15) T3 S) (t3 : TdAt A3 T3 (x + 3) td0) (Y3 : Ax A3 A) (F4 : Kq x (x + 27) T4 S) (t4 : TdAt A4 T4 (x + 15) td0) (Y4 : Ax A4 A) (F5 : Kq x (x + 34) T5 S) (t5 : TrAt A5 T5 (x + 27) 24 []) (Y5 : Ax A5 A) (F6 : Kq x (x + 41) T6 S) (t6 : TrAt A6 T6 (x + 34) 24 []) (Y6 : Ax A6 A) (F7 : Kq x (x + 185) T7 S) (t7 : BkAt A7 T7 (x + 41) (fun _ => []) [] [] 0 (0, fun _ => 0, fun _ => 0, fun _ => 0, fun _ => 0)) (Y7 : Ax A7 A) (F8 : Kq x (x + 329) T8 S) (t8 : BkAt A8 T8 (x + 185) (fun _ => []) [] [] 0 (0, fun _ => 0, fun _ => 0, fun _ => 0, fun _ => 0)) (Y8 : Ax A8 A) (F9 : Kq x (x + 443) T9 S) (hr9 : gR T9 (x + 329) 0 = some (x + 329 + 1)) (hg9 : gI T9 (x + 329) 1 = 0) (ht9 : ∀ j, j < 16 → TrAt A9 T9 (x + 329 + 2 + 7 * j) 24 [] ∧ gR T9 (x + 329 + 1) j = some (x + 329 + 2 + 7 * j)) (Y9 : Ax A9 A) (F11 : Kq x (x + 446) T11 S) (hr11 : gR T11 (x + 444) 0 = some (x + 444 + 1)) (hg11 : gI T11 (x + 444) 2 = 0) (l7 : ∀ j, j < 3 → QT A S (x + 446 + 7 * j) ∧ gR S (x + 443) j = some (x + 446 + 7 * j)) : XAt A S x V0 := by
  refine ⟨x + 3, x + 15, x + 27, x + 34, x + 41, x + 185, fun i => i, hK, ⟨⟨r0, r2, r4, r5, r6, r7, r8, r9, r10, r11, r13⟩, (F9.1 (x + 329) (by omega) (by omega) (by omega) 0).2.2.trans hr9, (F11.1 (x + 444) (by omega) (by omega) (by omega) 0).2.2.trans hr11, fun i hi => (l7 i hi).2, fun i hi => (F9.1 (x + 330) (by omega) (by omega) (by omega) i).2.2.trans (ht9 i hi).2⟩, ⟨Or.inl ⟨rfl, rfl⟩, Or.inl ⟨rfl, rfl⟩, Or.inl ⟨rfl, rfl⟩, fun i hi => hi, fun i j _ _ e => e⟩, ⟨fun k hk => (F1.1 (x + 1) (by omega) (by omega) (by omega) k).1.trans (zt k), gx 1, gx 3, gx 12, gx 14, gx 15, fun c => absurd (show (0 : Int32) = 4 from c) (by decide), fun _ => rfl, (F9.1 (x + 329) (by omega) (by omega) (by omega) 1).1.trans hg9⟩, ⟨fun i hi => ⟨[], ((ht9 i hi).1.cel (fun b b1 b2 k => F9.1 b (by omega) (by omega) (by omega) k) F9.2).ax Y9, fun c => absurd c (Nat.not_lt_zero _)⟩, fun i hi => ⟨[], (l7 i hi).1, fun c => absurd c (Nat.not_lt_zero _)⟩⟩, ⟨false, (F11.1 (x + 444) (by omega) (by omega) (by omega) 2).1.trans hg11, fun c => by (cases c)⟩, (t3.cel (fun b b1 b2 k => F3.1 b (by omega) (by omega) (by omega) k) F3.2).ax Y3, ⟨td0, (t4.cel (fun b b1 b2 k => F4.1 b (by omega) (by omega) (by omega) k) F4.2).ax Y4⟩, (t5.cel (fun b b1 b2 k => F5.1 b (by omega) (by omega) (by omega) k) F5.2).ax Y5, ⟨[], (t6.cel (fun b b1 b2 k => F6.1 b (by omega) (by omega) (by omega) k) F6.2).ax Y6⟩, BN0 ((t7.cel (fun b b1 b2 k => F7.1 b (by omega) (by omega) (by omega) k) F7.2).ax Y7), ⟨_, _, _, _, _, (t8.cel (fun b b1 b2 k => F8.1 b (by omega) (by omega) (by omega) k) F8.2).ax Y8⟩⟩
section
variable {d : Nat} {A : qA} {S : qS} {x : Nat}
set_option maxRecDepth 20000 in
theorem ct_rdInit {f : qS → Prop} (hf : f S) : Run (d + 1) 36 [.ref x] A S (kV A f) := by
  refine Run.i (C := mX6_init) rfl rfl rfl fun J hJ => ?_
  exact sX6_init_0 hJ (kV_i hf)
set_option maxRecDepth 20000 in
set_option maxHeartbeats 2000000 in
theorem ct_init {f : qA → qS → Prop} (hN : Nw A S x 9) (hf : ∀ A' S', Cn A S x 467 466 19883 A' S' → XAt A' S' x V0 → f A' S') : Run (d + 4) 66 [.ref x] A S (kVa (A.2.2.1 + 466) (A.2.2.2 + 19883) f) := by
  refine Run.i (C := mX9_init) rfl rfl rfl fun J hJ => ?_
  obtain ⟨hA, hq, hn, hz⟩ := hN
  have caps : ∀ u b, u ≤ 466 → b ≤ 19883 → A.2.2.1 + u ≤ A.2.2.1 + 466 ∧ A.2.2.2 + b ≤ A.2.2.2 + 19883 := fun u b h1 h2 => by omega
  have e900 : (900 : Int32).toNatClampNeg = 900 := by decide
  have e3 : (3 : Int32).toNatClampNeg = 3 := by decide
  refine sX9_init_0 hJ ?_
  rw [e900, e3]
  have a0 := hA
  have h0 : A.1 x = some (9, 0) := hq
  have n0 : A.2.1 = x + 1 := hn
  have C0 : A.2.2.1 = A.2.2.1 + 0 := rfl
  have D0 : A.2.2.2 = A.2.2.2 + 0 := rfl
  refine ⟨by decide, by decide, by rw [C0]; exact (caps 1 0 (by omega) (by omega)).1, by rw [D0]; exact (caps 0 900 (by omega) (by omega)).2, fun B1 U1 eA1 eU1 => ?_⟩
  have xB1 : B1.1 x = some (9, 0) := by rw [eA1]; exact a0.ax _ _ h0
  have cB1 : B1.2.2.1 = A.2.2.1 + 1 := by rw [eA1]; show A.2.2.1 + 1 = _; rw [C0]
  have dB1 : B1.2.2.2 = A.2.2.2 + 900 := by rw [eA1]; show A.2.2.2 + 900 = _; rw [D0]
  refine ⟨xB1, fun S1 e1 => ?_⟩
  have kd1 : B1.1 (x + 1) = some (12, 900) := by rw [eA1, ← n0]; exact newA_at
  obtain ⟨A1, eB1⟩ : ∃ A1, A1 = B1 := ⟨_, rfl⟩
  obtain ⟨T1, eT1⟩ : ∃ T1, T1 = U1 := ⟨_, rfl⟩
  have G1 := stg (x := x) (o := x + 1) (W := 1) a0 n0 (by omega) eA1 eU1 (Cn.one (by rw [eA1]; exact a0.new) (by rw [eA1]; show A.2.1 + 1 = _; rw [n0])) e1 (by omega) (by omega)
  rw [← eB1, ← eT1] at G1
  rw [← eB1] at kd1 xB1
  have zt : ∀ k, gI T1 (x + 1) k = 0 := fun k => by rw [eT1, eU1, gI_uZ, if_pos n0.symm]
  obtain ⟨a1, x1, n1, C1, D1, K1, R1, g1, Q1⟩ := G1
  have n1 : A1.2.1 = x + 2 := by rw [n1]
  have C1 : A1.2.2.1 = A.2.2.1 + 1 := by rw [C1, C0]
  have D1 : A1.2.2.2 = A.2.2.2 + 900 := by rw [D1, D0]
  have h1 : A1.1 x = some (9, 0) := x1 _ _ h0
  rw [← eB1]
  clear eA1 eU1 e1 eB1 cB1 dB1
  refine ⟨by rw [C1]; exact (caps 2 0 (by omega) (by omega)).1, by rw [D1]; exact (caps 0 909 (by omega) (by omega)).2, fun B2 U2 eA2 eU2 => ?_⟩
  have xB2 : B2.1 x = some (9, 0) := by rw [eA2]; exact a1.ax _ _ h1
  have cB2 : B2.2.2.1 = A.2.2.1 + 2 := by rw [eA2]; show A1.2.2.1 + 1 = _; rw [C1]
  have dB2 : B2.2.2.2 = A.2.2.2 + 909 := by rw [eA2]; show A1.2.2.2 + 9 = _; rw [D1]
  refine ⟨wc rfl, ct_rdInit ⟨xB2, fun S2 e2 => ?_⟩⟩
  have kd2 : B2.1 (x + 2) = some (6, 0) := by rw [eA2, ← n1]; exact newA_at
  obtain ⟨A2, eB2⟩ : ∃ A2, A2 = B2 := ⟨_, rfl⟩
  obtain ⟨T2, eT2⟩ : ∃ T2, T2 = U2 := ⟨_, rfl⟩
  have G2 := stg (x := x) (o := x + 2) (W := 1) a1 n1 (by omega) eA2 eU2 (Cn.one (by rw [eA2]; exact a1.new) (by rw [eA2]; show A1.2.1 + 1 = _; rw [n1])) e2 (by omega) (by omega)
  rw [← eB2, ← eT2] at G2
  rw [← eB2] at kd2 xB2
  obtain ⟨a2, x2, n2, C2, D2, K2, R2, g2, Q2⟩ := G2
  have n2 : A2.2.1 = x + 3 := by rw [n2]
  have C2 : A2.2.2.1 = A.2.2.1 + 2 := by rw [C2, C1]
  have D2 : A2.2.2.2 = A.2.2.2 + 909 := by rw [D2, D1]
  have h2 : A2.1 x = some (9, 0) := x2 _ _ h1
  rw [← eB2]
  clear eA2 eU2 e2 eB2 cB2 dB2
  refine ⟨by rw [C2]; exact (caps 3 0 (by omega) (by omega)).1, by rw [D2]; exact (caps 0 918 (by omega) (by omega)).2, fun B3 U3 eA3 eU3 => ?_⟩
  have xB3 : B3.1 x = some (9, 0) := by rw [eA3]; exact a2.ax _ _ h2
  have cB3 : B3.2.2.1 = A.2.2.1 + 3 := by rw [eA3]; show A2.2.2.1 + 1 = _; rw [C2]
  have dB3 : B3.2.2.2 = A.2.2.2 + 918 := by rw [eA3]; show A2.2.2.2 + 9 = _; rw [D2]
  have N3 : Nw B3 U3 A2.2.1 7 := Nw.new a2 rfl eA3 eU3
  refine ⟨wc rfl, by rw [cB3]; exact (caps 14 0 (by omega) (by omega)).1, by rw [dB3]; exact (caps 0 1090 (by omega) (by omega)).2, ct_tdInit N3 fun A3 T3 cn3 t3 => ⟨cn3.2.1 _ _ xB3, fun S3 e3 => ?_⟩⟩
  rw [n2] at cn3 t3
  have G3 := stg (x := x) (o := x + 3) (W := 12) a2 n2 (by omega) eA3 eU3 (cn3) e3 (by omega) (by omega)
  obtain ⟨a3, x3, n3, C3, D3, K3, R3, g3, Q3⟩ := G3
  have n3 : A3.2.1 = x + 15 := by rw [n3]
  have C3 : A3.2.2.1 = A.2.2.1 + 14 := by rw [C3, C2]
  have D3 : A3.2.2.2 = A.2.2.2 + 1090 := by rw [D3, D2]
  have h3 : A3.1 x = some (9, 0) := x3 _ _ h2
  refine ⟨by rw [C3]; exact (caps 15 0 (by omega) (by omega)).1, by rw [D3]; exact (caps 0 1099 (by omega) (by omega)).2, fun B4 U4 eA4 eU4 => ?_⟩
  have xB4 : B4.1 x = some (9, 0) := by rw [eA4]; exact a3.ax _ _ h3
  have cB4 : B4.2.2.1 = A.2.2.1 + 15 := by rw [eA4]; show A3.2.2.1 + 1 = _; rw [C3]
  have dB4 : B4.2.2.2 = A.2.2.2 + 1099 := by rw [eA4]; show A3.2.2.2 + 9 = _; rw [D3]
  have N4 : Nw B4 U4 A3.2.1 7 := Nw.new a3 rfl eA4 eU4
  refine ⟨wc rfl, by rw [cB4]; exact (caps 26 0 (by omega) (by omega)).1, by rw [dB4]; exact (caps 0 1271 (by omega) (by omega)).2, ct_tdInit N4 fun A4 T4 cn4 t4 => ⟨cn4.2.1 _ _ xB4, fun S4 e4 => ?_⟩⟩
  rw [n3] at cn4 t4
  have G4 := stg (x := x) (o := x + 15) (W := 12) a3 n3 (by omega) eA4 eU4 (cn4) e4 (by omega) (by omega)
  obtain ⟨a4, x4, n4, C4, D4, K4, R4, g4, Q4⟩ := G4
  have n4 : A4.2.1 = x + 27 := by rw [n4]
  have C4 : A4.2.2.1 = A.2.2.1 + 26 := by rw [C4, C3]
  have D4 : A4.2.2.2 = A.2.2.2 + 1271 := by rw [D4, D3]
  have h4 : A4.1 x = some (9, 0) := x4 _ _ h3
  refine ⟨by rw [C4]; exact (caps 27 0 (by omega) (by omega)).1, by rw [D4]; exact (caps 0 1279 (by omega) (by omega)).2, fun B5 U5 eA5 eU5 => ?_⟩
  have xB5 : B5.1 x = some (9, 0) := by rw [eA5]; exact a4.ax _ _ h4
  have cB5 : B5.2.2.1 = A.2.2.1 + 27 := by rw [eA5]; show A4.2.2.1 + 1 = _; rw [C4]
  have dB5 : B5.2.2.2 = A.2.2.2 + 1279 := by rw [eA5]; show A4.2.2.2 + 8 = _; rw [D4]
  have N5 : Nw B5 U5 A4.2.1 8 := Nw.new a4 rfl eA5 eU5
  refine ⟨wc rfl, by rw [cB5]; exact (caps 33 0 (by omega) (by omega)).1, by rw [dB5]; exact (caps 0 1423 (by omega) (by omega)).2, ct_trInit (r := 24) N5 (by omega) fun A5 T5 cn5 t5 => ⟨cn5.2.1 _ _ xB5, fun S5 e5 => ?_⟩⟩
  rw [n4] at cn5 t5
  have G5 := stg (x := x) (o := x + 27) (W := 7) a4 n4 (by omega) eA5 eU5 (cn5) e5 (by omega) (by omega)
  obtain ⟨a5, x5, n5, C5, D5, K5, R5, g5, Q5⟩ := G5
  have n5 : A5.2.1 = x + 34 := by rw [n5]
  have C5 : A5.2.2.1 = A.2.2.1 + 33 := by rw [C5, C4]
  have D5 : A5.2.2.2 = A.2.2.2 + 1423 := by rw [D5, D4]
  have h5 : A5.1 x = some (9, 0) := x5 _ _ h4
  refine ⟨by rw [C5]; exact (caps 34 0 (by omega) (by omega)).1, by rw [D5]; exact (caps 0 1431 (by omega) (by omega)).2, fun B6 U6 eA6 eU6 => ?_⟩
  have xB6 : B6.1 x = some (9, 0) := by rw [eA6]; exact a5.ax _ _ h5
  have cB6 : B6.2.2.1 = A.2.2.1 + 34 := by rw [eA6]; show A5.2.2.1 + 1 = _; rw [C5]
  have dB6 : B6.2.2.2 = A.2.2.2 + 1431 := by rw [eA6]; show A5.2.2.2 + 8 = _; rw [D5]
  have N6 : Nw B6 U6 A5.2.1 8 := Nw.new a5 rfl eA6 eU6
  refine ⟨wc rfl, by rw [cB6]; exact (caps 40 0 (by omega) (by omega)).1, by rw [dB6]; exact (caps 0 1575 (by omega) (by omega)).2, ct_trInit (r := 24) N6 (by omega) fun A6 T6 cn6 t6 => ⟨cn6.2.1 _ _ xB6, fun S6 e6 => ?_⟩⟩
  rw [n5] at cn6 t6
  have G6 := stg (x := x) (o := x + 34) (W := 7) a5 n5 (by omega) eA6 eU6 (cn6) e6 (by omega) (by omega)
  obtain ⟨a6, x6, n6, C6, D6, K6, R6, g6, Q6⟩ := G6
  have n6 : A6.2.1 = x + 41 := by rw [n6]
  have C6 : A6.2.2.1 = A.2.2.1 + 40 := by rw [C6, C5]
  have D6 : A6.2.2.2 = A.2.2.2 + 1575 := by rw [D6, D5]
  have h6 : A6.1 x = some (9, 0) := x6 _ _ h5
  refine ⟨by rw [C6]; exact (caps 41 0 (by omega) (by omega)).1, by rw [D6]; exact (caps 0 1585 (by omega) (by omega)).2, fun B7 U7 eA7 eU7 => ?_⟩
  have xB7 : B7.1 x = some (9, 0) := by rw [eA7]; exact a6.ax _ _ h6
  have cB7 : B7.2.2.1 = A.2.2.1 + 41 := by rw [eA7]; show A6.2.2.1 + 1 = _; rw [C6]
  have dB7 : B7.2.2.2 = A.2.2.2 + 1585 := by rw [eA7]; show A6.2.2.2 + 10 = _; rw [D6]
  have N7 : Nw B7 U7 A6.2.1 0 := Nw.new a6 rfl eA7 eU7
  refine ⟨wc rfl, by rw [cB7]; exact (caps 184 0 (by omega) (by omega)).1, by rw [dB7]; exact (caps 0 9265 (by omega) (by omega)).2, ct_bkInit N7 fun A7 T7 cn7 t7 => ⟨cn7.2.1 _ _ xB7, fun S7 e7 => ?_⟩⟩
  rw [n6] at cn7 t7
  have G7 := stg (x := x) (o := x + 41) (W := 144) a6 n6 (by omega) eA7 eU7 (cn7) e7 (by omega) (by omega)
  obtain ⟨a7, x7, n7, C7, D7, K7, R7, g7, Q7⟩ := G7
  have n7 : A7.2.1 = x + 185 := by rw [n7]
  have C7 : A7.2.2.1 = A.2.2.1 + 184 := by rw [C7, C6]
  have D7 : A7.2.2.2 = A.2.2.2 + 9265 := by rw [D7, D6]
  have h7 : A7.1 x = some (9, 0) := x7 _ _ h6
  refine ⟨by rw [C7]; exact (caps 185 0 (by omega) (by omega)).1, by rw [D7]; exact (caps 0 9275 (by omega) (by omega)).2, fun B8 U8 eA8 eU8 => ?_⟩
  have xB8 : B8.1 x = some (9, 0) := by rw [eA8]; exact a7.ax _ _ h7
  have cB8 : B8.2.2.1 = A.2.2.1 + 185 := by rw [eA8]; show A7.2.2.1 + 1 = _; rw [C7]
  have dB8 : B8.2.2.2 = A.2.2.2 + 9275 := by rw [eA8]; show A7.2.2.2 + 10 = _; rw [D7]
  have N8 : Nw B8 U8 A7.2.1 0 := Nw.new a7 rfl eA8 eU8
  refine ⟨wc rfl, by rw [cB8]; exact (caps 328 0 (by omega) (by omega)).1, by rw [dB8]; exact (caps 0 16955 (by omega) (by omega)).2, ct_bkInit N8 fun A8 T8 cn8 t8 => ⟨cn8.2.1 _ _ xB8, fun S8 e8 => ?_⟩⟩
  rw [n7] at cn8 t8
  have G8 := stg (x := x) (o := x + 185) (W := 144) a7 n7 (by omega) eA8 eU8 (cn8) e8 (by omega) (by omega)
  obtain ⟨a8, x8, n8, C8, D8, K8, R8, g8, Q8⟩ := G8
  have n8 : A8.2.1 = x + 329 := by rw [n8]
  have C8 : A8.2.2.1 = A.2.2.1 + 328 := by rw [C8, C7]
  have D8 : A8.2.2.2 = A.2.2.2 + 16955 := by rw [D8, D7]
  have h8 : A8.1 x = some (9, 0) := x8 _ _ h7
  refine ⟨by rw [C8]; exact (caps 329 0 (by omega) (by omega)).1, by rw [D8]; exact (caps 0 16957 (by omega) (by omega)).2, fun B9 U9 eA9 eU9 => ?_⟩
  have xB9 : B9.1 x = some (9, 0) := by rw [eA9]; exact a8.ax _ _ h8
  have cB9 : B9.2.2.1 = A.2.2.1 + 329 := by rw [eA9]; show A8.2.2.1 + 1 = _; rw [C8]
  have dB9 : B9.2.2.2 = A.2.2.2 + 16957 := by rw [eA9]; show A8.2.2.2 + 2 = _; rw [D8]
  have N9 : Nw B9 U9 A8.2.1 2 := Nw.new a8 rfl eA9 eU9
  refine ⟨wc rfl, by rw [cB9]; exact (caps 442 0 (by omega) (by omega)).1, by rw [dB9]; exact (caps 0 19405 (by omega) (by omega)).2, ct_hiInit N9 fun A9 T9 cn9 hk9 hl9 hr9 hg9 ht9 => ⟨cn9.2.1 _ _ xB9, fun S9 e9 => ?_⟩⟩
  rw [n8] at cn9 hk9 hl9 hr9 hg9 ht9
  have G9 := stg (x := x) (o := x + 329) (W := 114) a8 n8 (by omega) eA9 eU9 (cn9) e9 (by omega) (by omega)
  obtain ⟨a9, x9, n9, C9, D9, K9, R9, g9, Q9⟩ := G9
  have n9 : A9.2.1 = x + 443 := by rw [n9]
  have C9 : A9.2.2.1 = A.2.2.1 + 442 := by rw [C9, C8]
  have D9 : A9.2.2.2 = A.2.2.2 + 19405 := by rw [D9, D8]
  have h9 : A9.1 x = some (9, 0) := x9 _ _ h8
  refine ⟨by decide, by decide, by rw [C9]; exact (caps 443 0 (by omega) (by omega)).1, by rw [D9]; exact (caps 0 19408 (by omega) (by omega)).2, fun B10 U10 eA10 eU10 => ?_⟩
  have xB10 : B10.1 x = some (9, 0) := by rw [eA10]; exact a9.ax _ _ h9
  have cB10 : B10.2.2.1 = A.2.2.1 + 443 := by rw [eA10]; show A9.2.2.1 + 1 = _; rw [C9]
  have dB10 : B10.2.2.2 = A.2.2.2 + 19408 := by rw [eA10]; show A9.2.2.2 + 3 = _; rw [D9]
  refine ⟨xB10, fun S10 e10 => ?_⟩
  have kd10 : B10.1 (x + 443) = some (18, 3) := by rw [eA10, ← n9]; exact newA_at
  obtain ⟨A10, eB10⟩ : ∃ A10, A10 = B10 := ⟨_, rfl⟩
  obtain ⟨T10, eT10⟩ : ∃ T10, T10 = U10 := ⟨_, rfl⟩
  have G10 := stg (x := x) (o := x + 443) (W := 1) a9 n9 (by omega) eA10 eU10 (Cn.one (by rw [eA10]; exact a9.new) (by rw [eA10]; show A9.2.1 + 1 = _; rw [n9])) e10 (by omega) (by omega)
  rw [← eB10, ← eT10] at G10
  rw [← eB10] at kd10 xB10
  obtain ⟨a10, x10, n10, C10, D10, K10, R10, g10, Q10⟩ := G10
  have n10 : A10.2.1 = x + 444 := by rw [n10]
  have C10 : A10.2.2.1 = A.2.2.1 + 443 := by rw [C10, C9]
  have D10 : A10.2.2.2 = A.2.2.2 + 19408 := by rw [D10, D9]
  have h10 : A10.1 x = some (9, 0) := x10 _ _ h9
  rw [← eB10]
  clear eA10 eU10 e10 eB10 cB10 dB10
  refine ⟨by rw [C10]; exact (caps 444 0 (by omega) (by omega)).1, by rw [D10]; exact (caps 0 19411 (by omega) (by omega)).2, fun B11 U11 eA11 eU11 => ?_⟩
  have xB11 : B11.1 x = some (9, 0) := by rw [eA11]; exact a10.ax _ _ h10
  have cB11 : B11.2.2.1 = A.2.2.1 + 444 := by rw [eA11]; show A10.2.2.1 + 1 = _; rw [C10]
  have dB11 : B11.2.2.2 = A.2.2.2 + 19411 := by rw [eA11]; show A10.2.2.2 + 3 = _; rw [D10]
  have N11 : Nw B11 U11 A10.2.1 1 := Nw.new a10 rfl eA11 eU11
  refine ⟨wc rfl, by rw [cB11]; exact (caps 445 0 (by omega) (by omega)).1, by rw [dB11]; exact (caps 0 19427 (by omega) (by omega)).2, ct_fiInit N11 fun A11 T11 cn11 hk11 hl11 hr11 hg11 => ⟨cn11.2.1 _ _ xB11, fun S11 e11 => ?_⟩⟩
  rw [n10] at cn11 hk11 hl11 hr11 hg11
  have G11 := stg (x := x) (o := x + 444) (W := 2) a10 n10 (by omega) eA11 eU11 (cn11) e11 (by omega) (by omega)
  obtain ⟨a11, x11, n11, C11, D11, K11, R11, g11, Q11⟩ := G11
  have n11 : A11.2.1 = x + 446 := by rw [n11]
  have C11 : A11.2.2.1 = A.2.2.1 + 445 := by rw [C11, C10]
  have D11 : A11.2.2.2 = A.2.2.2 + 19427 := by rw [D11, D10]
  have h11 : A11.1 x = some (9, 0) := x11 _ _ h10
  have hx11 : ∀ k, gI S11 x k = 0 := fun k => by rw [g11, g10, g9, g8, g7, g6, g5, g4, g3, g2, g1]; exact (hz k).1
  have loop : ∀ g i Az Sz, i + g = 3 → Lp QT 7 7 152 A11 S11 (x + 443) (x + 446) i Az Sz → J 126 [some (.ref x), some (.int (nI i))] [] Az Sz := by
    intro g
    induction g with
    | zero =>
      intro i Az Sz hi h
      have ei : i = 3 := by omega
      subst ei
      have hL := h
      obtain ⟨l1, l2, l4, l5, l6, l7, l8, l9, l10⟩ := h
      refine sX9_init_126 hJ ⟨fun _ => ?_, fun z => absurd (by decide) z⟩
      have KL : Kq x (x + 446) S11 Sz := ⟨fun b hb c1 c2 k => ⟨(l8 b k hb).1, (l8 b k hb).2, l9 b k hb (fun z => absurd z c2)⟩, (hL.fr (by omega)).wide (by omega) (by omega)⟩
      have rx : ∀ k, gR Sz x k = gR S11 x k := fun k => l9 x k (by omega) (by omega)
      have gx : ∀ k, gI Sz x k = 0 := fun k => (l8 x k (by omega)).1.trans (hx11 k)
      have Z11 : Kq x (x + 446) S11 Sz := KL
      have Y11 : Ax A11 Az := l2
      have Z10 : Kq x (x + 444) S10 Sz := K11.trans Z11 (by omega)
      have Y10 : Ax A10 Az := x11.trans Y11
      have Z9 : Kq x (x + 443) S9 Sz := K10.trans Z10 (by omega)
      have Y9 : Ax A9 Az := x10.trans Y10
      have Z8 : Kq x (x + 329) S8 Sz := K9.trans Z9 (by omega)
      have Y8 : Ax A8 Az := x9.trans Y9
      have Z7 : Kq x (x + 185) S7 Sz := K8.trans Z8 (by omega)
      have Y7 : Ax A7 Az := x8.trans Y8
      have Z6 : Kq x (x + 41) S6 Sz := K7.trans Z7 (by omega)
      have Y6 : Ax A6 Az := x7.trans Y7
      have Z5 : Kq x (x + 34) S5 Sz := K6.trans Z6 (by omega)
      have Y5 : Ax A5 Az := x6.trans Y6
      have Z4 : Kq x (x + 27) S4 Sz := K5.trans Z5 (by omega)
      have Y4 : Ax A4 Az := x5.trans Y5
      have Z3 : Kq x (x + 15) S3 Sz := K4.trans Z4 (by omega)
      have Y3 : Ax A3 Az := x4.trans Y4
      have Z2 : Kq x (x + 3) S2 Sz := K3.trans Z3 (by omega)
      have Y2 : Ax A2 Az := x3.trans Y3
      have Z1 : Kq x (x + 2) S1 Sz := K2.trans Z2 (by omega)
      have Y1 : Ax A1 Az := x2.trans Y2
      have F1 : Kq x (x + 2) T1 Sz := Q1.trans Z1 (by omega)
      have F2 : Kq x (x + 3) T2 Sz := Q2.trans Z2 (by omega)
      have F3 : Kq x (x + 15) T3 Sz := Q3.trans Z3 (by omega)
      have F4 : Kq x (x + 27) T4 Sz := Q4.trans Z4 (by omega)
      have F5 : Kq x (x + 34) T5 Sz := Q5.trans Z5 (by omega)
      have F6 : Kq x (x + 41) T6 Sz := Q6.trans Z6 (by omega)
      have F7 : Kq x (x + 185) T7 Sz := Q7.trans Z7 (by omega)
      have F8 : Kq x (x + 329) T8 Sz := Q8.trans Z8 (by omega)
      have F9 : Kq x (x + 443) T9 Sz := Q9.trans Z9 (by omega)
      have F10 : Kq x (x + 444) T10 Sz := Q10.trans Z10 (by omega)
      have F11 : Kq x (x + 446) T11 Sz := Q11.trans Z11 (by omega)
      have Y0 : Ax A Az := x1.trans Y1
      have Z0 : Fr S Sz x (x + 467) := K1.2.trans Z1.2
      exact ⟨rfl, rfl, rfl, hf _ _ ⟨l1, Y0, by rw [l4], rfl, rfl, Z0⟩ (XAt0 (A := (Az.1, Az.2.1, A.2.2.1 + 466, A.2.2.2 + 19883)) ⟨Y0 _ _ hq, Y1 _ _ kd1, Y2 _ _ kd2, Y9 _ _ hk9, Y9 _ _ hl9, Y10 _ _ kd10, Y11 _ _ hk11, Y11 _ _ hl11⟩ (by rw [rx, R11, if_neg (by decide), R10, if_neg (by decide), R9, if_neg (by decide), R8, if_neg (by decide), R7, if_neg (by decide), R6, if_neg (by decide), R5, if_neg (by decide), R4, if_neg (by decide), R3, if_neg (by decide), R2, if_neg (by decide), R1, if_pos rfl]) (by rw [rx, R11, if_neg (by decide), R10, if_neg (by decide), R9, if_neg (by decide), R8, if_neg (by decide), R7, if_neg (by decide), R6, if_neg (by decide), R5, if_neg (by decide), R4, if_neg (by decide), R3, if_neg (by decide), R2, if_pos rfl]) (by rw [rx, R11, if_neg (by decide), R10, if_neg (by decide), R9, if_neg (by decide), R8, if_neg (by decide), R7, if_neg (by decide), R6, if_neg (by decide), R5, if_neg (by decide), R4, if_neg (by decide), R3, if_pos rfl]) (by rw [rx, R11, if_neg (by decide), R10, if_neg (by decide), R9, if_neg (by decide), R8, if_neg (by decide), R7, if_neg (by decide), R6, if_neg (by decide), R5, if_neg (by decide), R4, if_pos rfl]) (by rw [rx, R11, if_neg (by decide), R10, if_neg (by decide), R9, if_neg (by decide), R8, if_neg (by decide), R7, if_neg (by decide), R6, if_neg (by decide), R5, if_pos rfl]) (by rw [rx, R11, if_neg (by decide), R10, if_neg (by decide), R9, if_neg (by decide), R8, if_neg (by decide), R7, if_neg (by decide), R6, if_pos rfl]) (by rw [rx, R11, if_neg (by decide), R10, if_neg (by decide), R9, if_neg (by decide), R8, if_neg (by decide), R7, if_pos rfl]) (by rw [rx, R11, if_neg (by decide), R10, if_neg (by decide), R9, if_neg (by decide), R8, if_pos rfl]) (by rw [rx, R11, if_neg (by decide), R10, if_neg (by decide), R9, if_pos rfl]) (by rw [rx, R11, if_neg (by decide), R10, if_pos rfl]) (by rw [rx, R11, if_pos rfl]) gx F1 zt F3 t3 Y3 F4 t4 Y4 F5 t5 Y5 F6 t6 Y6 F7 t7 Y7 F8 t8 Y8 F9 hr9 hg9 ht9 Y9 F11 hr11 hg11 l7)⟩
    | succ g ih =>
      intro i Az Sz hi h
      have hL := h
      obtain ⟨l1, l2, l4, l5, l6, l7, l8, l9, l10⟩ := h
      have r0 : gR Sz x 11 = some (x + 443) := by rw [l9 x 11 (by omega) (by omega), R11, if_neg (by decide), R10, if_pos rfl]
      refine sX9_init_126 hJ ⟨fun z => absurd ((nIle (a := 3) (by omega) (by omega)).1 z) (by omega), fun _ => ⟨l2 _ _ h11, x + 443, r0, ?_, ?_, fun A3 S3' eA3 eS3 => ?_⟩⟩
      · rw [l5, C11]; exact Nat.le_trans (m := A.2.2.1 + (445 + 7 * i + 1)) (by omega) (caps (445 + 7 * i + 1) 0 (by omega) (by omega)).1
      · rw [l6, D11]; exact Nat.le_trans (m := A.2.2.2 + (19427 + 152 * i + 8)) (by omega) (caps 0 (19427 + 152 * i + 8) (by omega) (by omega)).2
      · have c3 : A3.2.2.1 = Az.2.2.1 + 1 := by rw [eA3]; rfl
        have s3 : A3.2.2.2 = Az.2.2.2 + 8 := by rw [eA3]; rfl
        refine ⟨wc rfl, ?_, ?_, ?_⟩
        · rw [c3, l5, C11]; exact Nat.le_trans (m := A.2.2.1 + (445 + 7 * i + 1 + 6)) (by omega) (caps (445 + 7 * i + 1 + 6) 0 (by omega) (by omega)).1
        · rw [s3, l6, D11]; exact Nat.le_trans (m := A.2.2.2 + (19427 + 152 * i + 8 + 144)) (by omega) (caps 0 (19427 + 152 * i + 8 + 144) (by omega) (by omega)).2
        · have N3' : Nw A3 S3' Az.2.1 8 := Nw.new l1 rfl eA3 eS3
          refine ct_trInit (r := 24) N3' (by omega) fun A4' S4' cn t4' => ⟨3, ?_, vp_n (by omega) (by omega), t4'.1.1, fun S5' e5' => ?_⟩
          · exact cn.2.1 _ _ (by rw [eA3]; exact l1.ax _ _ (l2 _ _ (x11 _ _ kd10)))
          · rw [cl_n (by omega)] at e5'
            rw [nI_1]
            rw [l4] at cn t4'
            exact ih (i + 1) A4' S5' (by omega) (hL.step QT.st (by omega) (by omega) eA3 eS3 cn t4' e5' rfl rfl)
  exact loop 3 0 A11 S11 (by omega) (Lp.zero a11 n11)
end
