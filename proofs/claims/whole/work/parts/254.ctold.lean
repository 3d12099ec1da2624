/-! the class: what is told, piece by piece -/
def TdF (A : qA) (S : qS) (a : Nat) (bg : Bool) (td : Tld) : Prop := gI S a 0 = bI bg ∧ TdAt A S a td
section
variable {d : Nat} {A : qA} {S S' : qS} {a : Nat} {td : Tld} {bg : Bool}
theorem TdF.cel {lo hi : Nat} (h : TdF A S a bg td) (hs : Same S S' a 12) (hF : Fr S S' lo hi) : TdF A S' a bg td := ⟨(hs a (by omega) (by omega) 0).1.trans h.1, h.2.cel hs hF⟩
theorem TrAt.cut {b r : Nat} {T : List Row} (h : TrAt A S b r T) : TrAt A (uI S b 7 0) b r [] := by
  obtain ⟨hL, ⟨q0, q1, q2, q3, q4, q5, q6⟩, hC, h1, h2⟩ := h
  refine ⟨hL, ⟨?_, q1, q2, q3, q4, q5, q6⟩, ⟨?_, fun i hi => absurd hi (Nat.not_lt_zero _)⟩, Nat.zero_le _, h2⟩
  · rw [gI_uI, if_neg (by omega)]; exact q0
  · rw [gI_uI, if_pos ⟨rfl, rfl⟩]; rfl
set_option maxRecDepth 20000 in
theorem ct_forgetAll {f : qS → Prop} (h : TdAt A S a td) (hf : ∀ S', TdF A S' a false td0 → Fr S S' a (a + 12) → f S') : Run (d + 1) 53 [.ref a] A S (kV A f) := by
  refine Run.i (C := mX7_forgetAll) rfl rfl rfl fun J hJ => ?_
  obtain ⟨⟨k1, k2, k3, k4, k5⟩, ⟨p1, p2, p3, p4, p5⟩, tT, t1, t2, t3, t4, t5, t6, t7⟩ := h
  refine sX7_forgetAll_0 hJ ⟨k1, Or.inl rfl, fun S1 e1 => ⟨k1, fun S2 e2 => ⟨k1, a + 1, by rw [e2, e1]; exact p1, tT.1.1, fun S3 e3 => ⟨k1, fun S4 e4 => ⟨k1, fun S5 e5 => kV_i (hf S5 ?_ ?_)⟩⟩⟩⟩⟩
  · have hT0 : TrAt A (uI S (a + 1) 7 0) (a + 1) 16 [] := tT.cut
    have same : ∀ b k, a < b → b < a + 12 → gI S5 b k = gI (uI S (a + 1) 7 0) b k := by
      intro b k hb1 hb2
      rw [e5, gI_uI, if_neg (by omega), e4, gI_uI, if_neg (by omega), e3, gI_uI, gI_uI]
      by_cases c : b = a + 1 ∧ k = 7
      · rw [if_pos c, if_pos c]
      · rw [if_neg c, if_neg c, e2, gI_uI, if_neg (by omega), e1, gI_uI, if_neg (by omega)]
    have er : ∀ b k, gR S5 b k = gR S b k := fun b k => by rw [e5, e4, e3, e2, e1]; rfl
    have el : ∀ b k, gL S5 b k = gL S b k := fun b k => by rw [e5, e4, e3, e2, e1]; rfl
    have fr : Fr (uI S (a + 1) 7 0) S5 a (a + 12) := by
      intro b hb k
      refine ⟨?_, el b k, er b k⟩
      rw [e5, gI_uI, if_neg (by omega), e4, gI_uI, if_neg (by omega), e3, gI_uI, if_neg (by omega), e2, gI_uI, if_neg (by omega), e1, gI_uI, if_neg (by omega), gI_uI, if_neg (by omega)]
    refine ⟨?_, ⟨k1, k2, k3, k4, k5⟩, ⟨(er _ _).trans p1, (er _ _).trans p2, (er _ _).trans p3, (er _ _).trans p4, (er _ _).trans p5⟩, hT0.cel (fun b b1 b2 k => ⟨same b k (by omega) (by omega), el b k, er b k⟩) fr, ?_, ?_, Nat.zero_le _, fun i hi => absurd hi (Nat.not_lt_zero _), ?_, Nat.zero_le _, fun i hi => absurd hi (Nat.not_lt_zero _)⟩
    · rw [e5, gI_uI, if_neg (by omega), e4, gI_uI, if_neg (by omega), e3, gI_uI, if_neg (by omega), e2, gI_uI, if_neg (by omega), e1, gI_uI, if_pos ⟨rfl, rfl⟩]; rfl
    · rw [e5, gI_uI, if_neg (by omega), e4, gI_uI, if_neg (by omega), e3, gI_uI, if_neg (by omega), e2, gI_uI, if_pos ⟨rfl, rfl⟩]; rfl
    · rw [e5, gI_uI, if_neg (by omega), e4, gI_uI, if_pos ⟨rfl, rfl⟩]; rfl
    · rw [e5, gI_uI, if_pos ⟨rfl, rfl⟩]; rfl
  · rw [e5, e4, e3, e2, e1]
    exact ((((Fr.rf.uI (by omega) (by omega)).uI (by omega) (by omega)).uI (by omega) (by omega)).uI (by omega) (by omega)).uI (by omega) (by omega)
theorem stB_mono {L : List (Int32 × Int32)} {t : Int32} {i g : Nat} (hi : i + 1 + g = L.length) (z : (ug L i).1 = t) : stB L t = true := by
  have mono : ∀ k, stG (fun i => (ug L i).1) t (i + 1 + k) = true := by
    intro k
    induction k with
    | zero => rw [Nat.add_zero, stG, decide_eq_true z, Bool.or_true]
    | succ k ihk => rw [← Nat.add_assoc, stG, ihk, Bool.true_or]
  rw [stB, ← hi]
  exact mono g
set_option maxRecDepth 20000 in
theorem ct_isUnsure {t : Int32} {f : Bool → qS → Prop} (h : TdAt A S a td) (hf : f (stB td.2.2.1 t) S) : Run (d + 1) 54 [.ref a, .int t] A S (kZ A f) := by
  refine Run.i (C := mX7_isUnsure) rfl rfl rfl fun J hJ => ?_
  obtain ⟨⟨k1, k2, k3, k4, k5⟩, ⟨p1, p2, p3, p4, p5⟩, tT, t1, t2, t3, t4, t5, t6, t7⟩ := h
  have loop : ∀ g i, i + g = td.2.2.1.length → stG (fun i => (ug td.2.2.1 i).1) t i = false → J 2 [some (.ref a), some (.int t), some (.int (nI i))] [] A S := by
    intro g
    induction g with
    | zero =>
      intro i hi hs
      refine sX7_isUnsure_2 hJ ⟨k1, ?_⟩
      rw [t2]
      refine ⟨fun _ => ⟨Or.inl rfl, kZ_0 ?_⟩, fun z => absurd ((nIle (by omega) (by omega)).2 (by omega)) z⟩
      rwa [show stB td.2.2.1 t = false by rw [stB, ← show i = td.2.2.1.length by omega]; exact hs] at hf
    | succ g ih =>
      intro i hi hs
      refine sX7_isUnsure_2 hJ ⟨k1, ?_⟩
      rw [t2]
      refine ⟨fun z => absurd ((nIle (by omega) (by omega)).1 z) (by omega), fun _ => ⟨k1, a + 8, p2, 4, k2, vp_n (by omega) (by omega), ?_⟩⟩
      rw [cl_n (by omega), (t4 i (by omega)).1, nI_1]
      refine ⟨fun z => ih (i + 1) (by omega) ?_, fun z => ⟨Or.inr rfl, kZ_1 ?_⟩⟩
      · rw [stG, hs, decide_eq_false z]; rfl
      · rwa [stB_mono (g := g) (by omega) z] at hf
  exact sX7_isUnsure_0 hJ (loop td.2.2.1.length 0 (by omega) rfl)
set_option maxRecDepth 20000 in
theorem ct_hasGain {t : Int32} {f : Bool → qS → Prop} (h : TdAt A S a td) (hf : f (stB td.2.2.2 t) S) : Run (d + 1) 55 [.ref a, .int t] A S (kZ A f) := by
  refine Run.i (C := mX7_hasGain) rfl rfl rfl fun J hJ => ?_
  obtain ⟨⟨k1, k2, k3, k4, k5⟩, ⟨p1, p2, p3, p4, p5⟩, tT, t1, t2, t3, t4, t5, t6, t7⟩ := h
  have loop : ∀ g i, i + g = td.2.2.2.length → stG (fun i => (ug td.2.2.2 i).1) t i = false → J 2 [some (.ref a), some (.int t), some (.int (nI i))] [] A S := by
    intro g
    induction g with
    | zero =>
      intro i hi hs
      refine sX7_hasGain_2 hJ ⟨k1, ?_⟩
      rw [t5]
      refine ⟨fun _ => ⟨Or.inl rfl, kZ_0 ?_⟩, fun z => absurd ((nIle (by omega) (by omega)).2 (by omega)) z⟩
      rwa [show stB td.2.2.2 t = false by rw [stB, ← show i = td.2.2.2.length by omega]; exact hs] at hf
    | succ g ih =>
      intro i hi hs
      refine sX7_hasGain_2 hJ ⟨k1, ?_⟩
      rw [t5]
      refine ⟨fun z => absurd ((nIle (by omega) (by omega)).1 z) (by omega), fun _ => ⟨k1, a + 10, p4, 6, k4, vp_n (by omega) (by omega), ?_⟩⟩
      rw [cl_n (by omega), (t7 i (by omega)).1, nI_1]
      refine ⟨fun z => ih (i + 1) (by omega) ?_, fun z => ⟨Or.inr rfl, kZ_1 ?_⟩⟩
      · rw [stG, hs, decide_eq_false z]; rfl
      · rwa [stB_mono (g := g) (by omega) z] at hf
  exact sX7_hasGain_0 hJ (loop td.2.2.2.length 0 (by omega) rfl)
set_option maxRecDepth 20000 in
theorem ct_addUnsure {t v : Int32} {f : qS → Prop} (h : TdF A S a bg td) (hl : td.2.2.1.length < 4) (hf : ∀ S', TdF A S' a bg (td.1, td.2.1, td.2.2.1 ++ [(t, v)], td.2.2.2) → Fr S S' a (a + 12) → f S') : Run (d + 1) 56 [.ref a, .int t, .int v] A S (kV A f) := by
  refine Run.i (C := mX7_addUnsure) rfl rfl rfl fun J hJ => ?_
  obtain ⟨h0, ⟨k1, k2, k3, k4, k5⟩, ⟨p1, p2, p3, p4, p5⟩, tT, t1, t2, t3, t4, t5, t6, t7⟩ := h
  refine sX7_addUnsure_0 hJ ⟨k1, ?_⟩
  rw [t2, cl_n (by omega)]
  refine ⟨fun z => absurd ((nIle (a := 4) (by omega) (by omega)).1 z) (by omega), fun _ => ⟨k1, a + 8, p2, k1, 4, k2, vp_n hl (by omega), fun S1 e1 => ⟨k1, a + 9, by rw [e1]; exact p3, k1, 4, k3, ?_⟩⟩⟩
  have g1 : gI S1 a 5 = nI td.2.2.1.length := by rw [e1, gI_uI, if_neg (by omega)]; exact t2
  rw [g1, cl_n (by omega)]
  refine ⟨vp_n hl (by omega), fun S2 e2 => ⟨k1, k1, fun S3 e3 => kV_i (hf S3 ?_ ?_)⟩⟩
  · have g2 : gI S2 a 5 = nI td.2.2.1.length := by rw [e2, gI_uI, if_neg (by omega)]; exact g1
    rw [g2, nI_1] at e3
    have er : ∀ b k, gR S3 b k = gR S b k := fun b k => by rw [e3, e2, e1]; rfl
    have el : ∀ b k, gL S3 b k = gL S b k := fun b k => by rw [e3, e2, e1]; rfl
    have same : ∀ b k, ¬ (b = a ∧ k = 5) → ¬ b = a + 8 → ¬ b = a + 9 → gI S3 b k = gI S b k := by
      intro b k c1 c2 c3
      rw [e3, gI_uI, if_neg c1, e2, gI_uI, if_neg (fun z => c3 z.1), e1, gI_uI, if_neg (fun z => c2 z.1)]
    have fr : Fr S S3 a (a + 12) := fun b hb k => ⟨same b k (by omega) (by omega) (by omega), el b k, er b k⟩
    refine ⟨(same _ _ (by omega) (by omega) (by omega)).trans h0, ⟨k1, k2, k3, k4, k5⟩, ⟨(er _ _).trans p1, (er _ _).trans p2, (er _ _).trans p3, (er _ _).trans p4, (er _ _).trans p5⟩, tT.cel (fun b b1 b2 k => ⟨same b k (by omega) (by omega) (by omega), el b k, er b k⟩) fr, (same _ _ (by omega) (by omega) (by omega)).trans t1, ?_, ?_, fun i hi => ?_, (same _ _ (by omega) (by omega) (by omega)).trans t5, t6, fun i hi => ?_⟩
    · rw [e3, gI_uI, if_pos ⟨rfl, rfl⟩, List.length_append, List.length_singleton]
    · rw [List.length_append, List.length_singleton]; omega
    · rw [List.length_append, List.length_singleton] at hi
      by_cases e : i = td.2.2.1.length
      · subst e
        rw [ug_end, e3, gI_uI, if_neg (by omega), gI_uI, if_neg (by omega), e2, gI_uI, if_neg (by omega), gI_uI, if_pos ⟨rfl, rfl⟩, e1, gI_uI, if_pos ⟨rfl, rfl⟩]
        exact ⟨rfl, rfl⟩
      · rw [ug_app (by omega), e3, gI_uI, if_neg (by omega), gI_uI, if_neg (by omega), e2, gI_uI, if_neg (by omega), gI_uI, if_neg (by omega), e1, gI_uI, if_neg (by omega), gI_uI, if_neg (by omega)]
        exact t4 i (by omega)
    · rw [same _ _ (by omega) (by omega) (by omega), same _ _ (by omega) (by omega) (by omega)]
      exact t7 i hi
  · rw [e3, e2, e1]
    exact ((Fr.rf.uI (by omega) (by omega)).uI (by omega) (by omega)).uI (by omega) (by omega)
set_option maxRecDepth 20000 in
theorem ct_addGain {t v : Int32} {f : qS → Prop} (h : TdF A S a bg td) (hl : td.2.2.2.length < 6) (hf : ∀ S', TdF A S' a bg (td.1, td.2.1, td.2.2.1, td.2.2.2 ++ [(t, v)]) → Fr S S' a (a + 12) → f S') : Run (d + 1) 57 [.ref a, .int t, .int v] A S (kV A f) := by
  refine Run.i (C := mX7_addGain) rfl rfl rfl fun J hJ => ?_
  obtain ⟨h0, ⟨k1, k2, k3, k4, k5⟩, ⟨p1, p2, p3, p4, p5⟩, tT, t1, t2, t3, t4, t5, t6, t7⟩ := h
  refine sX7_addGain_0 hJ ⟨k1, ?_⟩
  rw [t5, cl_n (by omega)]
  refine ⟨fun z => absurd ((nIle (a := 6) (by omega) (by omega)).1 z) (by omega), fun _ => ⟨k1, a + 10, p4, k1, 6, k4, vp_n hl (by omega), fun S1 e1 => ⟨k1, a + 11, by rw [e1]; exact p5, k1, 6, k5, ?_⟩⟩⟩
  have g1 : gI S1 a 8 = nI td.2.2.2.length := by rw [e1, gI_uI, if_neg (by omega)]; exact t5
  rw [g1, cl_n (by omega)]
  refine ⟨vp_n hl (by omega), fun S2 e2 => ⟨k1, k1, fun S3 e3 => kV_i (hf S3 ?_ ?_)⟩⟩
  · have g2 : gI S2 a 8 = nI td.2.2.2.length := by rw [e2, gI_uI, if_neg (by omega)]; exact g1
    rw [g2, nI_1] at e3
    have er : ∀ b k, gR S3 b k = gR S b k := fun b k => by rw [e3, e2, e1]; rfl
    have el : ∀ b k, gL S3 b k = gL S b k := fun b k => by rw [e3, e2, e1]; rfl
    have same : ∀ b k, ¬ (b = a ∧ k = 8) → ¬ b = a + 10 → ¬ b = a + 11 → gI S3 b k = gI S b k := by
      intro b k c1 c2 c3
      rw [e3, gI_uI, if_neg c1, e2, gI_uI, if_neg (fun z => c3 z.1), e1, gI_uI, if_neg (fun z => c2 z.1)]
    have fr : Fr S S3 a (a + 12) := fun b hb k => ⟨same b k (by omega) (by omega) (by omega), el b k, er b k⟩
    refine ⟨(same _ _ (by omega) (by omega) (by omega)).trans h0, ⟨k1, k2, k3, k4, k5⟩, ⟨(er _ _).trans p1, (er _ _).trans p2, (er _ _).trans p3, (er _ _).trans p4, (er _ _).trans p5⟩, tT.cel (fun b b1 b2 k => ⟨same b k (by omega) (by omega) (by omega), el b k, er b k⟩) fr, (same _ _ (by omega) (by omega) (by omega)).trans t1, (same _ _ (by omega) (by omega) (by omega)).trans t2, t3, fun i hi => ?_, ?_, ?_, fun i hi => ?_⟩
    · rw [same _ _ (by omega) (by omega) (by omega), same _ _ (by omega) (by omega) (by omega)]
      exact t4 i hi
    · rw [e3, gI_uI, if_pos ⟨rfl, rfl⟩, List.length_append, List.length_singleton]
    · rw [List.length_append, List.length_singleton]; omega
    · rw [List.length_append, List.length_singleton] at hi
      by_cases e : i = td.2.2.2.length
      · subst e
        rw [ug_end, e3, gI_uI, if_neg (by omega), gI_uI, if_neg (by omega), e2, gI_uI, if_neg (by omega), gI_uI, if_pos ⟨rfl, rfl⟩, e1, gI_uI, if_pos ⟨rfl, rfl⟩]
        exact ⟨rfl, rfl⟩
      · rw [ug_app (by omega), e3, gI_uI, if_neg (by omega), gI_uI, if_neg (by omega), e2, gI_uI, if_neg (by omega), gI_uI, if_neg (by omega), e1, gI_uI, if_neg (by omega), gI_uI, if_neg (by omega)]
        exact t7 i (by omega)
  · rw [e3, e2, e1]
    exact ((Fr.rf.uI (by omega) (by omega)).uI (by omega) (by omega)).uI (by omega) (by omega)
theorem TdF.row {x : Row} (h : TdF A S a bg td) (hT : TrAt A S' (a + 1) 16 (td.2.1 ++ [x])) (hF : Fr S S' (a + 1) (a + 1 + 7)) : TdF A S' a bg (td.1, td.2.1 ++ [x], td.2.2) := by
  obtain ⟨h0, ⟨k1, k2, k3, k4, k5⟩, ⟨p1, p2, p3, p4, p5⟩, tT, t1, t2, t3, t4, t5, t6, t7⟩ := h
  have g : ∀ b k, (b < a + 1 ∨ a + 8 ≤ b) → gI S' b k = gI S b k ∧ gL S' b k = gL S b k ∧ gR S' b k = gR S b k := fun b k hb => hF b (by omega) k
  exact ⟨(g _ _ (by omega)).1.trans h0, ⟨k1, k2, k3, k4, k5⟩, ⟨(g _ _ (by omega)).2.2.trans p1, (g _ _ (by omega)).2.2.trans p2, (g _ _ (by omega)).2.2.trans p3, (g _ _ (by omega)).2.2.trans p4, (g _ _ (by omega)).2.2.trans p5⟩, hT, (g _ _ (by omega)).1.trans t1, (g _ _ (by omega)).1.trans t2, t3, fun i hi => by rw [(g _ _ (by omega)).1, (g _ _ (by omega)).1]; exact t4 i hi, (g _ _ (by omega)).1.trans t5, t6, fun i hi => by rw [(g _ _ (by omega)).1, (g _ _ (by omega)).1]; exact t7 i hi⟩
theorem TdF.win {w : Int32} (h : TdF A S a bg td) : TdF A (uI (uI S a 1 w) a 0 1) a true (w, td.2) := by
  obtain ⟨h0, ⟨k1, k2, k3, k4, k5⟩, ⟨p1, p2, p3, p4, p5⟩, tT, t1, t2, t3, t4, t5, t6, t7⟩ := h
  have g : ∀ b k, ¬ (b = a ∧ k < 2) → gI (uI (uI S a 1 w) a 0 1) b k = gI S b k := fun b k hb => by rw [gI_uI, if_neg (by omega), gI_uI, if_neg (by omega)]
  have fr : Fr S (uI (uI S a 1 w) a 0 1) a (a + 12) := (Fr.rf.uI (by omega) (by omega)).uI (by omega) (by omega)
  refine ⟨by rw [gI_uI, if_pos ⟨rfl, rfl⟩]; rfl, ⟨k1, k2, k3, k4, k5⟩, ⟨p1, p2, p3, p4, p5⟩, tT.cel (fun b b1 b2 k => ⟨g b k (by omega), rfl, rfl⟩) fr, ?_, (g _ _ (by omega)).trans t2, t3, fun i hi => by rw [g _ _ (by omega), g _ _ (by omega)]; exact t4 i hi, (g _ _ (by omega)).trans t5, t6, fun i hi => by rw [g _ _ (by omega), g _ _ (by omega)]; exact t7 i hi⟩
  rw [gI_uI, if_neg (by omega), gI_uI, if_pos ⟨rfl, rfl⟩]
end
