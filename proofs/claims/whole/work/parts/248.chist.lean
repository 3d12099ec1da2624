/-! the class's history -/
def HiAt (A : qA) (S : qS) (x : Nat) (π : Nat → Nat) (P : List (List Row)) : Prop := (A.1 (x + 329) = some (2, 0) ∧ A.1 (x + 330) = some (18, 16)) ∧ gR S (x + 329) 0 = some (x + 330) ∧ gI S (x + 329) 1 = nI P.length ∧ P.length ≤ 16 ∧ (∀ i, i < 16 → gR S (x + 330) i = some (x + 331 + 7 * π i)) ∧ ((∀ i, i < 16 → π i < 16) ∧ ∀ i j, i < 16 → j < 16 → π i = π j → i = j) ∧ ∀ i, i < 16 → ∃ T, TrAt A S (x + 331 + 7 * π i) 24 T ∧ (i < P.length → T = rg P i)
section
variable {d : Nat} {A : qA} {S : qS} {x a : Nat} {π : Nat → Nat} {P : List (List Row)} {T : List Row}
set_option maxRecDepth 20000 in
theorem ct_keepPut {f : qS → Prop} (h : HiAt A S x π P) (hl : P.length < 16) (hT : TrAt A S a 24 T) (ha : a + 7 ≤ x + 329) (hf : ∀ S', HiAt A S' x π (P ++ [T]) → Fr S S' (x + 329) (x + 443) → f S') : A.1 (x + 329) = some (2, 0) ∧ ∃ q_1, gR S (x + 329) 0 = some q_1 ∧ A.1 (x + 329) = some (2, 0) ∧ ∃ n_2, A.1 q_1 = some (18, n_2) ∧ vp_in (gI S (x + 329) 1) n_2 ∧ ∃ q_3, gR S q_1 (gI S (x + 329) 1).toNatClampNeg = some q_3 ∧ A.1 q_3 = some (8, 0) ∧ wcat [] ≤ 8 ∧ Run (d + 1) 63 [.ref q_3, .ref a] A S (kV A fun S_4 => A.1 (x + 329) = some (2, 0) ∧ A.1 (x + 329) = some (2, 0) ∧ ∀ S_5, S_5 = uI S_4 (x + 329) 1 ((gI S_4 (x + 329) 1) + 1) → kV A f none A S_5) := by
  obtain ⟨⟨k1, k2⟩, r1, i1, l1, r2, ⟨p1, p2⟩, t1⟩ := h
  have pk := p1 P.length (by omega)
  obtain ⟨T0, hT0, -⟩ := t1 P.length (by omega)
  refine ⟨k1, x + 330, r1, k1, 16, k2, ?_⟩
  rw [i1, cl_n (by omega)]
  refine ⟨vp_n (by omega) (by omega), _, r2 P.length (by omega), hT0.1.1, wc rfl, ct_copyFrom hT0 hT hT.2.2.2.1 (by omega) fun S1 h1 f1 => ⟨k1, k1, fun S2 e2 => kV_i (hf S2 ?_ ?_)⟩⟩
  · have g1 : gI S1 (x + 329) 1 = nI P.length := (f1 _ (by omega) _).1.trans i1
    rw [g1, nI_1] at e2
    have f2 : Fr S1 S2 (x + 329) (x + 330) := by rw [e2]; exact Fr.rf.uI (by omega) (by omega)
    refine ⟨⟨k1, k2⟩, ?_, ?_, by simp only [List.length_append, List.length_singleton]; omega, fun i hi => ?_, ⟨p1, p2⟩, fun i hi => ?_⟩
    · rw [e2, gR_uI, (f1 _ (by omega) _).2.2]; exact r1
    · rw [e2, gI_uI, if_pos ⟨rfl, rfl⟩, List.length_append, List.length_singleton]
    · rw [e2, gR_uI, (f1 _ (by omega) _).2.2]; exact r2 i hi
    · have pi := p1 i hi
      by_cases e : i = P.length
      · subst e
        exact ⟨T, h1.fr f2 (by omega), fun _ => rg_end.symm⟩
      · obtain ⟨Ti, w1, w2⟩ := t1 i hi
        have ne : ¬ π i = π P.length := fun z => e (p2 i P.length hi (by omega) z)
        refine ⟨Ti, (w1.fr f1 (by omega)).fr f2 (by omega), fun hi' => ?_⟩
        rw [List.length_append, List.length_singleton] at hi'
        rw [rg_app (by omega)]
        exact w2 (by omega)
  · rw [e2]
    exact (f1.wide (by omega) (by omega)).uI (by omega) (by omega)
set_option maxRecDepth 20000 in
theorem ct_keep {f : qS → Prop} (h : HiAt A S x π P) (hT : TrAt A S a 24 T) (ha : a + 7 ≤ x + 329) (hf : ∀ S' π', HiAt A S' x π' ((if P.length = 16 then P.drop 1 else P) ++ [T]) → Fr S S' (x + 329) (x + 443) → f S') : Run (d + 2) 21 [.ref (x + 329), .ref a] A S (kV A f) := by
  refine Run.i (C := mX2_keep) rfl rfl rfl fun J hJ => ?_
  have h' := h
  obtain ⟨⟨k1, k2⟩, r1, i1, l1, r2, ⟨p1, p2⟩, t1⟩ := h'
  refine sX2_keep_0 hJ ⟨k1, ?_⟩
  have i1' := i1
  refine ⟨fun z => ?_, fun z => ?_⟩
  · rw [i1, show (16 : Int32) = nI 16 from rfl, nIlt (by omega) (by omega)] at z
    rw [if_neg (by omega)] at hf
    exact ct_keepPut h z hT ha fun S' h1 f1 => hf S' π h1 f1
  · rw [i1, show (16 : Int32) = nI 16 from rfl, nIlt (by omega) (by omega)] at z
    have e16 : P.length = 16 := by omega
    rw [if_pos e16] at hf
    have pz := p1 0 (by omega)
    obtain ⟨T0, hT0, -⟩ := t1 0 (by omega)
    have loop : ∀ n i (Sj : qS), i + n = 15 → (∀ k, k < 16 → gR Sj (x + 330) k = some (x + 331 + 7 * (if k < i then π (k + 1) else π k))) → (∀ b k, ¬ b = x + 330 → gR Sj b k = gR S b k) → (∀ b k, gI Sj b k = gI S b k ∧ gL Sj b k = gL S b k) → J 18 [some (.ref (x + 329)), some (.ref a), some (.ref (x + 331 + 7 * π 0)), some (.int (nI i))] [] A Sj := by
      intro n
      induction n with
      | zero =>
        intro i Sj hi hr ho hg
        have e15 : i = 15 := by omega
        subst e15
        refine sX2_keep_18 hJ ⟨fun _ => ⟨k1, x + 330, (ho _ _ (by omega)).trans r1, 16, k2, vp_n (i := 15) (by omega) (by omega), hT0.1.1, fun S1 e1 => ⟨k1, fun S2 e2 => ?_⟩⟩, fun z => absurd (by rw [nI_1]; decide) z⟩
        have e1' : S1 = uR Sj (x + 330) 15 (some (x + 331 + 7 * π 0)) := e1
        have gi : ∀ b k, ¬ (b = x + 329 ∧ k = 1) → gI S2 b k = gI S b k := by
          intro b k c
          rw [e2, gI_uI, if_neg c, e1', gI_uR]; exact (hg b k).1
        have gl : ∀ b k, gL S2 b k = gL S b k := by
          intro b k
          rw [e2, gL_uI, e1', gL_uR]; exact (hg b k).2
        have gr : ∀ b k, ¬ b = x + 330 → gR S2 b k = gR S b k := by
          intro b k c
          rw [e2, gR_uI, e1', gR_uR, if_neg (fun z => c z.1)]; exact ho b k c
        have g1 : gI S2 (x + 329) 1 = nI 15 := by rw [e2, gI_uI, if_pos ⟨rfl, rfl⟩]; rfl
        have fr : Fr S S2 (x + 329) (x + 331) := fun b hb k => ⟨gi b k (by omega), gl b k, gr b k (by omega)⟩
        have hi2 : HiAt A S2 x (fun i => if i = 15 then π 0 else π (i + 1)) (P.drop 1) := by
          have ld : (P.drop 1).length = 15 := by rw [List.length_drop]; omega
          refine ⟨⟨k1, k2⟩, (gr _ _ (by omega)).trans r1, by rw [ld]; exact g1, by omega, fun i hi => ?_, ⟨fun i hi => ?_, fun i j hi hj e => ?_⟩, fun i hi => ?_⟩
          · dsimp only
            rw [e2, gR_uI, e1', gR_uR]
            by_cases c : i = 15
            · rw [if_pos ⟨rfl, c⟩, if_pos c]
            · rw [if_neg (fun z => c z.2), if_neg c, hr i hi, if_pos (by omega)]
          · dsimp only
            split
            · exact pz
            · exact p1 _ (by omega)
          · dsimp only at e
            split at e
            · split at e
              · omega
              · have := p2 0 (j + 1) (by omega) (by omega) e; omega
            · split at e
              · have := p2 (i + 1) 0 (by omega) (by omega) e; omega
              · have := p2 (i + 1) (j + 1) (by omega) (by omega) e; omega
          · dsimp only
            by_cases c : i = 15
            · rw [if_pos c]
              exact ⟨T0, hT0.fr fr (by omega), fun z => by omega⟩
            · rw [if_neg c]
              obtain ⟨Ti, w1, w2⟩ := t1 (i + 1) (by omega)
              exact ⟨Ti, w1.fr fr (by omega), fun _ => by rw [rg_drop]; exact w2 (by omega)⟩
        have ld : (P.drop 1).length = 15 := by rw [List.length_drop]; omega
        exact ct_keepPut hi2 (by omega) (hT.fr fr (by omega)) ha fun S' h1 f1 => hf S' _ h1 ((fr.wide (Nat.le_refl _) (by omega)).trans f1)
      | succ n ih =>
        intro i Sj hi hr ho hg
        have r1j := (ho (x + 329) 0 (by omega)).trans r1
        obtain ⟨Ti, w1, w2⟩ := t1 (i + 1) (by omega)
        refine sX2_keep_18 hJ ⟨fun z => absurd ((nIle (a := 16) (b := i + 1) (by omega) (by omega)).1 (by rw [nI_1] at z; exact z)) (by omega), fun _ => ⟨k1, x + 330, r1j, k1, x + 330, r1j, 16, k2, ?_⟩⟩
        rw [nI_1, cl_n (by omega), cl_n (by omega)]
        refine ⟨vp_n (by omega) (by omega), _, hr (i + 1) (by omega), 16, k2, vp_n (by omega) (by omega), ?_, fun S1 e1 => ?_⟩
        · rw [if_neg (by omega)]; exact w1.1.1
        · rw [if_neg (by omega)] at e1
          refine ih (i + 1) S1 (by omega) (fun k hk => ?_) (fun b k c => ?_) (fun b k => ?_)
          · rw [e1, gR_uR]
            by_cases c : k = i
            · rw [if_pos ⟨rfl, c⟩, c, if_pos (by omega)]
            · rw [if_neg (fun z => c z.2), hr k hk]
              by_cases c2 : k < i
              · rw [if_pos c2, if_pos (by omega)]
              · rw [if_neg c2, if_neg (by omega)]
          · rw [e1, gR_uR, if_neg (fun z => c z.1)]; exact ho b k c
          · rw [e1]; exact hg b k
    exact ⟨k1, x + 330, r1, 16, k2, vp_n (i := 0) (by omega) (by omega), _, r2 0 (by omega), loop 15 0 S (by omega) (fun k hk => by rw [if_neg (by omega)]; exact r2 k hk) (fun _ _ _ => rfl) (fun _ _ => ⟨rfl, rfl⟩)⟩
set_option maxRecDepth 20000 in
theorem ct_giveBack {T' : List Row} {f : qS → Prop} (h : HiAt A S x π P) (hl : 0 < P.length) (hT : TrAt A S a 24 T') (ha : a + 7 ≤ x + 329) (hf : ∀ S', HiAt A S' x π (P.take (P.length - 1)) → TrAt A S' a 24 (rg P (P.length - 1)) → (∀ b, ¬ (a ≤ b ∧ b < a + 7) → ¬ b = x + 329 → ∀ k, gI S' b k = gI S b k ∧ gL S' b k = gL S b k ∧ gR S' b k = gR S b k) → f S') : Run (d + 2) 22 [.ref (x + 329), .ref a] A S (kV A f) := by
  refine Run.i (C := mX2_giveBack) rfl rfl rfl fun J hJ => ?_
  obtain ⟨⟨k1, k2⟩, r1, i1, l1, r2, ⟨p1, p2⟩, t1⟩ := h
  obtain ⟨m, hm⟩ : ∃ m, P.length = m + 1 := ⟨P.length - 1, by omega⟩
  rw [hm] at i1 l1 hf
  rw [Nat.add_sub_cancel] at hf
  refine sX2_giveBack_0 hJ ⟨k1, ?_⟩
  rw [i1]
  refine ⟨fun z => absurd ((nIle (b := 0) (by omega) (by omega)).1 z) (by omega), fun _ => ⟨k1, k1, fun S1 e1 => ?_⟩⟩
  rw [nI_pred] at e1
  have f1 : Fr S S1 (x + 329) (x + 330) := by rw [e1]; exact Fr.rf.uI (by omega) (by omega)
  have g1 : gI S1 (x + 329) 1 = nI m := by rw [e1, gI_uI, if_pos ⟨rfl, rfl⟩]
  have gr1 : ∀ b k, gR S1 b k = gR S b k := fun b k => by rw [e1]; rfl
  obtain ⟨Tm, w1, w2⟩ := t1 m (by omega)
  have eT : Tm = rg P m := w2 (by omega)
  have pm := p1 m (by omega)
  refine ⟨k1, x + 330, (gr1 _ _).trans r1, k1, 16, k2, ?_⟩
  rw [g1, cl_n (by omega)]
  refine ⟨vp_n (by omega) (by omega), _, (gr1 _ _).trans (r2 m (by omega)), hT.1.1, wc rfl, ct_copyFrom (hT.fr f1 (by omega)) (w1.fr f1 (by omega)) w1.2.2.2.1 (by omega) fun S2 h2 f2 => kV_i (hf S2 ?_ ?_ fun b c1 c2 k => ?_)⟩
  · have lt' : (P.take m).length = m := by rw [List.length_take]; omega
    refine ⟨⟨k1, k2⟩, ((f2 _ (by omega) _).2.2.trans (gr1 _ _)).trans r1, by rw [lt']; exact (f2 _ (by omega) _).1.trans g1, by omega, fun i hi => ((f2 _ (by omega) _).2.2.trans (gr1 _ _)).trans (r2 i hi), ⟨p1, p2⟩, fun i hi => ?_⟩
    obtain ⟨Ti, v1, v2⟩ := t1 i hi
    have pi := p1 i hi
    refine ⟨Ti, (v1.fr f1 (by omega)).fr f2 (by omega), fun c => ?_⟩
    rw [lt'] at c
    rw [v2 (by omega)]
    simp [rg, List.getElem?_take, c]
  · rw [← eT]; exact h2
  · have a1 := f2 b (by omega) k
    have a2 := f1 b (by omega) k
    exact ⟨a1.1.trans a2.1, a1.2.1.trans a2.2.1, a1.2.2.trans a2.2.2⟩
end
