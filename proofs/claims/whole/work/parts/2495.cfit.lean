/-! the class's calls over the sets that fit -/
theorem ftL_mem (td : Tld) : ∀ k j, j ∈ ftL td k → j < k
  | 0, j, h => by cases h
  | k + 1, j, h => by
    rw [ftL] at h
    split at h
    · rw [List.mem_append, List.mem_singleton] at h
      rcases h with h | h
      · have := ftL_mem td k j h; omega
      · omega
    · have := ftL_mem td k j h; omega
theorem tk1 (L : List Nat) (i : Nat) (h : i < L.length) : L.take (i + 1) = L.take i ++ [L.getD i 0] := by
  rw [List.take_succ]
  simp [h]
theorem mskF : ∀ n : Fin 5, ∀ k : Fin 16, k.1 < 2 ^ n.1 → (nI (2 ^ n.1) - 1) &&& nI k.1 = nI k.1 := by decide +kernel
theorem bitF : ∀ k : Fin 16, ∀ u : Fin 4, ((nI k.1) >>> ((nI u.1) &&& 31)) &&& 1 = nI (if bitB (nI k.1) (nI u.1) then 1 else 0) := by decide +kernel
theorem gd_mem {L : List Nat} {i : Nat} (h : i < L.length) : L.getD i 0 ∈ L := by
  rw [List.getD_eq_getElem?_getD, List.getElem?_eq_getElem h]
  exact List.getElem_mem h
theorem akGo_inv (td : Tld) : ∀ u, (u = 0 ∧ akGo td u = (-2, -2)) ∨ ∃ b, b < u ∧ akGo td u = (nI b, mstI td b)
  | 0 => Or.inl ⟨rfl, rfl⟩
  | u + 1 => by
    right
    rw [akGo]
    split
    · exact ⟨u, by omega, rfl⟩
    · rename_i z
      rcases akGo_inv td u with ⟨e, h⟩ | ⟨b, hb, h⟩
      · exact absurd (Or.inl (by rw [h])) z
      · exact ⟨b, by omega, h⟩
theorem fnd_spec (td : Tld) (i : Int32) : ∀ k, (∃ j, j < (ftL td k).length ∧ i = nI j ∧ fndG td i k = nI ((ftL td k).getD j 0)) ∨ ((∀ j, j < (ftL td k).length → ¬ i = nI j) ∧ fndG td i k = -1)
  | 0 => Or.inr ⟨fun j hj => absurd hj (Nat.not_lt_zero _), rfl⟩
  | k + 1 => by
    rw [fndG, ftL]
    have ih := fnd_spec td i k
    split
    · by_cases e : nI (ftL td k).length = i
      · rw [if_pos e]
        exact Or.inl ⟨(ftL td k).length, by simp, e.symm, by simp⟩
      · rw [if_neg e]
        rcases ih with ⟨j, h1, h2, h3⟩ | ⟨h1, h2⟩
        · exact Or.inl ⟨j, by simp; omega, h2, by rw [h3]; simp [List.getElem?_append_left h1]⟩
        · refine Or.inr ⟨fun j hj => ?_, h2⟩
          rw [List.length_append, List.length_singleton] at hj
          by_cases ej : j = (ftL td k).length
          · rw [ej]; exact fun z => e z.symm
          · exact h1 j (by omega)
    · exact ih
/-- the sets at object a, array s -/
def FT (A : qA) (S : qS) (a s : Nat) (L : List Nat) : Prop := A.1 a = some (1, 0) ∧ gR S a 0 = some s ∧ A.1 s = some (13, 16) ∧ gI S a 1 = nI L.length ∧ (∀ i, i < L.length → gI S s i = nI (L.getD i 0)) ∧ L.length ≤ 16 ∧ ∀ k, k ∈ L → k < 16
section
variable {d : Nat} {A : qA} {S S' : qS} {a s x : Nat} {V : VSt} {td : Tld} {tA tB nA nB bA bB : Nat} {π : Nat → Nat} {L : List Nat}
theorem p16T (h : vTd td) : 2 ^ td.2.2.1.length ≤ 16 := by
  have : 2 ^ td.2.2.1.length ≤ 2 ^ 4 := Nat.pow_le_pow_right (by omega) h.2.2.2.1
  omega
theorem XP.ft (h : XP A S x V tA tB nA nB bA bB π) (hF : FtS S x (allS td)) (hvt : vTd td) : FT A S (x + 444) (x + 445) (allS td) := by
  have p16 := p16T hvt
  have l := ftL_len td (2 ^ td.2.2.1.length)
  exact ⟨h.1.2.2.2.2.2.2.1, h.2.1.2.2.1, h.1.2.2.2.2.2.2.2, hF.1, hF.2, Nat.le_trans l p16, fun k hk => by have := ftL_mem td _ k hk; omega⟩
set_option maxRecDepth 20000 in
theorem ct_inSome {f : Int32 → qS → Prop} (h : FT A S a s L) (hf : f (orL L 0) S) : Run (d + 1) 16 [.ref a] A S (kI A f) := by
  refine Run.i (C := mX1_inSome) rfl rfl rfl fun J hJ => ?_
  obtain ⟨h1, h2, h3, h4, h5, h6, -⟩ := h
  have loop : ∀ n i, i + n = L.length → J 4 [some (.ref a), some (.int (orL (L.take i) 0)), some (.int (nI i))] [] A S := by
    intro n
    induction n with
    | zero =>
      intro i hi
      refine sX1_inSome_4 hJ ⟨h1, ?_⟩
      rw [h4]
      refine ⟨fun _ => kI_i ?_, fun z => absurd ((nIle (by omega) (by omega)).2 (by omega)) z⟩
      rw [List.take_of_length_le (by omega)]; exact hf
    | succ n ih =>
      intro i hi
      refine sX1_inSome_4 hJ ⟨h1, ?_⟩
      rw [h4]
      refine ⟨fun z => absurd ((nIle (by omega) (by omega)).1 z) (by omega), fun _ => ⟨h1, s, h2, 16, h3, vp_n (by omega) (by omega), ?_⟩⟩
      rw [cl_n (by omega), h5 i (by omega), ← orL_app, ← tk1 L i (by omega), nI_1]
      exact ih (i + 1) (by omega)
  exact sX1_inSome_0 hJ (loop L.length 0 (by omega))
set_option maxRecDepth 20000 in
theorem ct_inAll {n : Nat} {f : Int32 → qS → Prop} (h : FT A S a s L) (hn : n ≤ 4) (hm : ∀ k, k ∈ L → k < 2 ^ n) (hf : f (if L.length = 0 then 0 else andL L (nI (2 ^ n) - 1)) S) : Run (d + 1) 17 [.ref a] A S (kI A f) := by
  refine Run.i (C := mX1_inAll) rfl rfl rfl fun J hJ => ?_
  obtain ⟨h1, h2, h3, h4, h5, h6, h7⟩ := h
  have loop : ∀ n' i, i + n' = L.length → 0 < L.length → J 18 [some (.ref a), some (.int (andL (L.take i) (nI (2 ^ n) - 1))), some (.int (nI i))] [] A S := by
    intro n'
    induction n' with
    | zero =>
      intro i hi hl
      refine sX1_inAll_18 hJ ⟨h1, ?_⟩
      rw [h4]
      refine ⟨fun _ => kI_i ?_, fun z => absurd ((nIle (by omega) (by omega)).2 (by omega)) z⟩
      rw [if_neg (by omega)] at hf
      rw [List.take_of_length_le (by omega)]; exact hf
    | succ n' ih =>
      intro i hi hl
      refine sX1_inAll_18 hJ ⟨h1, ?_⟩
      rw [h4]
      refine ⟨fun z => absurd ((nIle (by omega) (by omega)).1 z) (by omega), fun _ => ⟨h1, s, h2, 16, h3, vp_n (by omega) (by omega), ?_⟩⟩
      rw [cl_n (by omega), h5 i (by omega), ← andL_app, ← tk1 L i (by omega), nI_1]
      exact ih (i + 1) (by omega) hl
  refine sX1_inAll_0 hJ ⟨h1, ?_⟩
  rw [h4]
  refine ⟨fun z => ?_, fun z => ?_⟩
  · have hl : 0 < L.length := Nat.pos_of_ne_zero fun e => z (by rw [e]; rfl)
    refine ⟨h1, s, h2, 16, h3, vp_n (i := 0) (by omega) (by omega), ?_⟩
    have e0 : gI S s (0 : Int32).toNatClampNeg = andL (L.take 1) (nI (2 ^ n) - 1) := by
      rw [show (0 : Int32).toNatClampNeg = 0 from rfl, h5 0 hl, tk1 L 0 hl]
      have m := gd_mem hl
      exact (mskF ⟨n, by omega⟩ ⟨L.getD 0 0, h7 _ m⟩ (hm _ m)).symm
    rw [e0]
    exact loop (L.length - 1) 1 (by omega) hl
  · rw [show (0 : Int32) = nI 0 from rfl, nIeq (by omega) (by omega)] at z
    rw [if_pos z] at hf
    exact kI_i hf
set_option maxRecDepth 20000 in
theorem ct_leftAtMost {u : Nat} {f : Int32 → qS → Prop} (h : FT A S a s (allS td)) (hu : u < 4) (hf : f (mstI td u) S) : Run (d + 1) 18 [.ref a, .int (nI u)] A S (kI A f) := by
  refine Run.i (C := mX1_leftAtMost) rfl rfl rfl fun J hJ => ?_
  unfold mstI at hf
  generalize allS td = L at h hf
  obtain ⟨h1, h2, h3, h4, h5, h6, h7⟩ := h
  have loop : ∀ n i, i + n = L.length → J 4 [some (.ref a), some (.int (nI u)), some (.int (nI (cntL u (L.take i)))), some (.int (nI i))] [] A S := by
    intro n
    induction n with
    | zero =>
      intro i hi
      refine sX1_leftAtMost_4 hJ ⟨h1, ?_⟩
      rw [h4]
      refine ⟨fun _ => ⟨h1, wc rfl, kI_i ?_⟩, fun z => absurd ((nIle (by omega) (by omega)).2 (by omega)) z⟩
      rw [List.take_of_length_le (by omega)]
      have hc := cntL_le u L
      rw [nI_sub hc]
      by_cases c : cntL u L < L.length - cntL u L
      · rw [if_pos ((nIlt (by omega) (by omega)).2 c)]
        rw [if_pos (by omega)] at hf
        exact hf
      · rw [if_neg (fun w => c ((nIlt (by omega) (by omega)).1 w))]
        by_cases e : cntL u L ≤ L.length - cntL u L
        · rw [if_pos e, show L.length - cntL u L = cntL u L by omega] at hf
          exact hf
        · rw [if_neg e] at hf
          exact hf
    | succ n ih =>
      intro i hi
      refine sX1_leftAtMost_4 hJ ⟨h1, ?_⟩
      rw [h4]
      refine ⟨fun z => absurd ((nIle (by omega) (by omega)).1 z) (by omega), fun _ => ⟨h1, s, h2, 16, h3, vp_n (by omega) (by omega), ?_⟩⟩
      have := ih (i + 1) (by omega)
      rw [tk1 L i (by omega), cntL_app, ← nI_add] at this
      rw [cl_n (by omega), h5 i (by omega), nI_1, bitF ⟨L.getD i 0, h7 _ (gd_mem (by omega))⟩ ⟨u, hu⟩]
      exact this
  exact sX1_leftAtMost_0 hJ (loop L.length 0 (by omega))
set_option maxRecDepth 20000 in
theorem ct_bestToAsk {f : Int32 → qS → Prop} (h : FT A S a s (allS td)) (hn : td.2.2.1.length ≤ 4) (hf : f (akT td).1 S) : Run (d + 2) 19 [.ref a, .int (nI td.2.2.1.length)] A S (kI A f) := by
  refine Run.i (C := mX1_bestToAsk) rfl rfl rfl fun J hJ => ?_
  have h1 := h.1
  have h4 := h.2.2.2.1
  have h6 := h.2.2.2.2.2.1
  unfold akT at hf
  have loop : ∀ n u, u + n = td.2.2.1.length → ¬ (allS td).length = 0 → J 5 [some (.ref a), some (.int (nI td.2.2.1.length)), some (.int (akGo td u).1), some (.int (nI u))] [] A S := by
    intro n
    induction n with
    | zero =>
      intro u hu hl
      refine sX1_bestToAsk_5 hJ ⟨fun _ => kI_i ?_, fun z => absurd ((nIle (by omega) (by omega)).2 (by omega)) z⟩
      rw [if_neg hl, ← show u = td.2.2.1.length by omega] at hf
      exact hf
    | succ n ih =>
      intro u hu hl
      refine sX1_bestToAsk_5 hJ ⟨fun z => absurd ((nIle (by omega) (by omega)).1 z) (by omega), fun _ => ⟨h1, ?_⟩⟩
      rw [h4, not_le_0 (by omega), nI_1]
      refine ⟨fun z => absurd z hl, fun _ => ?_⟩
      have ih1 := ih (u + 1) (by omega) hl
      rw [akGo] at ih1
      rcases akGo_inv td u with ⟨e, hk⟩ | ⟨b, hb, hk⟩
      · rw [hk] at ih1 ⊢
        rw [if_pos (Or.inl rfl)] at ih1
        exact ⟨fun _ => ih1, fun z => absurd (show (-2 : Int32) < 0 by decide) z⟩
      · rw [hk] at ih1 ⊢
        have hb0 : ¬ nI b < 0 := fun z => absurd ((nIlt (b := 0) (by omega) (by omega)).1 z) (by omega)
        refine ⟨fun z => absurd z hb0, fun _ => ⟨h1, wc rfl, ct_leftAtMost h (by omega) ⟨h1, wc rfl, ct_leftAtMost h (by omega) ⟨fun z => ?_, fun z => ?_⟩⟩⟩⟩
        · rw [if_neg ?_] at ih1
          · exact ih1
          · rintro (w | w)
            · exact hb0 (by rw [show nI b = -2 from w]; decide)
            · exact absurd z (Int32.not_le.2 w)
        · rw [if_pos (Or.inr (Int32.not_le.1 z))] at ih1
          exact ih1
  refine sX1_bestToAsk_0 hJ ?_
  by_cases hl : (allS td).length = 0
  · rw [if_pos hl] at hf
    refine sX1_bestToAsk_5 hJ ⟨fun _ => kI_i hf, fun _ => ⟨h1, ?_⟩⟩
    rw [h4, not_le_0 (by omega)]
    exact ⟨fun _ => kI_i hf, fun z => absurd hl z⟩
  · exact loop td.2.2.1.length 0 (by omega) hl
set_option maxRecDepth 20000 in
theorem ct_fits {f : Int32 → qS → Prop} (h : XAt A S x V) (hv : vOk V) (hf : ∀ S', XAt A S' x (qst (vLed V).isSome V) → Fr S S' x (x + 467) → f (onL V fun td => nI (allS td).length) S') : Run (d + 10) 102 [.ref x] A S (kI A f) := by
  refine Run.i (C := mX9_fits) rfl rfl rfl fun J hJ => ?_
  obtain ⟨tA, tB, nA, nB, bA, bB, π, h⟩ := h
  have hk := h.1.1
  unfold onL qst at hf
  refine sX9_fits_0 hJ ⟨hk, ?_⟩
  rw [h.2.2.2.1.2.2.1]
  cases hL : vLed V with
  | none =>
    rw [hL] at hf
    refine ⟨fun z => absurd rfl z, fun _ => ⟨hk, wc rfl, ct_refuse h (by decide) fun S1 h1 f1 => kI_i (hf S1 h1.at f1)⟩⟩
  | some td =>
    rw [hL] at hf
    have hvt := hv.1 td hL
    refine ⟨fun _ => ⟨hk, fun S1 e1 => ?_⟩, fun z => absurd (show bI true = 0 from z) (by decide)⟩
    subst e1
    refine ⟨hk, wc rfl, ct_findFits (h.set (t := 0) (by decide)) hL hvt fun S2 h2 F2 f2 => ?_⟩
    have ft := h2.ft F2 hvt
    refine ⟨hk, x + 444, h2.2.1.1.2.2.2.2.2.2.2.2.2.2, ft.1, kI_i ?_⟩
    rw [ft.2.2.2.1]
    exact hf S2 h2.at (fr14.trans f2)
set_option maxRecDepth 20000 in
theorem ct_could {f : Int32 → qS → Prop} (h : XAt A S x V) (hv : vOk V) (hf : ∀ S', XAt A S' x (qst (vLed V).isSome V) → Fr S S' x (x + 467) → f (onL V fun td => orL (allS td) 0) S') : Run (d + 10) 104 [.ref x] A S (kI A f) := by
  refine Run.i (C := mX9_could) rfl rfl rfl fun J hJ => ?_
  obtain ⟨tA, tB, nA, nB, bA, bB, π, h⟩ := h
  have hk := h.1.1
  unfold onL qst at hf
  refine sX9_could_0 hJ ⟨hk, ?_⟩
  rw [h.2.2.2.1.2.2.1]
  cases hL : vLed V with
  | none =>
    rw [hL] at hf
    refine ⟨fun z => absurd rfl z, fun _ => ⟨hk, wc rfl, ct_refuse h (by decide) fun S1 h1 f1 => kI_i (hf S1 h1.at f1)⟩⟩
  | some td =>
    rw [hL] at hf
    have hvt := hv.1 td hL
    refine ⟨fun _ => ⟨hk, fun S1 e1 => ?_⟩, fun z => absurd (show bI true = 0 from z) (by decide)⟩
    subst e1
    refine ⟨hk, wc rfl, ct_findFits (h.set (t := 0) (by decide)) hL hvt fun S2 h2 F2 f2 => ?_⟩
    have ft := h2.ft F2 hvt
    exact ⟨hk, x + 444, h2.2.1.1.2.2.2.2.2.2.2.2.2.2, ft.1, wc rfl, ct_inSome ft (kI_i (hf S2 h2.at (fr14.trans f2)))⟩
set_option maxRecDepth 20000 in
theorem ct_surely {f : Int32 → qS → Prop} (h : XAt A S x V) (hv : vOk V) (hf : ∀ S', XAt A S' x (qst (vLed V).isSome V) → Fr S S' x (x + 467) → f (onL V evI) S') : Run (d + 10) 105 [.ref x] A S (kI A f) := by
  refine Run.i (C := mX9_surely) rfl rfl rfl fun J hJ => ?_
  obtain ⟨tA, tB, nA, nB, bA, bB, π, h⟩ := h
  have hk := h.1.1
  unfold onL qst at hf
  refine sX9_surely_0 hJ ⟨hk, ?_⟩
  rw [h.2.2.2.1.2.2.1]
  cases hL : vLed V with
  | none =>
    rw [hL] at hf
    refine ⟨fun z => absurd rfl z, fun _ => ⟨hk, wc rfl, ct_refuse h (by decide) fun S1 h1 f1 => kI_i (hf S1 h1.at f1)⟩⟩
  | some td =>
    rw [hL] at hf
    have hvt := hv.1 td hL
    refine ⟨fun _ => ⟨hk, fun S1 e1 => ?_⟩, fun z => absurd (show bI true = 0 from z) (by decide)⟩
    subst e1
    refine ⟨hk, wc rfl, ct_findFits (h.set (t := 0) (by decide)) hL hvt fun S2 h2 F2 f2 => ?_⟩
    have ft := h2.ft F2 hvt
    exact ⟨hk, x + 444, h2.2.1.1.2.2.2.2.2.2.2.2.2.2, ft.1, wc rfl, ct_inAll ft hvt.2.2.2.1 (fun k hk => ftL_mem td _ k hk) (kI_i (hf S2 h2.at (fr14.trans f2)))⟩
set_option maxRecDepth 20000 in
theorem ct_ask {f : Int32 → qS → Prop} (h : XAt A S x V) (hv : vOk V) (hf : ∀ S', XAt A S' x (qst (vLed V).isSome V) → Fr S S' x (x + 467) → f (onL V fun td => (akT td).1) S') : Run (d + 10) 106 [.ref x] A S (kI A f) := by
  refine Run.i (C := mX9_ask) rfl rfl rfl fun J hJ => ?_
  obtain ⟨tA, tB, nA, nB, bA, bB, π, h⟩ := h
  have hk := h.1.1
  unfold onL qst at hf
  refine sX9_ask_0 hJ ⟨hk, ?_⟩
  rw [h.2.2.2.1.2.2.1]
  cases hL : vLed V with
  | none =>
    rw [hL] at hf
    refine ⟨fun z => absurd rfl z, fun _ => ⟨hk, wc rfl, ct_refuse h (by decide) fun S1 h1 f1 => kI_i (hf S1 h1.at f1)⟩⟩
  | some td =>
    rw [hL] at hf
    have hvt := hv.1 td hL
    refine ⟨fun _ => ⟨hk, fun S1 e1 => ?_⟩, fun z => absurd (show bI true = 0 from z) (by decide)⟩
    subst e1
    refine ⟨hk, wc rfl, ct_findFits (h.set (t := 0) (by decide)) hL hvt fun S2 h2 F2 f2 => ?_⟩
    have ft := h2.ft F2 hvt
    have t2 := h2.w.tdd (td := td) hL
    refine ⟨hk, x + 444, h2.2.1.1.2.2.2.2.2.2.2.2.2.2, hk, tA, h2.r4, t2.1.1, ft.1, wc rfl, ?_⟩
    have e5 : gI S2 tA 5 = nI td.2.2.1.length := (h2.w.tdd (td := td) hL).2.2.2.2.1
    rw [e5]
    exact ct_bestToAsk ft hvt.2.2.2.1 (kI_i (hf S2 h2.at (fr14.trans f2)))
set_option maxRecDepth 20000 in
theorem ct_askLeaves {f : Int32 → qS → Prop} (h : XAt A S x V) (hv : vOk V) (hf : ∀ S', XAt A S' x (qst (vLed V).isSome V) → Fr S S' x (x + 467) → f (onL V fun td => (akT td).2) S') : Run (d + 10) 107 [.ref x] A S (kI A f) := by
  refine Run.i (C := mX9_askLeaves) rfl rfl rfl fun J hJ => ?_
  obtain ⟨tA, tB, nA, nB, bA, bB, π, h⟩ := h
  have hk := h.1.1
  unfold onL qst at hf
  refine sX9_askLeaves_0 hJ ⟨hk, ?_⟩
  rw [h.2.2.2.1.2.2.1]
  cases hL : vLed V with
  | none =>
    rw [hL] at hf
    refine ⟨fun z => absurd rfl z, fun _ => ⟨hk, wc rfl, ct_refuse h (by decide) fun S1 h1 f1 => kI_i (hf S1 h1.at f1)⟩⟩
  | some td =>
    rw [hL] at hf
    have hvt := hv.1 td hL
    refine ⟨fun _ => ⟨hk, fun S1 e1 => ?_⟩, fun z => absurd (show bI true = 0 from z) (by decide)⟩
    subst e1
    refine ⟨hk, wc rfl, ct_findFits (h.set (t := 0) (by decide)) hL hvt fun S2 h2 F2 f2 => ?_⟩
    have ft := h2.ft F2 hvt
    have t2 := h2.w.tdd (td := td) hL
    refine ⟨hk, x + 444, h2.2.1.1.2.2.2.2.2.2.2.2.2.2, hk, tA, h2.r4, t2.1.1, ft.1, wc rfl, ?_⟩
    have e5 : gI S2 tA 5 = nI td.2.2.1.length := (h2.w.tdd (td := td) hL).2.2.2.2.1
    rw [e5]
    refine ct_bestToAsk ft hvt.2.2.2.1 ?_
    have hf' := hf S2 h2.at (fr14.trans f2)
    dsimp only at hf'
    have hn := hvt.2.2.2.1
    have fin : ((akT td) = (-2, -2)) ∨ ∃ b, b < 4 ∧ akT td = (nI b, mstI td b) := by
      unfold akT
      split
      · exact Or.inl rfl
      · rcases akGo_inv td td.2.2.1.length with ⟨-, e⟩ | ⟨b, hb, e⟩
        · exact Or.inl e
        · exact Or.inr ⟨b, by omega, e⟩
    rcases fin with e | ⟨b, hb, e⟩
    · rw [e] at hf' ⊢
      exact ⟨fun z => absurd z (by decide), fun _ => kI_i hf'⟩
    · rw [e] at hf' ⊢
      exact ⟨fun _ => ⟨hk, x + 444, h2.2.1.1.2.2.2.2.2.2.2.2.2.2, ft.1, wc rfl, ct_leftAtMost ft hb (kI_i hf')⟩, fun z => absurd ((nIle (a := 0) (by omega) (by omega)).2 (by omega)) z⟩
set_option maxRecDepth 20000 in
theorem ct_fitAt {i : Int32} {f : Int32 → qS → Prop} (h : XAt A S x V) (hv : vOk V) (hf : ∀ S', XAt A S' x (qst (fatB V i) V) → Fr S S' x (x + 467) → f (if fatB V i then onL V (fun td => fndG td i (2 ^ td.2.2.1.length)) else -1) S') : Run (d + 10) 103 [.ref x, .int i] A S (kI A f) := by
  refine Run.i (C := mX9_fitAt) rfl rfl rfl fun J hJ => ?_
  obtain ⟨tA, tB, nA, nB, bA, bB, π, h⟩ := h
  have hk := h.1.1
  refine sX9_fitAt_0 hJ ⟨hk, ?_⟩
  rw [h.2.2.2.1.2.2.1]
  have no : fatB V i = false → ∀ S1, XP A S1 x V tA tB nA nB bA bB π → Fr S S1 x (x + 467) → Run (d + 9) 129 [.ref x, .int 1] A S1 (kI A fun r S' => kI A f (some (.int r)) A S') := by
    intro z S1 h1 hr1
    refine ct_refuse h1 (by decide) fun S' h2 hr2 => kI_i ?_
    have := hf S'
    rw [z] at this
    exact this h2.at (hr1.trans hr2)
  cases hL : vLed V with
  | none =>
    exact ⟨fun z => absurd rfl z, fun _ => ⟨hk, wc rfl, no (by unfold fatB; rw [hL]) S h Fr.rf⟩⟩
  | some td =>
    have hvt := hv.1 td hL
    have eb : fatB V i = (decide (0 ≤ i) && decide (¬ fndG td i (2 ^ td.2.2.1.length) = -1)) := by unfold fatB; rw [hL]
    refine ⟨fun _ => ⟨hk, wc rfl, ct_findFits h hL hvt fun S2 h2 F2 f2 => ?_⟩, fun z => absurd (show bI true = 0 from z) (by decide)⟩
    have ft := h2.ft F2 hvt
    have l16 : (ftL td (2 ^ td.2.2.1.length)).length ≤ 16 := ft.2.2.2.2.2.1
    have c444 := h2.2.1.1.2.2.2.2.2.2.2.2.2.2
    refine ⟨fun z => ⟨hk, wc rfl, no ?_ S2 h2 f2⟩, fun z => ⟨hk, x + 444, c444, ft.1, ?_⟩⟩
    · rw [eb, decide_eq_false (fun w => absurd z (Int32.not_lt.2 w))]; rfl
    · have z0 : 0 ≤ i := Int32.not_lt.1 z
      rw [ft.2.2.2.1]
      rcases fnd_spec td i (2 ^ td.2.2.1.length) with ⟨j, j1, j2, j3⟩ | ⟨j1, j2⟩
      · have j16 : (ftL td (2 ^ td.2.2.1.length)).getD j 0 < 16 := ft.2.2.2.2.2.2 _ (gd_mem j1)
        have e1 : fatB V i = true := by
          rw [eb, decide_eq_true z0, decide_eq_true]; rfl
          rw [j3]
          exact fun w => absurd ((nIle (a := 0) (b := (ftL td (2 ^ td.2.2.1.length)).getD j 0) (by omega) (by omega)).2 (by omega)) (by rw [w]; decide)
        refine ⟨fun _ => ⟨hk, fun S5 e5 => ?_⟩, fun y => absurd (show i < nI (ftL td (2 ^ td.2.2.1.length)).length by rw [j2]; exact (nIlt (by omega) (by omega)).2 j1) y⟩
        subst e5
        have h5 := h2.set (t := 0) (by decide)
        refine ⟨hk, x + 444, h5.2.1.1.2.2.2.2.2.2.2.2.2.2, ft.1, x + 445, h5.2.1.2.2.1, 16, ft.2.2.1, by rw [j2]; exact vp_n (by omega) (by omega), kI_i ?_⟩
        have := hf _ (by rw [e1]; exact h5.at) (f2.trans fr14)
        rw [e1, if_pos rfl, onL_s hL, j3] at this
        rw [j2, cl_n (by omega), gI_uI, if_neg (by omega), ft.2.2.2.2.1 j j1]
        exact this
      · refine ⟨fun y => ?_, fun _ => ⟨hk, wc rfl, no ?_ S2 h2 f2⟩⟩
        · have y' : i < nI (ftL td (2 ^ td.2.2.1.length)).length := y
          obtain ⟨j, hj, ej⟩ := inB_i (v := i) (n := 16) (hi := nI 16) (by omega) rfl (decide_eq_true ⟨z, Int32.not_lt.2 (Int32.le_trans (Int32.le_of_lt y') ((nIle (by omega) (by omega)).2 l16))⟩)
          rw [ej, nIlt (by omega) (by omega)] at y'
          exact absurd ej (j1 j y')
        · rw [eb, j2, show decide (¬ (-1 : Int32) = -1) = false from rfl, Bool.and_false]
end
