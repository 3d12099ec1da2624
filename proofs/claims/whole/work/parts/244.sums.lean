/-! sums over the class's pieces are sums over the papers' -/
theorem sumF_eq {g g' : Nat → Int64} {i i' : Nat} : ∀ n, (∀ k, k < n → g (i + k) = g' (i' + k)) → sumF g i n = sumF g' i' n
  | 0, _ => rfl
  | n + 1, h => by
    show sumF g i n + g (i + n) = sumF g' i' n + g' (i' + n)
    rw [sumF_eq n (fun k hk => h k (by omega)), h n (by omega)]
def lsum : List Int64 → Int64
  | [] => 0
  | x :: L => x + lsum L
theorem lsum_app (L M : List Int64) : lsum (L ++ M) = lsum L + lsum M := by
  induction L with
  | nil => show lsum M = 0 + lsum M; rw [Int64.zero_add]
  | cons x L ih => show x + lsum (L ++ M) = x + lsum L + lsum M; rw [ih, Int64.add_assoc]
theorem sumF_l {α : Type} (F : α → Int64) (x0 : α) (L : List α) : ∀ n, n ≤ L.length → sumF (fun k => F (L.getD k x0)) 0 n = lsum ((L.take n).map F)
  | 0, _ => rfl
  | n + 1, h => by
    show sumF (fun k => F (L.getD k x0)) 0 n + F (L.getD (0 + n) x0) = _
    have e : L.take (n + 1) = L.take n ++ [L.getD n x0] := by
      rw [List.take_succ, List.getElem?_eq_getElem (by omega), List.getD_eq_getElem?_getD, List.getElem?_eq_getElem (by omega)]
      rfl
    rw [sumF_l F x0 L n (by omega), e, List.map_append, lsum_app, Nat.zero_add]
    show _ = _ + (F (L.getD n x0) + 0)
    rw [Int64.add_zero]
theorem sumF_all {α : Type} (F : α → Int64) (x0 : α) (L : List α) : sumF (fun k => F (L.getD k x0)) 0 L.length = lsum (L.map F) := by
  rw [sumF_l F x0 L L.length (Nat.le_refl _), List.take_length]
theorem lsum_flt (F : Pie → Int64) : ∀ (G : List CPie), (∀ c, c ∈ G → ∃ p, p < 3 ∧ c.1 = nI p) → lsum (G.map fun c => F c.2) = lsum ((flt 0 G).map F) + lsum ((flt 1 G).map F) + lsum ((flt 2 G).map F)
  | [], _ => by show (0 : Int64) = 0 + 0 + 0; decide
  | c :: G, h => by
    have ih := lsum_flt F G (fun c hc => h c (List.mem_cons_of_mem _ hc))
    obtain ⟨p, hp, e⟩ := h c List.mem_cons_self
    have n01 : ¬ nI 0 = nI 1 := by decide
    have n02 : ¬ nI 0 = nI 2 := by decide
    have n12 : ¬ nI 1 = nI 2 := by decide
    show F c.2 + lsum (G.map fun c => F c.2) = _
    rw [ih]
    rcases (show p = 0 ∨ p = 1 ∨ p = 2 by omega) with rfl | rfl | rfl
    · rw [flt_t e, flt_f (p := 1) (by rw [e]; exact n01), flt_f (p := 2) (by rw [e]; exact n02)]
      show _ = F c.2 + lsum ((flt 0 G).map F) + _ + _
      simp only [Int64.add_assoc]
    · rw [flt_t e, flt_f (p := 0) (by rw [e]; exact fun z => n01 z.symm), flt_f (p := 2) (by rw [e]; exact n12)]
      show _ = _ + (F c.2 + lsum ((flt 1 G).map F)) + _
      rw [← Int64.add_assoc (lsum ((flt 0 G).map F)) (F c.2), Int64.add_comm (lsum ((flt 0 G).map F)) (F c.2)]
      simp only [Int64.add_assoc]
    · rw [flt_t e, flt_f (p := 0) (by rw [e]; exact fun z => n02 z.symm), flt_f (p := 1) (by rw [e]; exact fun z => n12 z.symm)]
      show _ = _ + (F c.2 + lsum ((flt 2 G).map F))
      rw [← Int64.add_assoc _ (F c.2), Int64.add_comm _ (F c.2)]
      simp only [Int64.add_assoc]
theorem flt_at {p : Nat} : ∀ (G : List CPie) (k : Nat), k < G.length → (pt G k).1 = nI p → pp (flt p G) (cnt p ((tags G).take k)) = (pt G k).2
  | [], k, h, _ => absurd h (Nat.not_lt_zero _)
  | c :: G, 0, h, e => by
    have e : c.1 = nI p := e
    rw [flt_t e]
    rfl
  | c :: G, k + 1, h, e => by
    have ih := flt_at (p := p) G k (by simpa using h) e
    have e1 : (tags (c :: G)).take (k + 1) = c.1 :: (tags G).take k := rfl
    rw [e1]
    show _ = (pt G k).2
    rw [← ih]
    unfold cnt
    by_cases z : c.1 = nI p
    · rw [flt_t z, List.filter_cons_of_pos (by simp [z]), List.length_cons]
      rfl
    · rw [flt_f z, List.filter_cons_of_neg (by simp [z])]
theorem cnt_run {p : Nat} {X : List Int32} {i : Nat} : ∀ j, (∀ l, l < j → X[i + l]? = some (nI p)) → cnt p (X.take (i + j)) = cnt p (X.take i) + j
  | 0, _ => rfl
  | j + 1, h => by
    have ih := cnt_run (p := p) (X := X) (i := i) j (fun l hl => h l (by omega))
    rw [← Nat.add_assoc, List.take_succ, h j (by omega)]
    unfold cnt at ih ⊢
    rw [List.filter_append, List.length_append, ih]
    simp
    omega
theorem tags_at {G : List CPie} {k : Nat} {v : Int32} (h : (tags G)[k]? = some v) : k < G.length ∧ (pt G k).1 = v := by
  unfold tags at h
  rw [List.getElem?_map] at h
  cases e : G[k]? with
  | none => rw [e] at h; cases h
  | some c =>
    rw [e] at h
    have hk : k < G.length := (List.getElem?_eq_some_iff.mp e).1
    refine ⟨hk, ?_⟩
    unfold pt
    rw [List.getD_eq_getElem?_getD, e]
    exact Option.some.inj h
section
variable {d : Nat} {A : qA} {S : qS} {B : Nat} {w last : Int32} {T : List Row}
/-- what the class's book tells of a sell's pieces -/
theorem CR.fp {s : CSt} (h : CR (fun t => paF (tr T t)) s (aRes w last T)) {t : Nat} (ht : paF (tr T t) < 3) : ∃ i, s.2.2.2.2.1 t = nI i ∧ s.2.2.2.2.2 t = nI (pcT w last T t) ∧ i + pcT w last T t ≤ s.2.1.length ∧ ∀ j, j < pcT w last T t → (pt s.2.1 (i + j)).2 = ppT w last T t j := by
  obtain ⟨h1, h2, h3, h4, h5, h6⟩ := h
  obtain ⟨i, n, e1, e2, e3, e4, e5, e6⟩ := h6 t ht
  have en : pcT w last T t = n := e4
  rw [en]
  refine ⟨i, e1, e2, by simpa [tags] using e3, fun j hj => ?_⟩
  obtain ⟨k1, k2⟩ := tags_at (e6 j hj)
  rw [← flt_at _ _ k1 k2, cnt_run j (fun l hl => e6 l (by omega)), e5, h2 _ ht]
  rfl
theorem CR.all {s : CSt} (h : CR (fun t => paF (tr T t)) s (aRes w last T)) (F : Pie → Int64) : sumF (fun k => F (pt s.2.1 k).2) 0 s.2.1.length = smA F w last T := by
  obtain ⟨h1, h2, h3, h4, h5, h6⟩ := h
  have a := sumF_all (fun c : CPie => F c.2) cp0 s.2.1
  have b := sumF_all F pie0 (allP w last T)
  have a' : sumF (fun k => F (pt s.2.1 k).2) 0 s.2.1.length = lsum (s.2.1.map fun c => F c.2) := a
  have b' : smA F w last T = lsum ((allP w last T).map F) := b
  rw [a', b', lsum_flt F _ h3, h2 0 (by omega), h2 1 (by omega), h2 2 (by omega), allP, List.map_append, List.map_append, lsum_app, lsum_app]
theorem CR.opn {s : CSt} (h : CR (fun t => paF (tr T t)) s (aRes w last T)) : s.2.2.1.length = nOpn (allP w last T) := by
  obtain ⟨h1, h2, h3, h4, h5, h6⟩ := h
  rw [h4, (opIdx_len _ 0 h3).1, h2 0 (by omega), h2 1 (by omega), h2 2 (by omega), allP, nOpn_app, nOpn_app]
theorem CR.lost {s : CSt} (h : CR (fun t => paF (tr T t)) s (aRes w last T)) : s.2.2.2.1 = (aRes w last T 2).2.2.1 + ((aRes w last T 1).2.2.1 + ((aRes w last T 0).2.2.1 + 0)) := by
  obtain ⟨h1, h2, h3, h4, h5, h6⟩ := h
  rw [h5, Int64.add_zero, Int64.add_comm (aRes w last T 1).2.2.1, Int64.add_comm (aRes w last T 2).2.2.1]
set_option maxRecDepth 20000 in
theorem ct_gainT {t : Nat} {f : Int64 → qS → Prop} (h : BN A S B w last T) (hT : vT T) (ht : t < T.length) (hf : f (smT pGain w last T t) S) : Run (d + 2) 11 [.ref B, .int (nI t)] A S (kL A f) := by
  obtain ⟨s, o, pl, h1, h2, -⟩ := h
  have hl := hT.2.2
  obtain ⟨i, e1, e2, e3, e4⟩ := h2.fp (t := t) (hT.1 t ht).pa.1
  refine ct_gainOf h1 (by omega) e1 e2 e3 ?_
  rw [smT] at hf
  rwa [sumF_eq (g' := fun k => pGain (ppT w last T t k)) (i' := 0) _ (fun k hk => by rw [e4 k hk, Nat.zero_add])]
set_option maxRecDepth 20000 in
theorem ct_deferredT {t : Nat} {f : Int64 → qS → Prop} (h : BN A S B w last T) (hT : vT T) (ht : t < T.length) (hf : f (smT pMoved w last T t) S) : Run (d + 2) 12 [.ref B, .int (nI t)] A S (kL A f) := by
  obtain ⟨s, o, pl, h1, h2, -⟩ := h
  have hl := hT.2.2
  obtain ⟨i, e1, e2, e3, e4⟩ := h2.fp (t := t) (hT.1 t ht).pa.1
  refine ct_deferredOf h1 (by omega) e1 e2 e3 ?_
  rw [smT] at hf
  rwa [sumF_eq (g' := fun k => pMoved (ppT w last T t k)) (i' := 0) _ (fun k hk => by rw [e4 k hk, Nat.zero_add])]
set_option maxRecDepth 20000 in
theorem ct_allGainsT {f : Int64 → qS → Prop} (h : BN A S B w last T) (hf : f (smA pGain w last T) S) : Run (d + 2) 13 [.ref B] A S (kL A f) := by
  obtain ⟨s, o, pl, h1, h2, -⟩ := h
  exact ct_allGains h1 (by rw [h2.all]; exact hf)
set_option maxRecDepth 20000 in
theorem ct_allDeferredT {f : Int64 → qS → Prop} (h : BN A S B w last T) (hf : f (smA pMoved w last T) S) : Run (d + 2) 14 [.ref B] A S (kL A f) := by
  obtain ⟨s, o, pl, h1, h2, -⟩ := h
  exact ct_allDeferred h1 (by rw [h2.all]; exact hf)
end
