/-! money in one paper over all its trades; what a sell defers is never below 0 -/
theorem sell_m {b c B : Nat} {rule : Int32} (hb : b ≤ mxN) (hB9 : B ≤ 1000000000) : ∀ n x (L : List Lot), (∀ l, l ∈ L → okL b c l) → (∀ l, l ∈ L → gdL l) → csum L ≤ B → (∀ l, l ∈ (sellGo rule n x L).1 → gdL l) ∧ (∀ l, l ∈ (sellGo rule n x L).2 → gdL l) ∧ csum (sellGo rule n x L).1 + csum (sellGo rule n x L).2 = csum L := by
  intro n
  induction n with
  | zero => intro x L h hg hB; exact ⟨fun l z => by simp [sellGo] at z, hg, by simp [sellGo, csum]⟩
  | succ n ih =>
    intro x L h hg hB
    rw [sellGo]
    by_cases c1 : x ≤ 0
    · rw [if_pos c1]; exact ⟨fun l z => by simp at z, hg, by simp [csum]⟩
    · rw [if_neg c1]
      by_cases c2 : L.length = 0
      · rw [if_pos c2]; exact ⟨fun l z => by simp at z, hg, by simp [csum]⟩
      · rw [if_neg c2]
        have hp := pick_lt (L := L) (rule := rule) (by omega)
        have hq := partIf_ok (sh := x) hb hp h
        have pl := partIf_len (sh := x) hp
        obtain ⟨m1, m2⟩ := part_m (sh := x) hb hp h hg hB hB9
        have he := csum_erase _ _ pl.1
        rw [m2] at he
        generalize partIf L (pick L rule) x = M at hq pl m1 he
        obtain ⟨n1, n2, n3⟩ := ih (x - (lt M (pick L rule)).1) (M.eraseIdx (pick L rule)) (fun l hl => hq l (List.mem_of_mem_eraseIdx hl)) (fun l hl => m1 l (List.mem_of_mem_eraseIdx hl)) (by omega)
        refine ⟨fun l hl => ?_, n2, ?_⟩
        · rcases List.mem_cons.mp hl with e | e
          · subst e; exact m1 _ (lt_mem pl.1)
          · exact n1 l e
        · dsimp only
          rw [csum]
          omega
theorem newPie_m {b c B v : Nat} {day : Int32} {l : Lot} (hb : b ≤ mxN) (h : okL b c l) (hg : gdL l) (hB : mN l.2.1 ≤ B) (hB9 : B ≤ 1000000000) (hv : v ≤ 999) : gdP B (newPie day l (nI v)) ∧ mN (pLoss (newPie day l (nI v))) ≤ mN l.2.1 := by
  obtain ⟨⟨s, s1, s2, s3⟩, -⟩ := h
  unfold mxN at hb
  unfold gdL at hg
  generalize ec : mN l.2.1 = cc at hg hB
  have sv : s * v ≤ 10000000 * 999 := Nat.mul_le_mul (by omega) hv
  have br : l.1.toInt64 * (nI v).toInt64 = mO (s * v) := by rw [s3, mO_32 (by omega), mO_32 (by omega), mO_mul]
  have e1 : pLoss (newPie day l (nI v)) = if l.2.1 ≤ l.1.toInt64 * (nI v).toInt64 then 0 else l.2.1 - l.1.toInt64 * (nI v).toInt64 := rfl
  have e2 : pMoved (newPie day l (nI v)) = mO 0 := rfl
  rw [br, hg] at e1
  have hle := mO_le (a := cc) (b := s * v) (by omega) (by omega)
  have e3 : mN (pMoved (newPie day l (nI v))) = 0 := by rw [e2, mN_o (by decide)]
  by_cases z : cc ≤ s * v
  · rw [if_pos (hle.2 z)] at e1
    have e4 : mN (pLoss (newPie day l (nI v))) = 0 := by rw [e1]; rfl
    refine ⟨⟨by rw [e4]; exact e1, by rw [e3]; exact e2, by rw [e4, e3]; omega⟩, by rw [e4]; omega⟩
  · rw [if_neg (fun c => z (hle.1 c)), mO_sub (by omega)] at e1
    have e4 : mN (pLoss (newPie day l (nI v))) = cc - s * v := by rw [e1, mN_o (by omega)]
    refine ⟨⟨by rw [e4]; exact e1, by rw [e3]; exact e2, by rw [e4, e3]; omega⟩, by rw [e4]; omega⟩
theorem sold_m {b c B v : Nat} {day : Int32} (hb : b ≤ mxN) (hB9 : B ≤ 1000000000) (hv : v ≤ 999) : ∀ (X : List Lot), (∀ l, l ∈ X → okL b c l) → (∀ l, l ∈ X → gdL l) → csum X ≤ B → (∀ p, p ∈ X.map (fun l => newPie day l (nI v)) → gdP B p) ∧ xsum (X.map (fun l => newPie day l (nI v))) ≤ csum X
  | [], _, _, _ => ⟨fun p z => by simp at z, Nat.le_refl _⟩
  | l :: X, h, hg, hB => by
    rw [csum] at hB ⊢
    obtain ⟨a1, a2⟩ := sold_m (day := day) hb hB9 hv X (fun q hq => h q (List.mem_cons_of_mem _ hq)) (fun q hq => hg q (List.mem_cons_of_mem _ hq)) (by omega)
    obtain ⟨b1, b2⟩ := newPie_m (B := B) (day := day) hb (h l (List.mem_cons_self ..)) (hg l (List.mem_cons_self ..)) (by omega) hB9 hv
    rw [List.map_cons]
    refine ⟨fun p hp => ?_, ?_⟩
    · rcases List.mem_cons.mp hp with e | e
      · subst e; exact b1
      · exact a1 p e
    · rw [xsum]; omega
def MInv (B : Nat) (s : PSt) : Prop := (∀ l, l ∈ s.1 → gdL l) ∧ (∀ p, p ∈ s.2.1 → gdP B p) ∧ csum s.1 + xsum s.2.1 ≤ B
theorem MInv.up {B B' : Nat} {s : PSt} (h : MInv B s) (hB : B ≤ B') : MInv B' s := ⟨h.1, fun p hp => (h.2.1 p hp).up hB, by have := h.2.2; omega⟩
theorem MInv.buy {b n t B x v : Nat} {w day : Int32} {s : PSt} (hb : b ≤ mxN) (hn : n ≤ 100) (h : PInv b n s) (hm : MInv B s) (hB : B + 998001 ≤ 1000000000) (hx : 1 ≤ x) (hxb : x ≤ 999) (hx9 : 999 ≤ b) (hv : v ≤ 999) : MInv (B + 998001) (aBuy w t day (nI x) (nI v) s) := by
  obtain ⟨h1, h2, h3, h4⟩ := h
  obtain ⟨m1, m2, m3⟩ := hm
  have hc : n ≤ mxN := by unfold mxN; omega
  have xv : x * v ≤ 999 * 999 := Nat.mul_le_mul hxb hv
  have e1 : (newLot (nI t) day (nI x) (nI v)).2.1 = mO (x * v) := by
    show (nI x).toInt64 * (nI v).toInt64 = _
    rw [mO_32 (by omega), mO_32 (by omega), mO_mul]
  obtain ⟨g1, g2⟩ := gdL.of (by omega) e1
  obtain ⟨k1, k2, k3⟩ := buyP_m (B := B + 998001) (w := w) (day := day) hb hc hB s.2.1 (s.1 ++ [newLot (nI t) day (nI x) (nI v)]) (by simp) h2 (fun l hl => by
    rcases List.mem_append.mp hl with e | e
    · exact (h1 l e).up (Nat.le_refl _) (by omega)
    · rw [List.mem_singleton] at e; subst e
      exact ⟨⟨x, hx, by omega, rfl⟩, 0, by omega, rfl⟩) (fun l hl => by
    rcases List.mem_append.mp hl with e | e
    · exact m1 l e
    · rw [List.mem_singleton] at e; subst e; exact g1) (fun p hp => (m2 p hp).up (by omega)) (by
    rw [csum_app, csum, csum, g2]; omega)
  refine ⟨k2, k1, ?_⟩
  show csum (buyP _ _ _ _).2 + xsum (buyP _ _ _ _).1 ≤ _
  rw [k3, csum_app, csum, csum, g2]
  omega
theorem MInv.sell {b n t B x v : Nat} {w day rule : Int32} {s : PSt} (hb : b ≤ mxN) (hn : n ≤ 39) (h : PInv b n s) (hm : MInv B s) (hB : B ≤ 1000000000) (hxb : x ≤ 1000000000) (hv : v ≤ 999) : MInv B (aSell w t day (nI x) (nI v) rule s) := by
  obtain ⟨h1, h2, h3, h4⟩ := h
  obtain ⟨m1, m2, m3⟩ := hm
  have hc : n ≤ mxN := by unfold mxN; omega
  unfold aSell
  by_cases c : nI x ≤ shSum s.1 s.1.length
  · rw [if_pos c]
    have hs := shN_le hb s.1 h1
    unfold mxN at hs
    rw [shSum_all hb h1, nIleB hxb (by omega)] at c
    have hg := sellGo_ok (rule := rule) hb 40 x s.1 h1 (by omega) c hxb
    obtain ⟨n1, n2, n3⟩ := sell_m (rule := rule) hb hB 40 (nI x) s.1 h1 m1 (by omega)
    unfold soldL
    generalize sellGo rule 40 (nI x) s.1 = r at hg n1 n2 n3
    obtain ⟨o1, o2⟩ := sold_m (day := day) hb hB hv r.1 hg.1 n1 (by omega)
    obtain ⟨q1, q2, q3⟩ := repAll_m (w := w) (day := day) hb hc hB (r.1.map (fun l => newPie day l (nI v))) r.2 (fun p hp => by
      obtain ⟨l, hl, e⟩ := List.mem_map.mp hp
      subst e
      exact newPie_ok (hg.1 l hl)) (fun l hl => (hg.2 l hl).up (Nat.le_refl _) (by omega)) n2 o1 (by omega)
    refine ⟨q2, fun p hp => ?_, ?_⟩
    · rcases List.mem_append.mp hp with e | e
      · exact m2 p e
      · exact q1 p e
    · show csum (repAll _ _ _ _).2 + xsum (s.2.1 ++ (repAll _ _ _ _).1) ≤ _
      rw [xsum_app]
      omega
  · rw [if_neg c]
    exact ⟨m1, m2, m3⟩
theorem csum_sp {a b : Int32} : ∀ (L : List Lot), csum (spL a b L) ≤ csum L ∧ ((∀ l, l ∈ L → gdL l) → ∀ l, l ∈ spL a b L → gdL l)
  | [] => ⟨Nat.le_refl _, fun h => h⟩
  | l :: L => by
    obtain ⟨i1, i2⟩ := csum_sp (a := a) (b := b) L
    have e : spL a b (l :: L) = if spK (spS a b l) = true then spS a b l :: spL a b L else spL a b L := by
      unfold spL
      rw [List.map_cons, List.filter_cons]
    rw [e]
    split
    · refine ⟨?_, fun h q hq => ?_⟩
      · rw [csum, csum]
        show mN l.2.1 + _ ≤ _
        omega
      · rcases List.mem_cons.mp hq with z | z
        · subst z; exact h l (List.mem_cons_self ..)
        · exact i2 (fun q hq => h q (List.mem_cons_of_mem _ hq)) q z
    · refine ⟨?_, fun h q hq => i2 (fun q hq => h q (List.mem_cons_of_mem _ hq)) q hq⟩
      rw [csum]
      omega
theorem xsum_sp {a b : Int32} : ∀ (P : List Pie), xsum (P.map (spP a b)) = xsum P
  | [] => rfl
  | p :: P => by
    rw [List.map_cons, xsum, xsum, xsum_sp P]
    rfl
theorem MInv.split {B : Nat} {a b : Int32} {s : PSt} (hm : MInv B s) : MInv B (aSplit a b s) := by
  obtain ⟨m1, m2, m3⟩ := hm
  have := csum_sp (a := a) (b := b) s.1
  refine ⟨this.2 m1, fun p hp => ?_, ?_⟩
  · obtain ⟨q, hq, e⟩ := List.mem_map.mp hp
    subst e
    exact m2 q hq
  · show csum (spL a b s.1) + xsum (s.2.1.map (spP a b)) ≤ _
    rw [xsum_sp]
    omega
theorem MInv.step {k n t : Nat} {w : Int32} {T : List Row} {s : PSt} (hv : vRow (tr T t)) (hk : k ≤ 4) (hn : n ≤ 38) (h : PInv (999 * 9 ^ k) n s) (hm : MInv (998001 * n) s) : MInv (998001 * (n + 1)) (aStep w T t s) := by
  have p9 : 9 ^ k ≤ 9 ^ 4 := Nat.pow_le_pow_right (by omega) hk
  have p1 : 1 ≤ 9 ^ k := Nat.one_le_pow _ _ (by omega)
  have hb : 999 * 9 ^ k ≤ mxN := by unfold mxN; omega
  obtain ⟨v1, ⟨q, q1, q2⟩, ⟨dd, d1, d2⟩, v4, v5, v6⟩ := hv
  unfold aStep
  by_cases c0 : (tr T t).1 = 0
  · rw [if_pos c0]
    obtain ⟨⟨x, x1, x2, x3⟩, v, y1, y2⟩ := v5 (by rw [c0]; decide)
    rw [x3, y2]
    have := MInv.buy (t := t) (w := w) (day := (tr T t).2.2.1) hb (by omega) h hm (by omega) x1 x2 (by omega) y1
    exact this.up (by omega)
  · rw [if_neg c0]
    by_cases c2 : (tr T t).1 = 2
    · rw [if_pos c2]
      exact hm.split.up (by omega)
    · rw [if_neg c2]
      obtain ⟨⟨x, x1, x2, x3⟩, v, y1, y2⟩ := v5 c2
      rw [x3, y2]
      exact (MInv.sell (t := t) hb (by omega) h hm (by omega) (by omega) y1).up (by omega)
theorem aGo_m {w last : Int32} {T : List Row} {p : Nat} : ∀ (Q : List Nat) (k n : Nat) (s : PSt), (∀ t, t ∈ Q → vRow (tr T t)) → k + spQ T Q ≤ 4 → n + Q.length ≤ 38 → PInv (999 * 9 ^ k) n s → MInv (998001 * n) s → ∃ n', n' ≤ n + Q.length ∧ MInv (998001 * n') (aGo w last T p Q s)
  | [], k, n, s, _, _, _, _, hm => ⟨n, Nat.le_refl _, hm⟩
  | t :: Q, k, n, s, hv, hk, hn, h, hm => by
    rw [spQ] at hk
    rw [List.length_cons] at hn
    have hv1 := hv t (List.mem_cons_self ..)
    have hvQ : ∀ q, q ∈ Q → vRow (tr T q) := fun q hq => hv q (List.mem_cons_of_mem _ hq)
    rw [aGo]
    split
    · obtain ⟨n', i1, i2⟩ := aGo_m Q (k + isSpl T t) (n + 1) (aStep w T t s) hvQ (by omega) (by omega) (aStep_inv hv1 (by omega) (by omega) h) (MInv.step hv1 (by omega) (by omega) h hm)
      exact ⟨n', by rw [List.length_cons]; omega, i2⟩
    · obtain ⟨n', i1, i2⟩ := aGo_m Q k n s hvQ (by omega) (by omega) h hm
      exact ⟨n', by rw [List.length_cons]; omega, i2⟩
/-- a trade that is no sell has no pieces -/
theorem aGo_pc {w last : Int32} {T : List Row} {p t : Nat} (ht : (tr T t).1 = 0 ∨ (tr T t).1 = 2) : ∀ (Q : List Nat) (s : PSt), s.2.2.2.2.2 t = 0 → (aGo w last T p Q s).2.2.2.2.2 t = 0
  | [], s, h => h
  | q :: Q, s, h => by
    rw [aGo]
    split
    · refine aGo_pc ht Q _ ?_
      unfold aStep
      split
      · exact h
      · split
        · exact h
        · rename_i c0 c2
          unfold aSell
          split
          · show upN _ q _ t = 0
            unfold upN
            rw [if_neg (fun e => by subst e; rcases ht with z | z; exact c0 z; exact c2 z)]
            exact h
          · exact h
    · exact aGo_pc ht Q _ h
theorem aGo_pl {w last : Int32} {T : List Row} {p : Nat} : ∀ (Q : List Nat) (k n : Nat) (s : PSt), (∀ t, t ∈ Q → vRow (tr T t)) → k + spQ T Q ≤ 4 → n + Q.length ≤ 38 → PInv (999 * 9 ^ k) n s → ∃ n' b', n' ≤ n + Q.length ∧ PInv b' n' (aGo w last T p Q s)
  | [], k, n, s, _, _, _, h => ⟨n, _, Nat.le_refl _, h⟩
  | t :: Q, k, n, s, hv, hk, hn, h => by
    rw [spQ] at hk
    rw [List.length_cons] at hn
    have hv1 := hv t (List.mem_cons_self ..)
    have hvQ : ∀ q, q ∈ Q → vRow (tr T q) := fun q hq => hv q (List.mem_cons_of_mem _ hq)
    rw [aGo]
    split
    · obtain ⟨n', b', i1, i2⟩ := aGo_pl Q (k + isSpl T t) (n + 1) (aStep w T t s) hvQ (by omega) (by omega) (aStep_inv hv1 (by omega) (by omega) h)
      exact ⟨n', b', by rw [List.length_cons]; omega, i2⟩
    · obtain ⟨n', b', i1, i2⟩ := aGo_pl Q k n s hvQ (by omega) (by omega) h
      exact ⟨n', b', by rw [List.length_cons]; omega, i2⟩
theorem pc_le {w last : Int32} {T : List Row} {t : Nat} (hT : vT T) : pcT w last T t ≤ 100000 := by
  have hl := hT.2.2
  have hsp := hT.2.1
  obtain ⟨n', b', hn, hm⟩ := aGo_pl (w := w) (last := last) (p := pfT T t) (qT T) 0 0 p0 (fun q hq => hT.1 q (qT_mem.mp hq)) (by rw [qT_spl]; omega) (by rw [qT_len]; omega) PInv.z
  rw [qT_len] at hn
  have fp := aRes_fp w last T (pfT T t) t
  have hp : 2 * (aRes w last T (pfT T t)).2.1.length + n' ≤ n' * n' := hm.2.2.2
  have : n' * n' ≤ 24 * 24 := Nat.mul_le_mul (by omega) (by omega)
  unfold pcT
  omega
theorem smT_m {w last : Int32} {T : List Row} {t : Nat} (hT : vT T) : ∃ y, y < 2 ^ 62 ∧ smT pMoved w last T t = mO y := by
  have hl := hT.2.2
  have hsp := hT.2.1
  obtain ⟨n', hn, hm⟩ := aGo_m (w := w) (last := last) (p := pfT T t) (qT T) 0 0 p0 (fun q hq => hT.1 q (qT_mem.mp hq)) (by rw [qT_spl]; omega) (by rw [qT_len]; omega) PInv.z ⟨fun l h => by simp [p0] at h, fun l h => by simp [p0] at h, Nat.le_refl _⟩
  rw [qT_len] at hn
  have fp := aRes_fp w last T (pfT T t) t
  have key : ∀ k, k < pcT w last T t → ∃ y, y ≤ 998001 * 24 ∧ pMoved (ppT w last T t k) = mO y := by
    intro k hk
    unfold ppT pp
    unfold pcT at hk
    unfold fpT
    have lt' : (aRes w last T (pfT T t)).2.2.2.2.1 t + k < (aRes w last T (pfT T t)).2.1.length := by omega
    have mem : (aRes w last T (pfT T t)).2.1.getD ((aRes w last T (pfT T t)).2.2.2.2.1 t + k) pie0 ∈ (aRes w last T (pfT T t)).2.1 := by
      rw [List.getD_eq_getElem?_getD, List.getElem?_eq_getElem lt', Option.getD_some]
      exact List.getElem_mem lt'
    obtain ⟨g1, g2, g3⟩ := hm.2.1 _ mem
    exact ⟨_, by omega, g2⟩
  have pcl := pc_le (w := w) (last := last) (t := t) hT
  have all : ∀ n, n ≤ pcT w last T t → ∃ y, y ≤ 998001 * 24 * n ∧ sumF (fun k => pMoved (ppT w last T t k)) 0 n = mO y := by
    intro n
    induction n with
    | zero => intro _; exact ⟨0, Nat.zero_le _, rfl⟩
    | succ n ih =>
      intro hn'
      obtain ⟨y, h1, h2⟩ := ih (by omega)
      obtain ⟨z, h3, h4⟩ := key n (by omega)
      refine ⟨y + z, by rw [Nat.mul_succ]; omega, ?_⟩
      rw [sumF, h2, Nat.zero_add, h4, mO_add]
  obtain ⟨y, h1, h2⟩ := all _ (Nat.le_refl _)
  refine ⟨y, ?_, h2⟩
  have : 998001 * 24 * pcT w last T t ≤ 998001 * 24 * 100000 := Nat.mul_le_mul_left _ pcl
  omega
section
variable {d : Nat} {A : qA} {S : qS} {x : Nat} {V : VSt}
theorem lg0 {y : Nat} (h : y < 2 ^ 62) : lg_cmp (mO y) 0 ≤ 0 ↔ mO y = 0 := by
  have e0 : (0 : Int64) = mO 0 := rfl
  constructor
  · intro z
    rcases Nat.eq_zero_or_pos y with e | e
    · rw [e]; rfl
    · exfalso
      have h1 : ¬ mO y ≤ mO 0 := fun c => by rw [mO_le (by omega) (by omega)] at c; omega
      have h2 : mO 0 < mO y := Int64.not_le.mp h1
      have h3 : lg_cmp (mO y) (mO 0) = 1 := by
        unfold lg_cmp
        rw [if_pos h2]
      rw [e0, h3] at z
      exact absurd z (by decide)
  · intro z
    rw [z]
    decide
set_option maxRecDepth 20000 in
theorem ct_led {i : Int32} {K : qK} (h : XAt A S x V) (hv : vOk V) (hs : ∀ t, aLed V i = some t → K (some (.int (nI t))) (A.1, A.2.1, A.2.2.1 + 1, A.2.2.2 + 8) S) (hn : aLed V i = none → ∀ z, A.2.1 ≤ z → K (some .null) (A.1, z, A.2.2.1 + 1, A.2.2.2 + 8) S) : Run (d + 4) 126 [.ref x, .int i] A S K := by
  refine Run.i (C := mX9_led) rfl rfl rfl fun J hJ => ?_
  obtain ⟨tA, tB, nA, nB, bA, bB, π, h⟩ := h
  have hk := h.1.1
  have hl := hv.2.1.1.2.2
  have hT := h.now
  have c7 : gI S nA 7 = nI (vNow V).length := hT.2.2.1.1
  have loop : ∀ k t n, t + k = (vNow V).length → n ≤ t → ldGo V i k t n = aLed V i → J 4 [some (.ref x), some (.int i), some (.int (nI n)), some (.int (nI t))] [] A S := by
    intro k
    induction k with
    | zero =>
      intro t n hk' hn' he
      refine sX9_led_4 hJ ⟨hk, nA, h.r6, hT.1.1, ?_⟩
      rw [c7]
      refine ⟨fun _ z hz => hn ?_ z hz, fun c => absurd ((nIle (by omega) (by omega)).2 (by omega)) c⟩
      rw [← he]; rfl
    | succ k ih =>
      intro t n hk' hn' he
      have ht : t < (vNow V).length := by omega
      refine sX9_led_4 hJ ⟨hk, nA, h.r6, hT.1.1, ?_⟩
      rw [c7]
      rw [ldGo] at he
      refine ⟨fun c => absurd ((nIle (by omega) (by omega)).1 c) (by omega), fun _ => ⟨hk, nA, h.r6, hT.1.1, wc rfl, ct_isSell hT ?_⟩⟩
      rw [nI_1, nI_1]
      refine q_eqb (fun c => ?_) (fun c => ⟨hk, bA, h.r8, h.bk.k, wc rfl, ?_⟩)
      · have ns : ¬ (tr (vNow V) t).1 = 1 := by
          intro z
          rw [isSellT, hasT_n (by omega) ht, cl_n (by omega), decide_eq_true z] at c
          cases c
        have v1 := (hv.2.1.1.1 t ht).1
        have p0' : pcT (lw (vLed V)) 999 (vNow V) t = 0 := aGo_pc (by rcases v1 with z | z | z; exact Or.inl z; exact absurd z ns; exact Or.inr z) _ _ rfl
        have s0 : smT pMoved (lw (vLed V)) 999 (vNow V) t = 0 := by
          unfold smT
          rw [p0']
          rfl
        rw [if_pos s0] at he
        exact ih (t + 1) n (by omega) (by omega) he
      · refine ct_deferredT h.bk hv.2.1.1 ht ?_
        obtain ⟨y, hy, ey⟩ := smT_m (w := lw (vLed V)) (last := 999) (t := t) hv.2.1.1
        rw [ey] at he ⊢
        rw [lg0 hy]
        refine ⟨fun z => ?_, fun z => ⟨fun zi => ?_, fun zi => ?_⟩⟩
        · rw [if_pos z] at he
          exact ih (t + 1) n (by omega) (by omega) he
        · rw [if_neg z, if_neg zi] at he
          exact ih (t + 1) (n + 1) (by omega) (by omega) he
        · rw [if_neg z, if_pos zi] at he
          exact hs t he.symm
  exact sX9_led_0 hJ (loop (vNow V).length 0 0 (by omega) (Nat.le_refl _) rfl)
end
