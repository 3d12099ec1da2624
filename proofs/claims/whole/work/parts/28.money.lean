/-! what lots cost and what pieces lose: never below 0, and no more than was paid -/
def mO (c : Nat) : Int64 := Int64.ofNat c
def mN (x : Int64) : Nat := x.toInt.toNat
theorem mO_i {c : Nat} (h : c < 2 ^ 63) : (mO c).toInt = c := Int64.toInt_ofNat_of_lt h
theorem mN_o {c : Nat} (h : c < 2 ^ 63) : mN (mO c) = c := by
  unfold mN
  rw [mO_i h]
  exact Int.toNat_natCast c
theorem mO_add (a b : Nat) : mO a + mO b = mO (a + b) := (Int64.ofNat_add a b).symm
theorem mO_mul (a b : Nat) : mO a * mO b = mO (a * b) := (Int64.ofNat_mul a b).symm
theorem mO_sub {a b : Nat} (h : b ≤ a) : mO a - mO b = mO (a - b) := by
  have e : mO a = mO (a - b) + mO b := by rw [mO_add, Nat.sub_add_cancel h]
  rw [e, Int64.add_sub_cancel]
theorem mO_inj {a b : Nat} (ha : a < 2 ^ 63) (hb : b < 2 ^ 63) (h : mO a = mO b) : a = b := by
  have := congrArg mN h
  rwa [mN_o ha, mN_o hb] at this
theorem mO_div {a b : Nat} (ha : a < 2 ^ 63) (hb : b < 2 ^ 63) : mO a / mO b = mO (a / b) := by
  apply Int64.toInt_inj.mp
  have hq : a / b ≤ a := Nat.div_le_self a b
  rw [Int64.toInt_div, mO_i ha, mO_i hb, mO_i (by omega), show (a : Int).tdiv (b : Int) = ((a / b : Nat) : Int) from rfl]
  generalize a / b = q at hq
  exact Int.bmod_eq_of_le (by omega) (by omega)
theorem mO_32 {s : Nat} (h : s < 2 ^ 31) : (nI s).toInt64 = mO s := by
  apply Int64.toInt_inj.mp
  rw [Int32.toInt_toInt64, mO_i (by omega)]
  unfold nI
  exact Int32.toInt_ofNat_of_lt h
theorem mO_le {a b : Nat} (ha : a < 2 ^ 63) (hb : b < 2 ^ 63) : mO a ≤ mO b ↔ a ≤ b := by
  rw [Int64.le_iff_toInt_le, mO_i ha, mO_i hb]
  omega
def pLoss (p : Pie) : Int64 := p.2.2.2.2.2.2.2.1
def csum : List Lot → Nat
  | [] => 0
  | l :: L => mN l.2.1 + csum L
def xsum : List Pie → Nat
  | [] => 0
  | p :: P => mN (pLoss p) + xsum P
def gdL (l : Lot) : Prop := l.2.1 = mO (mN l.2.1)
def gdP (B : Nat) (p : Pie) : Prop := pLoss p = mO (mN (pLoss p)) ∧ pMoved p = mO (mN (pMoved p)) ∧ mN (pLoss p) + mN (pMoved p) ≤ B
theorem gdL.of {l : Lot} {c : Nat} (hc : c < 2 ^ 63) (e : l.2.1 = mO c) : gdL l ∧ mN l.2.1 = c := by
  unfold gdL
  rw [e, mN_o hc]
  exact ⟨rfl, rfl⟩
theorem gdP.up {B B' : Nat} {p : Pie} (h : gdP B p) (hB : B ≤ B') : gdP B' p := ⟨h.1, h.2.1, by have := h.2.2; omega⟩
theorem csum_app (L M : List Lot) : csum (L ++ M) = csum L + csum M := by
  induction L with
  | nil => simp [csum]
  | cons l L ih => simp only [List.cons_append, csum, ih]; omega
theorem xsum_app (L M : List Pie) : xsum (L ++ M) = xsum L + xsum M := by
  induction L with
  | nil => simp [xsum]
  | cons l L ih => simp only [List.cons_append, xsum, ih]; omega
theorem csum_mem : ∀ {L : List Lot} {l : Lot}, l ∈ L → mN l.2.1 ≤ csum L
  | [], _, h => by cases h
  | x :: L, l, h => by
    rcases List.mem_cons.mp h with e | e
    · subst e; rw [csum]; omega
    · have := csum_mem e; rw [csum]; omega
theorem csum_set : ∀ (L : List Lot) (i : Nat) (x : Lot), i < L.length → csum (L.set i x) + mN (lt L i).2.1 = csum L + mN x.2.1
  | [], _, _, h => by simp at h
  | l :: L, 0, x, _ => by simp [csum, lt]; omega
  | l :: L, i + 1, x, h => by
    have := csum_set L i x (by simpa using h)
    have e : lt (l :: L) (i + 1) = lt L i := by simp [lt]
    rw [e]
    simp only [List.set_cons_succ, csum]
    omega
theorem csum_erase : ∀ (M : List Lot) (i : Nat), i < M.length → csum (M.eraseIdx i) + mN (lt M i).2.1 = csum M
  | [], _, h => by simp at h
  | l :: M, 0, h => by simp [csum, lt]; omega
  | l :: M, i + 1, h => by
    have := csum_erase M i (by simpa using h)
    have e : lt (l :: M) (i + 1) = lt M i := by simp [lt]
    rw [e]
    simp only [List.eraseIdx_cons_succ, csum]
    omega
theorem part_m {b c i B : Nat} {L : List Lot} {sh : Int32} (hb : b ≤ mxN) (hi : i < L.length) (h : ∀ l, l ∈ L → okL b c l) (hg : ∀ l, l ∈ L → gdL l) (hB : csum L ≤ B) (hB9 : B ≤ 1000000000) : (∀ l, l ∈ partIf L i sh → gdL l) ∧ csum (partIf L i sh) = csum L := by
  unfold partIf
  by_cases z : ¬ sh ≤ 0 ∧ sh < (lt L i).1
  · rw [if_pos z]
    have hcl := (h _ (lt_mem hi)).cl hb
    unfold mxN at hb
    have hsb : (lt L i).1.toNatClampNeg ≤ 1000000000 := by omega
    obtain ⟨j, j1, j2, e⟩ := lt_nI z.1 hsb (by rw [← hcl.1]; exact z.2)
    have hc := hg _ (lt_mem hi)
    have hcB := Nat.le_trans (csum_mem (lt_mem hi)) hB
    unfold gdL at hc
    generalize es : (lt L i).1.toNatClampNeg = s at hcl hsb j2
    generalize ec : mN (lt L i).2.1 = v at hc hcB
    have vj : v * j ≤ 1000000000 * 10000000 := Nat.mul_le_mul (by omega) (by omega)
    have q1 : v * j / s ≤ v := Nat.div_le_of_le_mul (by rw [Nat.mul_comm]; exact Nat.mul_le_mul_right v (by omega))
    have e1 : (partOwn (lt L i) sh).2.1 = mO (v * j / s) := by
      show (lt L i).2.1 * sh.toInt64 / (lt L i).1.toInt64 = _
      rw [hc, e, hcl.1, mO_32 (by omega), mO_32 (by omega), mO_mul, mO_div (by omega) (by omega)]
    have e2 : (partRest (lt L i) sh).2.1 = mO (v - v * j / s) := by
      show (lt L i).2.1 - (partOwn (lt L i) sh).2.1 = _
      rw [e1, hc, mO_sub q1]
    obtain ⟨g1, m1⟩ := gdL.of (by omega) e1
    obtain ⟨g2, m2⟩ := gdL.of (by omega) e2
    have eL : L = L.take i ++ lt L i :: L.drop (i + 1) := by rw [← lt_drop hi, List.take_append_drop]
    refine ⟨fun l hl => ?_, ?_⟩
    · unfold partL at hl
      rcases List.mem_append.mp hl with w | w
      · exact hg _ (List.mem_of_mem_take w)
      · rcases List.mem_cons.mp w with w | w
        · subst w; exact g1
        · rcases List.mem_cons.mp w with w | w
          · subst w; exact g2
          · exact hg _ (List.mem_of_mem_drop w)
    · unfold partL
      rw [csum_app, csum, csum, m1, m2]
      have := congrArg csum eL
      rw [csum_app, csum, ec] at this
      omega
  · rw [if_neg z]
    exact ⟨hg, rfl⟩
theorem rep_m {b c i B : Nat} {L : List Lot} {p : Pie} (hb : b ≤ mxN) (hi : i < L.length) (hp : okP b c p) (h : ∀ l, l ∈ L → okL b (c + 1) l) (hg : ∀ l, l ∈ L → gdL l) (gp : gdP B p) (hB : csum L + mN (pLoss p) ≤ B) (hB9 : B ≤ 1000000000) : gdP B (repL p L i).1 ∧ (∀ l, l ∈ (repL p L i).2 → gdL l) ∧ csum (repL p L i).2 + mN (pLoss (repL p L i).1) = csum L + mN (pLoss p) := by
  obtain ⟨⟨x, x1, x2⟩, -⟩ := hp
  unfold repL
  by_cases z : 0 < pLeft p
  · rw [if_pos z]
    have x0 : 1 ≤ x := by
      rcases Nat.eq_zero_or_pos x with e | e
      · rw [x2, e] at z; exact absurd z (by decide)
      · exact e
    have hb7 := hb
    unfold mxN at hb7
    obtain ⟨⟨s, s1, s2, s3⟩, -⟩ := h _ (lt_mem hi)
    have hm := partIf_sh hb hi h s3 s2 x0 (by omega)
    rw [← x2] at hm
    have pl := partIf_len (sh := pLeft p) hi
    obtain ⟨pg, pc⟩ := part_m (sh := pLeft p) hb hi h hg (show csum L ≤ B by omega) hB9
    have go := pg _ (lt_mem pl.1)
    have cm := csum_mem (lt_mem pl.1)
    rw [pc] at cm
    have cs := csum_set (partIf L i (pLeft p)) i (repO p (lt (partIf L i (pLeft p)) i)) pl.1
    generalize partIf L i (pLeft p) = M at hm pl pg pc go cm cs
    unfold gdL at go
    obtain ⟨g1, g2, g3⟩ := gp
    generalize ev : mN (pLoss p) = v at g1 g3 hB
    generalize ey : mN (pMoved p) = y at g2 g3
    generalize ec : mN (lt M i).2.1 = c0 at go cm cs
    generalize em : min x s = m at hm
    have hmx : m ≤ x := by omega
    have vm : v * m ≤ 1000000000 * 10000000 := Nat.mul_le_mul (by omega) (by omega)
    have q1 : v * m / x ≤ v := Nat.div_le_of_le_mul (by rw [Nat.mul_comm]; exact Nat.mul_le_mul_right v hmx)
    have mv : mvOf p (lt M i) = mO (v * m / x) := by
      show pLoss p * (lt M i).1.toInt64 / (pLeft p).toInt64 = _
      rw [g1, hm, x2, mO_32 (by omega), mO_32 (by omega), mO_mul, mO_div (by omega) (by omega)]
    generalize v * m / x = q at q1 mv
    have eL : pLoss (repP p (lt M i)) = mO (v - q) := by
      show pLoss p - mvOf p (lt M i) = _
      rw [g1, mv, mO_sub q1]
    have eM : pMoved (repP p (lt M i)) = mO (y + q) := by
      show pMoved p + mvOf p (lt M i) = _
      rw [g2, mv, mO_add]
    have eO : (repO p (lt M i)).2.1 = mO (c0 + q) := by
      show (lt M i).2.1 + mvOf p (lt M i) = _
      rw [go, mv, mO_add]
    obtain ⟨o1, o2⟩ := gdL.of (by omega) eO
    have nL : mN (pLoss (repP p (lt M i))) = v - q := by rw [eL, mN_o (by omega)]
    have nM : mN (pMoved (repP p (lt M i))) = y + q := by rw [eM, mN_o (by omega)]
    refine ⟨⟨by rw [nL]; exact eL, by rw [nM]; exact eM, by rw [nL, nM]; omega⟩, fun l hl => ?_, ?_⟩
    · rcases List.mem_or_eq_of_mem_set hl with w | w
      · exact pg _ w
      · subst w; exact o1
    · show csum (M.set i (repO p (lt M i))) + mN (pLoss (repP p (lt M i))) = _
      rw [nL]
      omega
  · rw [if_neg z]
    exact ⟨gp, hg, rfl⟩
theorem rbl_m {b c B : Nat} {w day : Int32} (hb : b ≤ mxN) (hc : c ≤ mxN) (hB9 : B ≤ 1000000000) : ∀ n i (p : Pie) (L : List Lot), okP b c p → (∀ l, l ∈ L → okL b (c + 1) l) → (∀ l, l ∈ L → gdL l) → gdP B p → csum L + mN (pLoss p) ≤ B → gdP B (rbl w day n i p L).1 ∧ (∀ l, l ∈ (rbl w day n i p L).2 → gdL l) ∧ csum (rbl w day n i p L).2 + mN (pLoss (rbl w day n i p L).1) = csum L + mN (pLoss p) := by
  intro n
  induction n with
  | zero => intro i p L hp h hg gp hB; exact ⟨gp, hg, rfl⟩
  | succ n ih =>
    intro i p L hp h hg gp hB
    rw [rbl]
    by_cases c1 : L.length ≤ i
    · rw [if_pos c1]; exact ⟨gp, hg, rfl⟩
    · rw [if_neg c1]
      by_cases c2 : pLeft p ≤ 0
      · rw [if_pos c2]; exact ⟨gp, hg, rfl⟩
      · rw [if_neg c2]
        split
        · exact ih _ _ _ hp h hg gp hB
        · split
          · exact ih _ _ _ hp h hg gp hB
          · have ho := repL_ok hb hc (show i < L.length by omega) hp h
            obtain ⟨m1, m2, m3⟩ := rep_m hb (show i < L.length by omega) hp h hg gp hB hB9
            obtain ⟨n1, n2, n3⟩ := ih (i + 1) (repL p L i).1 (repL p L i).2 ho.1 ho.2 m2 m1 (by omega)
            exact ⟨n1, n2, by omega⟩
theorem repAll_m {b c B : Nat} {w day : Int32} (hb : b ≤ mxN) (hc : c ≤ mxN) (hB9 : B ≤ 1000000000) : ∀ (P : List Pie) (L : List Lot), (∀ p, p ∈ P → okP b c p) → (∀ l, l ∈ L → okL b (c + 1) l) → (∀ l, l ∈ L → gdL l) → (∀ p, p ∈ P → gdP B p) → csum L + xsum P ≤ B → (∀ p, p ∈ (repAll w day P L).1 → gdP B p) ∧ (∀ l, l ∈ (repAll w day P L).2 → gdL l) ∧ csum (repAll w day P L).2 + xsum (repAll w day P L).1 = csum L + xsum P := by
  intro P
  induction P with
  | nil => intro L hp h hg gp hB; exact ⟨gp, hg, rfl⟩
  | cons p P ih =>
    intro L hp h hg gp hB
    rw [repAll]
    rw [xsum] at hB
    have ho := rbl_ok (w := w) (day := day) hb hc 40 0 p L (hp p (List.mem_cons_self ..)) h
    obtain ⟨m1, m2, m3⟩ := rbl_m (w := w) (day := day) hb hc hB9 40 0 p L (hp p (List.mem_cons_self ..)) h hg (gp p (List.mem_cons_self ..)) (by omega)
    generalize rbl w day 40 0 p L = r at ho m1 m2 m3
    obtain ⟨n1, n2, n3⟩ := ih r.2 (fun q hq => hp q (List.mem_cons_of_mem _ hq)) ho.2 m2 (fun q hq => gp q (List.mem_cons_of_mem _ hq)) (by omega)
    refine ⟨fun q hq => ?_, n2, ?_⟩
    · rcases List.mem_cons.mp hq with e | e
      · subst e; exact m1
      · exact n1 q e
    · dsimp only
      rw [xsum, xsum]; omega
theorem buyP_m {b c B : Nat} {w day : Int32} (hb : b ≤ mxN) (hc : c ≤ mxN) (hB9 : B ≤ 1000000000) : ∀ (P : List Pie) (L : List Lot), 0 < L.length → (∀ p, p ∈ P → okP b c p) → (∀ l, l ∈ L → okL b (c + 1) l) → (∀ l, l ∈ L → gdL l) → (∀ p, p ∈ P → gdP B p) → csum L + xsum P ≤ B → (∀ p, p ∈ (buyP w day P L).1 → gdP B p) ∧ (∀ l, l ∈ (buyP w day P L).2 → gdL l) ∧ csum (buyP w day P L).2 + xsum (buyP w day P L).1 = csum L + xsum P := by
  intro P
  induction P with
  | nil => intro L h0 hp h hg gp hB; exact ⟨gp, hg, rfl⟩
  | cons p P ih =>
    intro L h0 hp h hg gp hB
    rw [buyP]
    by_cases c1 : (lt L (L.length - 1)).2.2.2.2.1 = true
    · rw [if_pos c1]; exact ⟨gp, hg, rfl⟩
    · rw [if_neg c1]
      rw [xsum] at hB
      by_cases c2 : isOpn p = false ∨ w < day - p.1
      · rw [if_pos c2]
        obtain ⟨n1, n2, n3⟩ := ih L h0 (fun q hq => hp q (List.mem_cons_of_mem _ hq)) h hg (fun q hq => gp q (List.mem_cons_of_mem _ hq)) (by omega)
        refine ⟨fun q hq => ?_, n2, ?_⟩
        · rcases List.mem_cons.mp hq with e | e
          · subst e; exact gp _ (List.mem_cons_self ..)
          · exact n1 q e
        · dsimp only
          rw [xsum, xsum]; omega
      · rw [if_neg c2]
        have ho := repL_ok hb hc (show L.length - 1 < L.length by omega) (hp p (List.mem_cons_self ..)) h
        have hg0 := (repL_ge (p := p) (show L.length - 1 < L.length by omega)).1
        obtain ⟨m1, m2, m3⟩ := rep_m hb (show L.length - 1 < L.length by omega) (hp p (List.mem_cons_self ..)) h hg (gp p (List.mem_cons_self ..)) (show csum L + mN (pLoss p) ≤ B by omega) hB9
        generalize repL p L (L.length - 1) = r at ho hg0 m1 m2 m3
        obtain ⟨n1, n2, n3⟩ := ih r.2 (by omega) (fun q hq => hp q (List.mem_cons_of_mem _ hq)) ho.2 m2 (fun q hq => gp q (List.mem_cons_of_mem _ hq)) (by omega)
        refine ⟨fun q hq => ?_, n2, ?_⟩
        · rcases List.mem_cons.mp hq with e | e
          · subst e; exact m1
          · exact n1 q e
        · dsimp only
          rw [xsum, xsum]; omega
