/-! the class's reader: bytes, words -/
def isBy (c : Int32) : Prop := c.toInt8.toInt32 = c
def byX (i : Nat) : Int32 := (UInt8.ofNat i).toInt8.toInt32
theorem isBy_i {c : Int32} (h : isBy c) : ∃ i, i < 256 ∧ c = byX i := by
  refine ⟨c.toInt8.toUInt8.toNat, UInt8.toNat_lt _, ?_⟩
  unfold byX
  rw [UInt8.ofNat_toNat]
  exact h.symm
theorem by_tab : ∀ i, i < 256 → (byX i &&& 255 = 32 ↔ byX i = 32) ∧ ltB (byX i &&& 255) = ltB (byX i) ∧ dgB (byX i &&& 255) = dgB (byX i) ∧ (byX i &&& 255 = 59 ↔ byX i = 59) ∧ ¬ byX i &&& 255 = -1 ∧ (ltB (byX i) = true → byX i &&& 255 = byX i) ∧ (dgB (byX i) = true → byX i &&& 255 = byX i) := by decide +kernel
theorem by_all {c : Int32} (h : isBy c) : (c &&& 255 = 32 ↔ c = 32) ∧ ltB (c &&& 255) = ltB c ∧ dgB (c &&& 255) = dgB c ∧ (c &&& 255 = 59 ↔ c = 59) ∧ ¬ c &&& 255 = -1 ∧ (ltB c = true → c &&& 255 = c) ∧ (dgB c = true → c &&& 255 = c) := by
  obtain ⟨i, hi, e⟩ := isBy_i h
  rw [e]
  exact by_tab i hi
/-- a number in base 32, digit by digit -/
def bsN (g : Nat → Nat) : Nat → Nat
  | 0 => 0
  | i + 1 => 32 * bsN g i + g i
theorem bsN_lt {g : Nat → Nat} (hg : ∀ j, g j ≤ 31) : ∀ i, bsN g i < 32 ^ i
  | 0 => by rw [bsN]; decide
  | i + 1 => by
    have h1 := bsN_lt hg i
    have h2 := hg i
    rw [bsN, Nat.pow_succ]
    omega
theorem bsN_inj {g h : Nat → Nat} (hg : ∀ j, 1 ≤ g j ∧ g j ≤ 31) (hh : ∀ j, 1 ≤ h j ∧ h j ≤ 31) : ∀ a b, bsN g a = bsN h b → a = b ∧ ∀ j, j < a → g j = h j
  | 0, 0, _ => ⟨rfl, fun j hj => absurd hj (Nat.not_lt_zero _)⟩
  | 0, b + 1, e => by
    have := (hh b).1
    rw [bsN, bsN] at e
    omega
  | a + 1, 0, e => by
    have := (hg a).1
    rw [bsN, bsN] at e
    omega
  | a + 1, b + 1, e => by
    have g1 := hg a
    have h1 := hh b
    rw [bsN, bsN] at e
    have e1 : bsN g a = bsN h b := by omega
    have e2 : g a = h b := by omega
    obtain ⟨e3, e4⟩ := bsN_inj hg hh a b e1
    refine ⟨by omega, fun j hj => ?_⟩
    by_cases c : j = a
    · rw [c, e2, e3]
    · exact e4 j (by omega)
theorem bsN_eq {g h : Nat → Nat} : ∀ a, (∀ j, j < a → g j = h j) → bsN g a = bsN h a
  | 0, _ => rfl
  | a + 1, e => by rw [bsN, bsN, e a (by omega), bsN_eq a (fun j hj => e j (by omega))]
/-- a letter's digit -/
def dgL (c : Int32) : Nat := if ltB c = true then c.toNatClampNeg - 96 else 1
theorem ltB_i {c : Int32} (h : ltB c = true) : ∃ v, v ≤ 25 ∧ c = nI (97 + v) := by
  have h := of_decide_eq_true h
  have h1 : ¬ c.toInt < 97 := fun z => h.1 (Int32.lt_iff_toInt_lt.mpr z)
  have h2 : ¬ 122 < c.toInt := fun z => h.2 (Int32.lt_iff_toInt_lt.mpr z)
  refine ⟨(c.toInt - 97).toNat, by omega, ?_⟩
  apply Int32.toInt_inj.mp
  unfold nI
  rw [Int32.toInt_ofNat_of_lt (by omega)]
  omega
theorem lt_tab : ∀ v, v ≤ 25 → ltB (nI (97 + v)) = true ∧ (nI (97 + v)).toNatClampNeg - 96 = v + 1 ∧ (((nI (97 + v)) - 97) + 1).toInt64 = Int64.ofNat (v + 1) := by decide +kernel
theorem dgL_ok (c : Int32) : 1 ≤ dgL c ∧ dgL c ≤ 31 := by
  unfold dgL
  split
  · rename_i h
    obtain ⟨v, hv, e⟩ := ltB_i h
    rw [e, (lt_tab v hv).2.1]
    omega
  · omega
theorem dgL_64 {c : Int32} (h : ltB c = true) : ((c - 97) + 1).toInt64 = Int64.ofNat (dgL c) := by
  unfold dgL
  rw [if_pos h]
  obtain ⟨v, hv, e⟩ := ltB_i h
  rw [e, (lt_tab v hv).2.1, (lt_tab v hv).2.2]
theorem dgL_inj {b c : Int32} (hb : ltB b = true) (hc : ltB c = true) (e : dgL b = dgL c) : b = c := by
  unfold dgL at e
  rw [if_pos hb, if_pos hc] at e
  obtain ⟨v, hv, e1⟩ := ltB_i hb
  obtain ⟨w, hw, e2⟩ := ltB_i hc
  rw [e1, e2, (lt_tab v hv).2.1, (lt_tab w hw).2.1] at e
  rw [e1, e2, show v = w by omega]
theorem l64_step (a b : Nat) : 32 * Int64.ofNat a + Int64.ofNat b = Int64.ofNat (32 * a + b) := by
  rw [show (32 : Int64) = Int64.ofNat 32 from rfl, ← Int64.ofNat_mul, ← Int64.ofNat_add]
theorem wdG_b {tp : Nat → Int32} {n st : Nat} : ∀ i, i ≤ 8 → (∀ j, j < i → ltB (byN tp n (st + j)) = true) → wdG tp n st i = Int64.ofNat (bsN (fun j => dgL (byN tp n (st + j))) i)
  | 0, _, _ => rfl
  | i + 1, h, hl => by
    rw [wdG, if_neg (by omega), wdG_b i (by omega) (fun j hj => hl j (by omega)), dgL_64 (hl i (by omega)), l64_step]
    rfl
theorem pkG_b {i : Nat} : ∀ k, (∀ j, j < k → ltB (schr i j) = true) → pkG i k = Int64.ofNat (bsN (fun j => dgL (schr i j)) k)
  | 0, _ => rfl
  | k + 1, hl => by
    rw [pkG, pkG_b k (fun j hj => hl j (by omega)), dgL_64 (hl k (by omega)), l64_step]
    rfl
theorem str_let : ∀ i, i < 13 → slen i ≤ 8 ∧ ∀ j, j < slen i → ltB (schr i j) = true := by decide +kernel
theorem l64_inj {a b : Nat} (ha : a < 32 ^ 8) (hb : b < 32 ^ 8) (e : Int64.ofNat a = Int64.ofNat b) : a = b := by
  have h1 : (Int64.ofNat a).toInt = a := Int64.toInt_ofNat_of_lt (by omega)
  have h2 : (Int64.ofNat b).toInt = b := Int64.toInt_ofNat_of_lt (by omega)
  rw [e] at h1
  omega
theorem wd_eq {tp : Nat → Int32} {n st l i : Nat} (hi : i < 13) (hl : l ≤ 8) (h : ∀ j, j < l → ltB (byN tp n (st + j)) = true) : wdG tp n st l = pkG i (slen i) ↔ l = slen i ∧ ∀ j, j < l → byN tp n (st + j) = schr i j := by
  obtain ⟨s1, s2⟩ := str_let i hi
  rw [wdG_b l hl h, pkG_b (slen i) s2]
  constructor
  · intro e
    have b1 := bsN_lt (fun j => (dgL_ok (byN tp n (st + j))).2) l
    have b2 := bsN_lt (fun j => (dgL_ok (schr i j)).2) (slen i)
    have p1 : 32 ^ l ≤ 32 ^ 8 := Nat.pow_le_pow_right (by omega) hl
    have p2 : 32 ^ slen i ≤ 32 ^ 8 := Nat.pow_le_pow_right (by omega) s1
    obtain ⟨e1, e2⟩ := bsN_inj (fun j => dgL_ok (byN tp n (st + j))) (fun j => dgL_ok (schr i j)) l (slen i) (l64_inj (by omega) (by omega) e)
    exact ⟨e1, fun j hj => dgL_inj (h j hj) (s2 j (by omega)) (e2 j hj)⟩
  · intro e
    rw [← e.1]
    congr 1
    exact bsN_eq l (fun j hj => by rw [e.2 j hj])
theorem lte_all {tp : Nat → Int32} {n : Nat} : ∀ f k j, k ≤ j → j < lte tp n f k → ltB (byN tp n j) = true
  | 0, k, j, h1, h2 => absurd h2 (by rw [lte]; omega)
  | f + 1, k, j, h1, h2 => by
    rw [lte] at h2
    split at h2
    · rename_i c
      by_cases e : j = k
      · rw [e]; exact c
      · exact lte_all f (k + 1) j (by omega) h2
    · omega
