/-! the reference's tokens -/
def byN (tp : Nat → Int32) (n k : Nat) : Int32 := if k < n then tp k &&& 255 else -1
def ltB (c : Int32) : Bool := decide (¬ c < 97 ∧ ¬ 122 < c)
def dgB (c : Int32) : Bool := decide (¬ c < 48 ∧ ¬ 57 < c)
/-- behind the blanks, the letters, the digits from k on; f places are left -/
def skp (tp : Nat → Int32) (n : Nat) : Nat → Nat → Nat
  | 0, k => k
  | f + 1, k => if byN tp n k = 32 then skp tp n f (k + 1) else k
def lte (tp : Nat → Int32) (n : Nat) : Nat → Nat → Nat
  | 0, k => k
  | f + 1, k => if ltB (byN tp n k) then lte tp n f (k + 1) else k
def dge (tp : Nat → Int32) (n : Nat) : Nat → Nat → Nat
  | 0, k => k
  | f + 1, k => if dgB (byN tp n k) then dge tp n f (k + 1) else k
def wdG (tp : Nat → Int32) (n st : Nat) : Nat → Int64
  | 0 => 0
  | i + 1 => if 8 ≤ i then wdG tp n st i else 32 * wdG tp n st i + ((byN tp n (st + i) - 97) + 1).toInt64
def nbG (tp : Nat → Int32) (n st : Nat) : Nat → Int32
  | 0 => 0
  | i + 1 => if 6 ≤ i then nbG tp n st i else 10 * nbG tp n st i + byN tp n (st + i) - 48
theorem byN_end {tp : Nat → Int32} {n : Nat} : byN tp n n = -1 := if_neg (Nat.lt_irrefl _)
theorem ltB_m1 : ltB (-1) = false := by decide
theorem dgB_m1 : dgB (-1) = false := by decide
theorem skp_le {tp : Nat → Int32} {n : Nat} : ∀ f k, k + f ≤ n → skp tp n f k ≤ n ∧ k ≤ skp tp n f k
  | 0, k, h => ⟨h, Nat.le_refl _⟩
  | f + 1, k, h => by
    rw [skp]
    split
    · have := skp_le (tp := tp) (n := n) f (k + 1) (by omega); omega
    · omega
/-- spot, sort, place, number, word -/
abbrev Tks : Type := Nat × Int32 × Nat × Int32 × Int64
/-- the next token, from place st (no blank) on -/
def tokAt (tp : Nat → Int32) (n st : Nat) (nu : Int32) (wd : Int64) : Tks :=
  if byN tp n st = -1 then (st, 1, st, nu, wd)
  else if ltB (byN tp n st) then (lte tp n (n - st) st, if 8 < lte tp n (n - st) st - st then 0 else 2, st, nu, wdG tp n st (lte tp n (n - st) st - st))
  else if dgB (byN tp n st) then (dge tp n (n - st) st, if 6 < dge tp n (n - st) st - st then 0 else 3, st, nbG tp n st (dge tp n (n - st) st - st), wd)
  else if byN tp n st = 59 then (st + 1, 4, st, nu, wd) else (st, 0, st, nu, wd)
def tokN (tp : Nat → Int32) (n : Nat) (x : Tks) : Tks := tokAt tp n (skp tp n (n - x.1) x.1) x.2.2.2.1 x.2.2.2.2
def TkAt (S : qS) (m : Nat) (x : Tks) : Prop := gI S m 8 = nI x.1 ∧ gI S m 9 = x.2.1 ∧ gI S m 10 = nI x.2.2.1 ∧ gI S m 11 = x.2.2.2.1 ∧ gL S m 14 = x.2.2.2.2
/-- nothing else changed -/
def Lx (S S' : qS) (m : Nat) : Prop := (∀ b k, ¬ (b = m ∧ 8 ≤ k ∧ k ≤ 11) → gI S' b k = gI S b k) ∧ (∀ b k, ¬ (b = m ∧ k = 14) → gL S' b k = gL S b k) ∧ ∀ b k, gR S' b k = gR S b k
theorem Lx.rf {S : qS} {m : Nat} : Lx S S m := ⟨fun _ _ _ => rfl, fun _ _ _ => rfl, fun _ _ => rfl⟩
theorem Lx.uI {S S' : qS} {m k : Nat} {v : Int32} (h : Lx S S' m) (hk : 8 ≤ k ∧ k ≤ 11) : Lx S (uI S' m k v) m := ⟨fun b j n => by rw [gI_uI, if_neg (by omega)]; exact h.1 b j n, h.2.1, h.2.2⟩
theorem Lx.uL {S S' : qS} {m : Nat} {v : Int64} (h : Lx S S' m) : Lx S (uL S' m 14 v) m := ⟨h.1, fun b j n => by rw [gL_uL, if_neg n]; exact h.2.1 b j n, h.2.2⟩
theorem Lx.trans {S S' S'' : qS} {m : Nat} (h : Lx S S' m) (h' : Lx S' S'' m) : Lx S S'' m := ⟨fun b k n => (h'.1 b k n).trans (h.1 b k n), fun b k n => (h'.2.1 b k n).trans (h.2.1 b k n), fun b k => (h'.2.2 b k).trans (h.2.2 b k)⟩
/-- the text: tape and size -/
def TxAt (A : qA) (S : qS) (m : Nat) (tp : Nat → Int32) (n : Nat) : Prop := mI A S m ∧ n ≤ 900 ∧ gI S m 7 = nI n ∧ ∀ k, k < 900 → gI S (m + 1) k = tp k
theorem TxAt.lx {A : qA} {S S' : qS} {m n : Nat} {tp : Nat → Int32} (h : TxAt A S m tp n) (hl : Lx S S' m) : TxAt A S' m tp n := ⟨⟨h.1.1, h.1.2.fr fun k => hl.2.2 m k⟩, h.2.1, (hl.1 m 7 (by omega)).trans h.2.2.1, fun k hk => (hl.1 _ _ (by omega)).trans (h.2.2.2 k hk)⟩
section
variable {d : Nat} {A : qA} {S : qS} {m n : Nat} {tp : Nat → Int32}
set_option maxRecDepth 20000 in
theorem cm_byteAt {k : Nat} {f : Int32 → qS → Prop} (h : TxAt A S m tp n) (hk : k ≤ 1000) (hf : f (byN tp n k) S) : Run (d + 1) 149 [.ref m, .int (nI k)] A S (kI A f) := by
  refine Run.i (C := mX11_byteAt) rfl rfl rfl fun J hJ => ?_
  obtain ⟨⟨⟨k0, k1, k2, k3, k4, k5, k6, k7, k8, k9, k10, k11, k12, k13, k14, k15, k16, k17, k18, k19, k20, k21, k22, k23, k24, k25, k26⟩, ⟨r5, r15, r16, r17, r18, r21, r22, r23, r24, r25, r26, r27, r28, r29, r30, r31, r32, r33, r34, r35, r36, r37, r38, r39, r40, r48⟩⟩, hn, h7, ht⟩ := h
  refine sX11_byteAt_0 hJ ?_
  simp only [k0, k1, r5, h7, nIle (show n ≤ 100000 by omega) (show k ≤ 100000 by omega), cl_n (show k ≤ 100000 by omega), Option.some.injEq, Prod.mk.injEq, exists_eq_left', exists_eq_left, true_and, and_true, and_self, true_or, or_true, forall_const, exists_const, exists_and_left, wcat, Nat.zero_le, Nat.reduceLeDiff, Int32.lt_irrefl, not_false_eq_true, Nat.zero_add, forall_eq]
  refine ⟨fun z => kI_i ?_, fun z => ⟨vp_n (by omega) (by omega), kI_i ?_⟩⟩
  · rwa [byN, if_neg (by omega)] at hf
  · rw [byN, if_pos (by omega)] at hf
    rw [ht k (by omega)]
    exact hf
set_option maxRecDepth 20000 in
theorem cm_isLetter {c : Int32} {f : Bool → qS → Prop} (hf : f (ltB c) S) : Run (d + 1) 150 [.int c] A S (kZ A f) := by
  refine Run.i (C := mX11_isLetter) rfl rfl rfl fun J hJ => ?_
  refine sX11_isLetter_0 hJ ⟨fun z => ⟨Or.inl rfl, kZ_0 ?_⟩, fun z => ⟨fun z1 => ⟨Or.inl rfl, kZ_0 ?_⟩, fun z1 => ⟨Or.inr rfl, kZ_1 ?_⟩⟩⟩
  · rwa [show ltB c = false from decide_eq_false (fun w => w.1 z)] at hf
  · rwa [show ltB c = false from decide_eq_false (fun w => w.2 z1)] at hf
  · rwa [show ltB c = true from decide_eq_true ⟨z, z1⟩] at hf
set_option maxRecDepth 20000 in
theorem cm_isDigit {c : Int32} {f : Bool → qS → Prop} (hf : f (dgB c) S) : Run (d + 1) 151 [.int c] A S (kZ A f) := by
  refine Run.i (C := mX11_isDigit) rfl rfl rfl fun J hJ => ?_
  refine sX11_isDigit_0 hJ ⟨fun z => ⟨Or.inl rfl, kZ_0 ?_⟩, fun z => ⟨fun z1 => ⟨Or.inl rfl, kZ_0 ?_⟩, fun z1 => ⟨Or.inr rfl, kZ_1 ?_⟩⟩⟩
  · rwa [show dgB c = false from decide_eq_false (fun w => w.1 z)] at hf
  · rwa [show dgB c = false from decide_eq_false (fun w => w.2 z1)] at hf
  · rwa [show dgB c = true from decide_eq_true ⟨z, z1⟩] at hf
end
