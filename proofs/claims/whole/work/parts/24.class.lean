/-! THE CLASS: its cells -/
def Same (S S' : qS) (a n : Nat) : Prop := ∀ b, a ≤ b → b < a + n → ∀ k, gI S' b k = gI S b k ∧ gL S' b k = gL S b k ∧ gR S' b k = gR S b k
theorem Same.two {S S' : qS} {a n lo hi : Nat} (h : Same S S' a n) (hF : Fr S S' lo hi) : ∃ S1, Fr S S1 0 a ∧ Fr S1 S' (a + n) (a + n + hi) := by
  refine ⟨(fun b k => if b < a then S'.1 b k else S.1 b k, fun b k => if b < a then S'.2.1 b k else S.2.1 b k, fun b k => if b < a then S'.2.2 b k else S.2.2 b k), fun b hb k => ?_, fun b hb k => ?_⟩
  · have e : ¬ b < a := by omega
    unfold gI gL gR
    simp only [if_neg e, and_self]
  · by_cases e : b < a
    · unfold gI gL gR
      simp only [if_pos e, and_self]
    · have w : gI S' b k = gI S b k ∧ gL S' b k = gL S b k ∧ gR S' b k = gR S b k := by
        by_cases c : b < a + n
        · exact h b (by omega) c k
        · exact hF b (by omega) k
      unfold gI gL gR at w ⊢
      simp only [if_neg e]
      exact w
theorem TrAt.cel {A : qA} {S S' : qS} {a r lo hi : Nat} {T : List Row} (h : TrAt A S a r T) (hs : Same S S' a 7) (hF : Fr S S' lo hi) : TrAt A S' a r T := by
  obtain ⟨S1, f1, f2⟩ := hs.two hF
  exact (h.fr f1 (Or.inl (Nat.le_refl _))).fr f2 (Or.inr (Nat.le_refl _))
theorem BkAt.cel {A : qA} {S S' : qS} {B lo hi : Nat} {H : Nat → List Lot} {G : List CPie} {O : List Nat} {z : Int64} {E : BkE} (h : BkAt A S B H G O z E) (hs : Same S S' B 144) (hF : Fr S S' lo hi) : BkAt A S' B H G O z E := by
  obtain ⟨S1, f1, f2⟩ := hs.two hF
  exact (h.fr f1 (Or.inl (Nat.le_refl _))).fr f2 (Or.inr (Nat.le_refl _))
/-- a book of which nothing is said -/
def BA (A : qA) (S : qS) (B : Nat) : Prop := ∃ H G O z E, BkAt A S B H G O z E
/-- a book in which T is booked -/
def BN (A : qA) (S : qS) (B : Nat) (w last : Int32) (T : List Row) : Prop := ∃ s o pl, BkS A S B w s o pl ∧ CR (fun t => paF (tr T t)) s (aRes w last T) ∧ (∃ nn : Nat → Nat, (∀ p, p < 3 → PInv (999 * 9 ^ 4) (nn p) (aRes w last T p)) ∧ nn 0 + nn 1 + nn 2 ≤ T.length) ∧ (∀ i, i < T.length → o i = nI (ot (qT T) i)) ∧ ∀ t, t < T.length → pl t = nI (rnk (dayF T) t T.length)
theorem BN.any {A : qA} {S : qS} {B : Nat} {w last : Int32} {T : List Row} (h : BN A S B w last T) : BA A S B := by
  obtain ⟨s, o, pl, h1, -⟩ := h
  exact ⟨_, _, _, _, _, h1⟩
theorem BN.cel {A : qA} {S S' : qS} {B lo hi : Nat} {w last : Int32} {T : List Row} (h : BN A S B w last T) (hs : Same S S' B 144) (hF : Fr S S' lo hi) : BN A S' B w last T := by
  obtain ⟨s, o, pl, h1, h2⟩ := h
  exact ⟨s, o, pl, h1.cel hs hF, h2⟩
theorem BA.cel {A : qA} {S S' : qS} {B lo hi : Nat} (h : BA A S B) (hs : Same S S' B 144) (hF : Fr S S' lo hi) : BA A S' B := by
  obtain ⟨H, G, O, z, E, h⟩ := h
  exact ⟨H, G, O, z, E, h.cel hs hF⟩
section
variable {d : Nat} {A : qA} {S : qS} {B : Nat}
set_option maxRecDepth 20000 in
theorem ct_book {a r : Nat} {w last : Int32} {T : List Row} {f : Bool → qS → Prop} (hB : BA A S B) (hT : TrAt A S a r T) (hv : vT T) (hab : a + 7 ≤ B ∨ B + 144 ≤ a) (hf : ∀ S', BA A S' B → (shortT w last T = false → BN A S' B w last T) → Fr S S' B (B + 144) → f (!shortT w last T) S') : Run (d + 5) 1 [.ref B, .ref a, .int w, .int last] A S (kZ A f) := by
  obtain ⟨H, G, O, z, E, hB⟩ := hB
  obtain ⟨c1, c2, c3⟩ := book_rel (w := w) (last := last) (pf := fun t => paF (tr T t)) hv (fun t _ => rfl)
  refine ct_bookAll hB hT hab hv.1 c1 fun S' o pl h1 h2 h3 h4 => ?_
  have e : (cGo w last T (ordL (dayF T) T.length) c0).1 = !shortT w last T := c2
  rw [e]
  refine hf S' ⟨_, _, _, _, _, h1⟩ (fun hs => ⟨_, o, pl, h1, (c3 hs).1, (c3 hs).2, h2, fun t ht => ?_⟩) h4
  have r := rnk_ot (D := dayF T) ht
  have := h3 _ r.1
  rwa [r.2] at this
end
/-! what was told -/
def TdAt (A : qA) (S : qS) (a : Nat) (td : Tld) : Prop := (A.1 a = some (7, 0) ∧ A.1 (a + 8) = some (13, 4) ∧ A.1 (a + 9) = some (13, 4) ∧ A.1 (a + 10) = some (13, 6) ∧ A.1 (a + 11) = some (13, 6)) ∧ (gR S a 2 = some (a + 1) ∧ gR S a 3 = some (a + 8) ∧ gR S a 4 = some (a + 9) ∧ gR S a 6 = some (a + 10) ∧ gR S a 7 = some (a + 11)) ∧ TrAt A S (a + 1) 16 td.2.1 ∧ gI S a 1 = td.1 ∧ gI S a 5 = nI td.2.2.1.length ∧ td.2.2.1.length ≤ 4 ∧ (∀ i, i < td.2.2.1.length → gI S (a + 8) i = (ug td.2.2.1 i).1 ∧ gI S (a + 9) i = (ug td.2.2.1 i).2) ∧ gI S a 8 = nI td.2.2.2.length ∧ td.2.2.2.length ≤ 6 ∧ ∀ i, i < td.2.2.2.length → gI S (a + 10) i = (ug td.2.2.2 i).1 ∧ gI S (a + 11) i = (ug td.2.2.2 i).2
theorem TdAt.cel {A : qA} {S S' : qS} {a lo hi : Nat} {td : Tld} (h : TdAt A S a td) (hs : Same S S' a 12) (hF : Fr S S' lo hi) : TdAt A S' a td := by
  obtain ⟨hk, ⟨r1, r2, r3, r4, r5⟩, hT, h1, h2, h3, h4, h5, h6, h7⟩ := h
  have g : ∀ j, j < 12 → ∀ k, gI S' (a + j) k = gI S (a + j) k := fun j hj k => (hs (a + j) (by omega) (by omega) k).1
  have gr : ∀ k, gR S' a k = gR S a k := fun k => (hs a (by omega) (by omega) k).2.2
  refine ⟨hk, ⟨(gr _).trans r1, (gr _).trans r2, (gr _).trans r3, (gr _).trans r4, (gr _).trans r5⟩, hT.cel (fun b b1 b2 k => hs b (by omega) (by omega) k) hF, (g 0 (by omega) 1).trans h1, (g 0 (by omega) 5).trans h2, h3, fun i hi => ?_, (g 0 (by omega) 8).trans h5, h6, fun i hi => ?_⟩
  · rw [g 8 (by omega), g 9 (by omega)]; exact h4 i hi
  · rw [g 10 (by omega), g 11 (by omega)]; exact h7 i hi
def ldV (V : VSt) : Tld := (vLed V).getD td0
def XK (A : qA) (x : Nat) : Prop := A.1 x = some (9, 0) ∧ A.1 (x + 1) = some (12, 900) ∧ A.1 (x + 2) = some (6, 0) ∧ A.1 (x + 329) = some (2, 0) ∧ A.1 (x + 330) = some (18, 16) ∧ A.1 (x + 443) = some (18, 3) ∧ A.1 (x + 444) = some (1, 0) ∧ A.1 (x + 445) = some (13, 16)
def XF (S : qS) (x tA tB nA nB bA bB : Nat) (π : Nat → Nat) : Prop := (gR S x 0 = some (x + 1) ∧ gR S x 2 = some (x + 2) ∧ gR S x 4 = some tA ∧ gR S x 5 = some tB ∧ gR S x 6 = some nA ∧ gR S x 7 = some nB ∧ gR S x 8 = some bA ∧ gR S x 9 = some bB ∧ gR S x 10 = some (x + 329) ∧ gR S x 11 = some (x + 443) ∧ gR S x 13 = some (x + 444)) ∧ gR S (x + 329) 0 = some (x + 330) ∧ gR S (x + 444) 0 = some (x + 445) ∧ (∀ i, i < 3 → gR S (x + 443) i = some (x + 446 + 7 * i)) ∧ ∀ i, i < 16 → gR S (x + 330) i = some (x + 331 + 7 * π i)
def XD (x tA tB nA nB bA bB : Nat) (π : Nat → Nat) : Prop := (tA = x + 3 ∧ tB = x + 15 ∨ tA = x + 15 ∧ tB = x + 3) ∧ (nA = x + 27 ∧ nB = x + 34 ∨ nA = x + 34 ∧ nB = x + 27) ∧ (bA = x + 41 ∧ bB = x + 185 ∨ bA = x + 185 ∧ bB = x + 41) ∧ (∀ i, i < 16 → π i < 16) ∧ ∀ i j, i < 16 → j < 16 → π i = π j → i = j
def XI (S : qS) (x : Nat) (V : VSt) : Prop := (∀ k, k < 900 → gI S (x + 1) k = vTape V k) ∧ gI S x 1 = nI (vN V) ∧ gI S x 3 = bI (vLed V).isSome ∧ gI S x 12 = nI (vImg V).length ∧ gI S x 14 = vTr V ∧ gI S x 15 = vFa V ∧ (vTr V = 4 → gI S x 16 = vWh V) ∧ (¬ vTr V = 4 → vWh V = -1) ∧ gI S (x + 329) 1 = nI (vPast V).length
def XT (A : qA) (S : qS) (x : Nat) (π : Nat → Nat) (V : VSt) : Prop := (∀ i, i < 16 → ∃ T, TrAt A S (x + 331 + 7 * π i) 24 T ∧ (i < (vPast V).length → T = rg (vPast V) i)) ∧ ∀ i, i < 3 → ∃ T, TrAt A S (x + 446 + 7 * i) 24 T ∧ (i < (vImg V).length → T = rg (vImg V) i)
def XQ (S : qS) (x : Nat) (td : Tld) : Prop := ∃ b : Bool, gI S (x + 444) 2 = bI b ∧ (b = true → gI S (x + 444) 1 = nI (allS td).length ∧ ∀ i, i < (allS td).length → gI S (x + 445) i = nI ((allS td).getD i 0))
def XP (A : qA) (S : qS) (x : Nat) (V : VSt) (tA tB nA nB bA bB : Nat) (π : Nat → Nat) : Prop := XK A x ∧ XF S x tA tB nA nB bA bB π ∧ XD x tA tB nA nB bA bB π ∧ XI S x V ∧ XT A S x π V ∧ XQ S x (ldV V) ∧ TdAt A S tA (ldV V) ∧ (∃ td', TdAt A S tB td') ∧ TrAt A S nA 24 (vNow V) ∧ (∃ T, TrAt A S nB 24 T) ∧ BN A S bA (lw (vLed V)) 999 (vNow V) ∧ BA A S bB
def XAt (A : qA) (S : qS) (x : Nat) (V : VSt) : Prop := ∃ tA tB nA nB bA bB π, XP A S x V tA tB nA nB bA bB π
section
variable {A : qA} {S S' : qS} {x : Nat} {V V' : VSt} {tA tB nA nB bA bB : Nat} {π : Nat → Nat}
theorem XT.cel (h : XT A S x π V) (hπ : ∀ i, i < 16 → π i < 16) (hF : Fr S S' x (x + 467)) (hs : ∀ b, x + 331 ≤ b → ¬ (x + 443 ≤ b ∧ b < x + 446) → ∀ k, gI S' b k = gI S b k ∧ gL S' b k = gL S b k ∧ gR S' b k = gR S b k) (e1 : vPast V' = vPast V) (e2 : vImg V' = vImg V) : XT A S' x π V' := by
  refine ⟨fun i hi => ?_, fun i hi => ?_⟩
  · obtain ⟨T, h1, h2⟩ := h.1 i hi
    have := hπ i hi
    exact ⟨T, h1.cel (fun b b1 b2 k => hs b (by omega) (by omega) k) hF, by rw [e1]; exact h2⟩
  · obtain ⟨T, h1, h2⟩ := h.2 i hi
    exact ⟨T, h1.cel (fun b b1 b2 k => hs b (by omega) (by omega) k) hF, by rw [e2]; exact h2⟩
/-- nothing but the head and the trial rows changed -/
theorem XP.up (h : XP A S x V tA tB nA nB bA bB π) (hF : Fr S S' x (x + 467)) (hs : ∀ b, x < b → ¬ (nB ≤ b ∧ b < nB + 7) → ¬ (bB ≤ b ∧ b < bB + 144) → ∀ k, gI S' b k = gI S b k ∧ gL S' b k = gL S b k ∧ gR S' b k = gR S b k) (hR : ∀ k, gR S' x k = gR S x k) (e0 : vLed V' = vLed V) (e1 : vNow V' = vNow V) (e2 : vPast V' = vPast V) (e3 : vImg V' = vImg V) (hI : XI S' x V') (hT : ∃ T, TrAt A S' nB 24 T) (hB : BA A S' bB) : XP A S' x V' tA tB nA nB bA bB π := by
  obtain ⟨hK, hX, hD, -, hXT, hQ, hA, hB', hN, -, hb, -⟩ := h
  have hD' := hD
  obtain ⟨d1, d2, d3, d4, d5⟩ := hD'
  obtain ⟨⟨f1, f2, f3, f4, f5, f6, f7, f8, f9, f10, f11⟩, f12, f13, f14, f15⟩ := hX
  have el : ldV V' = ldV V := by unfold ldV; rw [e0]
  have ew : lw (vLed V') = lw (vLed V) := by rw [e0]
  refine ⟨hK, ⟨⟨(hR _).trans f1, (hR _).trans f2, (hR _).trans f3, (hR _).trans f4, (hR _).trans f5, (hR _).trans f6, (hR _).trans f7, (hR _).trans f8, (hR _).trans f9, (hR _).trans f10, (hR _).trans f11⟩, (hs (x + 329) (by omega) (by omega) (by omega) _).2.2.trans f12, (hs (x + 444) (by omega) (by omega) (by omega) _).2.2.trans f13, fun i hi => (hs (x + 443) (by omega) (by omega) (by omega) _).2.2.trans (f14 i hi), fun i hi => (hs (x + 330) (by omega) (by omega) (by omega) _).2.2.trans (f15 i hi)⟩, hD, hI, hXT.cel d4 hF (fun b b1 b2 k => hs b (by omega) (by omega) (by omega) k) e2 e3, ?_, ?_, ?_, ?_, hT, ?_, hB⟩
  · rw [el]
    obtain ⟨b, g1, g2⟩ := hQ
    refine ⟨b, (hs (x + 444) (by omega) (by omega) (by omega) _).1.trans g1, fun c => ⟨(hs (x + 444) (by omega) (by omega) (by omega) _).1.trans (g2 c).1, fun i hi => (hs (x + 445) (by omega) (by omega) (by omega) _).1.trans ((g2 c).2 i hi)⟩⟩
  · rw [el]
    exact hA.cel (fun b b1 b2 k => hs b (by omega) (by omega) (by omega) k) hF
  · obtain ⟨td', hB'⟩ := hB'
    exact ⟨td', hB'.cel (fun b b1 b2 k => hs b (by omega) (by omega) (by omega) k) hF⟩
  · rw [e1]
    exact hN.cel (fun b b1 b2 k => hs b (by omega) (by omega) (by omega) k) hF
  · rw [ew, e1]
    exact hb.cel (fun b b1 b2 k => hs b (by omega) (by omega) (by omega) k) hF
/-- only the head changed -/
theorem XP.hd (h : XP A S x V tA tB nA nB bA bB π) (hF : Fr S S' x (x + 1)) (hR : ∀ k, gR S' x k = gR S x k) (e0 : vLed V' = vLed V) (e1 : vNow V' = vNow V) (e2 : vPast V' = vPast V) (e3 : vImg V' = vImg V) (hI : XI S' x V') : XP A S' x V' tA tB nA nB bA bB π := by
  have hF' : Fr S S' x (x + 467) := hF.wide (Nat.le_refl _) (by omega)
  have hs : ∀ b, x < b → ∀ k, gI S' b k = gI S b k ∧ gL S' b k = gL S b k ∧ gR S' b k = gR S b k := fun b hb k => hF b (by omega) k
  obtain ⟨d1, d2, d3, d4, d5⟩ := h.2.2.1
  obtain ⟨T, hT⟩ := h.2.2.2.2.2.2.2.2.2.1
  exact h.up hF' (fun b hb _ _ k => hs b hb k) hR e0 e1 e2 e3 hI ⟨T, hT.cel (fun b b1 b2 k => hs b (by omega) k) hF'⟩ (h.2.2.2.2.2.2.2.2.2.2.2.cel (fun b b1 b2 k => hs b (by omega) k) hF')
theorem XI.set {t : Int32} (h : XI S x V) (ht : ¬ t = 4) : XI (uI S x 14 t) x (setT V t) := by
  obtain ⟨i1, i2, i3, i4, i5, i6, i7, i8, i9⟩ := h
  refine ⟨fun k hk => ?_, ?_, ?_, ?_, ?_, ?_, fun c => absurd c ht, fun _ => rfl, ?_⟩
  · simp only [gI_uI, gL_uL, gR_uR, gI_uL, gI_uR, gL_uI, gL_uR, gR_uI, gR_uL, true_and, and_true, Nat.add_right_cancel_iff, Nat.add_left_cancel_iff, Nat.reduceEqDiff, Nat.left_eq_add, Nat.right_eq_add, Nat.add_eq_left, Nat.add_eq_right, Nat.reduceAdd, Nat.succ_ne_self, reduceCtorEq, false_and, and_false, if_false, if_true, ite_true, ite_false, ite_self, Nat.succ_ne_zero, Nat.add_one_ne_zero, not_false_eq_true, not_true_eq_false, Nat.one_ne_zero, Nat.zero_ne_one]; exact i1 k hk
  · simp only [gI_uI, gL_uL, gR_uR, gI_uL, gI_uR, gL_uI, gL_uR, gR_uI, gR_uL, true_and, and_true, Nat.add_right_cancel_iff, Nat.add_left_cancel_iff, Nat.reduceEqDiff, Nat.left_eq_add, Nat.right_eq_add, Nat.add_eq_left, Nat.add_eq_right, Nat.reduceAdd, Nat.succ_ne_self, reduceCtorEq, false_and, and_false, if_false, if_true, ite_true, ite_false, ite_self, Nat.succ_ne_zero, Nat.add_one_ne_zero, not_false_eq_true, not_true_eq_false, Nat.one_ne_zero, Nat.zero_ne_one]; exact i2
  · simp only [gI_uI, gL_uL, gR_uR, gI_uL, gI_uR, gL_uI, gL_uR, gR_uI, gR_uL, true_and, and_true, Nat.add_right_cancel_iff, Nat.add_left_cancel_iff, Nat.reduceEqDiff, Nat.left_eq_add, Nat.right_eq_add, Nat.add_eq_left, Nat.add_eq_right, Nat.reduceAdd, Nat.succ_ne_self, reduceCtorEq, false_and, and_false, if_false, if_true, ite_true, ite_false, ite_self, Nat.succ_ne_zero, Nat.add_one_ne_zero, not_false_eq_true, not_true_eq_false, Nat.one_ne_zero, Nat.zero_ne_one]; exact i3
  · simp only [gI_uI, gL_uL, gR_uR, gI_uL, gI_uR, gL_uI, gL_uR, gR_uI, gR_uL, true_and, and_true, Nat.add_right_cancel_iff, Nat.add_left_cancel_iff, Nat.reduceEqDiff, Nat.left_eq_add, Nat.right_eq_add, Nat.add_eq_left, Nat.add_eq_right, Nat.reduceAdd, Nat.succ_ne_self, reduceCtorEq, false_and, and_false, if_false, if_true, ite_true, ite_false, ite_self, Nat.succ_ne_zero, Nat.add_one_ne_zero, not_false_eq_true, not_true_eq_false, Nat.one_ne_zero, Nat.zero_ne_one]; exact i4
  · simp only [gI_uI, gL_uL, gR_uR, gI_uL, gI_uR, gL_uI, gL_uR, gR_uI, gR_uL, true_and, and_true, Nat.add_right_cancel_iff, Nat.add_left_cancel_iff, Nat.reduceEqDiff, Nat.left_eq_add, Nat.right_eq_add, Nat.add_eq_left, Nat.add_eq_right, Nat.reduceAdd, Nat.succ_ne_self, reduceCtorEq, false_and, and_false, if_false, if_true, ite_true, ite_false, ite_self, Nat.succ_ne_zero, Nat.add_one_ne_zero, not_false_eq_true, not_true_eq_false, Nat.one_ne_zero, Nat.zero_ne_one]; rfl
  · simp only [gI_uI, gL_uL, gR_uR, gI_uL, gI_uR, gL_uI, gL_uR, gR_uI, gR_uL, true_and, and_true, Nat.add_right_cancel_iff, Nat.add_left_cancel_iff, Nat.reduceEqDiff, Nat.left_eq_add, Nat.right_eq_add, Nat.add_eq_left, Nat.add_eq_right, Nat.reduceAdd, Nat.succ_ne_self, reduceCtorEq, false_and, and_false, if_false, if_true, ite_true, ite_false, ite_self, Nat.succ_ne_zero, Nat.add_one_ne_zero, not_false_eq_true, not_true_eq_false, Nat.one_ne_zero, Nat.zero_ne_one]; exact i6
  · simp only [gI_uI, gL_uL, gR_uR, gI_uL, gI_uR, gL_uI, gL_uR, gR_uI, gR_uL, true_and, and_true, Nat.add_right_cancel_iff, Nat.add_left_cancel_iff, Nat.reduceEqDiff, Nat.left_eq_add, Nat.right_eq_add, Nat.add_eq_left, Nat.add_eq_right, Nat.reduceAdd, Nat.succ_ne_self, reduceCtorEq, false_and, and_false, if_false, if_true, ite_true, ite_false, ite_self, Nat.succ_ne_zero, Nat.add_one_ne_zero, not_false_eq_true, not_true_eq_false, Nat.one_ne_zero, Nat.zero_ne_one]; exact i9
theorem XP.set {t : Int32} (h : XP A S x V tA tB nA nB bA bB π) (ht : ¬ t = 4) : XP A (uI S x 14 t) x (setT V t) tA tB nA nB bA bB π := h.hd (Fr.rf.uI (by omega) (by omega)) (fun k => rfl) rfl rfl rfl rfl (h.2.2.2.1.set ht)
end
