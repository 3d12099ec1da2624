/-! the reference's parser: a whole text -/
def raG (tp : Nat → Int32) (n : Nat) : Nat → Psr → Bool → Tld → Psr × Bool × Tld
  | 0, p, bg, td => (p, bg, td)
  | f + 1, p, bg, td => if (liP tp n bg td p).1.2.1 = 4 then raG tp n f (gon tp n (liP tp n bg td p)) (liB tp n bg p) (liT tp n bg td p) else (liP tp n bg td p, liB tp n bg p, liT tp n bg td p)
def ex1 (p : Psr) : Psr := if p.1.2.1 = 1 then p else flw 1 p
def ex2 (bg : Bool) (p : Psr) : Psr := if bg = true then ex1 p else flw 6 (ex1 p)
def ex3 (td : Tld) (p : Psr) : Psr := if p.1.2.1 = 5 then p else if shortT td.1 999 td.2.1 = true then flw 7 p else p
def exR (R : Psr × Bool × Tld) : Psr := ex3 R.2.2 (ex2 R.2.1 R.1)
/-- nothing but parser, scratch and the ledger being read changed -/
def Lw (S S' : qS) (m q : Nat) : Prop := (∀ b k, ¬ (b = m ∧ 8 ≤ k ∧ k ≤ 14) → ¬ (q ≤ b ∧ b < q + 6) → ¬ scr m b k → gI S' b k = gI S b k ∧ gL S' b k = gL S b k) ∧ ∀ b k, gR S' b k = gR S b k
theorem Lz.lw {S S' : qS} {m q : Nat} (h : Lz S S' m q) : Lw S S' m q := ⟨fun b k n n' _ => ⟨h.1 b k (by omega) n', h.2.1 b k (by omega)⟩, h.2.2⟩
theorem Lw.trans {S S' S'' : qS} {m q : Nat} (h : Lw S S' m q) (h' : Lw S' S'' m q) : Lw S S'' m q := ⟨fun b k n n' n2 => ⟨(h'.1 b k n n' n2).1.trans (h.1 b k n n' n2).1, (h'.1 b k n n' n2).2.trans (h.1 b k n n' n2).2⟩, fun b k => (h'.2 b k).trans (h.2 b k)⟩
theorem Fk.lw {S S' : qS} {m q : Nat} (h : Fk S S' m) : Lw S S' m q := ⟨fun b k _ _ n => h.1 b k n, h.2⟩
theorem Lz.fm {S S' : qS} {m q : Nat} (h : Lz S S' m q) (hq : m + 27 < q) : Fm S S' m 15 (q + 6 - m) 8 15 := ⟨fun b hb k hk => ⟨h.1 b k (by omega) (by omega), h.2.1 b k (by omega)⟩, h.2.2⟩
theorem RdAt.out {A : qA} {S S' : qS} {m q : Nat} {bg : Bool} {td : Tld} (h : RdAt A S m q bg td) (g : ∀ b, q ≤ b → b < q + 6 → ∀ k, gI S' b k = gI S b k ∧ gR S' b k = gR S b k) (g4 : gR S' m 4 = gR S m 4) : RdAt A S' m q bg td := ⟨g4.trans h.1, h.2.1, ((g q (by omega) (by omega) 0).1).trans h.2.2.1, h.2.2.2.fr g⟩
theorem PsAt.out' {S S' : qS} {m : Nat} {p : Psr} (h : PsAt S m p) (hf : Fk S S' m) : PsAt S' m p := by
  obtain ⟨⟨x1, x2, x3, x4, x5⟩, x6, x7⟩ := h
  have g : ∀ k, 8 ≤ k → k ≤ 14 → gI S' m k = gI S m k ∧ gL S' m k = gL S m k := fun k h1 h2 => hf.1 m k (by unfold scr; omega)
  exact ⟨⟨(g _ (by omega) (by omega)).1.trans x1, (g _ (by omega) (by omega)).1.trans x2, (g _ (by omega) (by omega)).1.trans x3, (g _ (by omega) (by omega)).1.trans x4, (g _ (by omega) (by omega)).2.trans x5⟩, (g _ (by omega) (by omega)).1.trans x6, (g _ (by omega) (by omega)).1.trans x7⟩
section
variable {d e : Nat} {A : qA} {S : qS} {m n q : Nat} {tp : Nat → Int32} {p : Psr} {bg : Bool} {td : Tld} {H : Nat → List Lot}
set_option maxRecDepth 20000 in
theorem cm_raTail {S1 : qS} {f : qS → Prop} (h : TxAt A S1 m tp n) (hH : MH S1 m H) (h1 : PsAt S1 m p) (hr : RdAt A S1 m q bg td) (ht : pTd td) (hf : ∀ S', PsAt S' m (ex3 td p) → RdAt A S' m q bg td → Lw S1 S' m q → (∃ H, MH S' m H) → f S') : Run (d + 10) 154 [.ref m] A S1 (kZ A fun b_3 S_2 => (((bI b_3) = 0 → A.1 m = some (11, 0) ∧ ∃ q_4, gR S_2 m 4 = some q_4 ∧ A.1 q_4 = some (10, 0) ∧ ∃ q_5, gR S_2 q_4 4 = some q_5 ∧ A.1 m = some (11, 0) ∧ ∃ q_6, gR S_2 m 16 = some q_6 ∧ wcat [] ≤ 8 ∧ Run (d + 10) 178 [.ref q_5, .ref q_6] A S_2 (kV A fun S_7 => A.1 m = some (11, 0) ∧ ∃ q_8, gR S_7 m 4 = some q_8 ∧ A.1 q_8 = some (10, 0) ∧ A.1 m = some (11, 0) ∧ wcat [] ≤ 8 ∧ Run (d + 10) 191 [.ref m, .int (gI S_7 q_8 1), .int 999] A S_7 (kV A fun S_9 => A.1 m = some (11, 0) ∧ (((gI S_9 m 43) = 0 → kV A f none A S_9) ∧ (¬ (gI S_9 m 43) = 0 → A.1 m = some (11, 0) ∧ wcat [] ≤ 8 ∧ Run (d + 10) 155 [.ref m, .int 7] A S_9 (kV A fun S_10 => kV A f none A S_10)))))) ∧ (¬ (bI b_3) = 0 → kV A f none A S_2))) := by
  have hI := h.1
  have hk0 := h.1.1.1
  have hq := hr.2.1
  have hr' := hr
  obtain ⟨y1, y2, y3, ⟨y4, y5, y6, y7, y8, y9⟩, ⟨w1, w2, w3, w4, w5⟩, z1, z2, z3, z4, z5, z6⟩ := hr'
  have hI2 := hI
  obtain ⟨⟨k0, k1, k2, k3, k4, k5, k6, k7, k8, k9, k10, k11, k12, k13, k14, k15, k16, k17, k18, k19, k20, k21, k22, k23, k24, k25, k26⟩, ⟨r5, r15, r16, r17, r18, r21, r22, r23, r24, r25, r26, r27, r28, r29, r30, r31, r32, r33, r34, r35, r36, r37, r38, r39, r40, r48⟩⟩ := hI2
  refine cm_over hI h1 (q_eqb (fun c => ⟨hk0, q, y1, y4, q + 1, w1, hk0, m + 3, r16, wc rfl, cm_copies y5 k3 (by omega) (by omega) (by omega) (by omega) (by omega) fun S2 hc => ⟨hk0, q, (hc.2.2 m 4).trans y1, y4, hk0, wc rfl, ?_⟩⟩) (fun c => kV_i (hf S1 ?_ hr ⟨fun _ _ _ _ _ => ⟨rfl, rfl⟩, fun _ _ => rfl⟩ ⟨H, hH⟩)))
  · have e1 : gI S2 q 1 = td.1 := by rw [hc.1, if_neg (by omega)]; exact z1
    rw [e1]
    have fk : Fk S1 S2 m := hc.k'
    have hw2 : RwAt S2 (m + 3) td.2.1 := by
      have hl := ht.2.2.1
      refine ⟨by rw [hc.1, if_pos ⟨rfl, by omega⟩]; exact z4.1, fun i hi => ?_⟩
      rw [hc.1, if_pos ⟨rfl, by omega⟩, hc.1, if_pos ⟨rfl, by omega⟩, hc.1, if_pos ⟨rfl, by omega⟩, hc.1, if_pos ⟨rfl, by omega⟩, hc.1, if_pos ⟨rfl, by omega⟩, hc.1, if_pos ⟨rfl, by omega⟩]
      exact z4.2 i hi
    have hI2 : mI A S2 m := ⟨hI.1, hI.2.fr fun k => fk.2 m k⟩
    have hl := ht.2.2.1
    refine cm_books hI2 hw2 (hH.cp hc) ⟨ht.2.1.1, ht.2.1.2.1, by omega⟩ fun S3 hb hx3 hfm => ?_
    have fk3 : Fk S1 S3 m := fk.trans (hfm.k (by omega))
    have hp3 : PsAt S3 m p := h1.out' fk3
    have hr3 : RdAt A S3 m q bg td := hr.out (fun b b1 b2 k => ⟨(fk3.1 b k (by unfold scr; omega)).1, fk3.2 b k⟩) (fk3.2 m 4)
    have hI3 : mI A S3 m := ⟨hI.1, hI.2.fr fun k => fk3.2 m k⟩
    rw [hb.2.2.2.2.1]
    refine ⟨hk0, q_eqb (fun cs => kV_i (hf S3 ?_ hr3 fk3.lw ⟨_, hb.2.1⟩)) (fun cs => ⟨hk0, wc rfl, cm_flaw hI3 hp3 fun S4 h4 l4 => kV_i (hf S4 ?_ (hr3.ly l4) (fk3.lw.trans l4.lz.lw) ⟨_, hb.2.1.fm (l4.lz.fm hq) (by omega)⟩)⟩)⟩
    · rw [ex3, if_neg (of_decide_eq_false c), if_neg (by rw [cs]; decide)]; exact hp3
    · rw [ex3, if_neg (of_decide_eq_false c), if_pos cs]; exact h4
  · rw [ex3, if_pos (of_decide_eq_true c)]; exact h1
end
