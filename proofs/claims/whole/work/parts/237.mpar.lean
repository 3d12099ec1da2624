/-! the reference reads all -/
section
variable {d e : Nat} {A : qA} {S : qS} {m n q : Nat} {tp : Nat → Int32} {p : Psr} {bg : Bool} {td : Tld} {H : Nat → List Lot}
theorem MH.lz {S' : qS} (h : MH S m H) (l : Lz S S' m q) (hq : m + 27 < q) : MH S' m H := h.fm (l.fm hq) (by omega)
theorem PsAt.le {S' : qS} (h : PsAt S m p) (l : ∀ k, gI S' m k = gI S m k) (l' : gL S' m 14 = gL S m 14) : PsAt S' m p := h.out l l'
set_option maxRecDepth 20000 in
theorem cm_readAll {f : qS → Prop} (h : TxAt A S m tp n) (hH : MH S m H) (hx : PsAt S m p) (hp : p.1.1 ≤ n) (hr : RdAt A S m q bg td) (ht : iTd bg td) (hf : ∀ S', PsAt S' m (exR (raG tp n (n + 1) p bg td)) → RdAt A S' m q (raG tp n (n + 1) p bg td).2.1 (raG tp n (n + 1) p bg td).2.2 → iTd (raG tp n (n + 1) p bg td).2.1 (raG tp n (n + 1) p bg td).2.2 → Lw S S' m q → (∃ H, MH S' m H) → f S') : Run (d + 11) 165 [.ref m] A S (kV A f) := by
  refine Run.i (C := mX11_readAll) rfl rfl rfl fun J hJ => ?_
  have hk0 := h.1.1.1
  have hq := hr.2.1
  have exit : ∀ (P : Psr) (B : Bool) (T : Tld) S1, PsAt S1 m P → RdAt A S1 m q B T → iTd B T → Lz S S1 m q → (∀ S', PsAt S' m (ex3 T (ex2 B P)) → RdAt A S' m q B T → iTd B T → Lw S S' m q → (∃ H, MH S' m H) → f S') → J 2 [some (.ref m), some (.int 0)] [] A S1 := by
    intro P B T S1 h1 r1 t1 l1 hf
    have hx1 := h.lz l1 hq
    have y1 := r1.1
    have y4 := r1.2.2.2.1.1
    have gB : gI S1 q 0 = bI B := r1.2.2.1
    refine sX11_readAll_2 hJ ⟨fun _ => ⟨hk0, fun zs => ⟨hk0, q, y1, y4, ?_⟩, fun zs => ⟨hk0, wc rfl, cm_flaw hx1.1 h1 fun S2 h2 l2 => ⟨hk0, q, (l2.2.2 m 4).trans y1, y4, ?_⟩⟩⟩, fun z => absurd rfl z⟩
    · have e1 : ex1 P = P := if_pos (h1.1.2.1.symm.trans zs)
      unfold ex2 at hf
      rw [e1] at hf
      rw [gB]
      refine And.symm (q_eqb (fun cb => ⟨hk0, wc rfl, cm_flaw hx1.1 h1 fun S3 h3 l3 => ⟨hk0, wc rfl, ?_⟩⟩) (fun cb => ⟨hk0, wc rfl, ?_⟩))
      · rw [if_neg (by rw [cb]; decide)] at hf
        exact cm_raTail (hx1.ly l3) ((hH.lz l1 hq).lz l3.lz hq) h3 (r1.ly l3) t1.1 fun S' a1 a2 a3 a4 => hf S' a1 a2 t1 ((l1.trans l3.lz).lw.trans a3) a4
      · rw [if_pos cb] at hf
        exact cm_raTail hx1 (hH.lz l1 hq) h1 r1 t1.1 fun S' a1 a2 a3 a4 => hf S' a1 a2 t1 (l1.lw.trans a3) a4
    · have e1 : ex1 P = flw 1 P := if_neg (fun c => zs (h1.1.2.1.trans c))
      unfold ex2 at hf
      rw [e1] at hf
      rw [l2.1 q 0 (by omega), gB]
      have l12 := l1.trans l2.lz
      have hx2 := hx1.ly l2
      have r2 := r1.ly l2
      refine And.symm (q_eqb (fun cb => ⟨hk0, wc rfl, cm_flaw hx2.1 h2 fun S3 h3 l3 => ⟨hk0, wc rfl, ?_⟩⟩) (fun cb => ⟨hk0, wc rfl, ?_⟩))
      · rw [if_neg (by rw [cb]; decide)] at hf
        exact cm_raTail (hx2.ly l3) ((hH.lz l12 hq).lz l3.lz hq) h3 (r2.ly l3) t1.1 fun S' a1 a2 a3 a4 => hf S' a1 a2 t1 ((l12.trans l3.lz).lw.trans a3) a4
      · rw [if_pos cb] at hf
        exact cm_raTail hx2 (hH.lz l12 hq) h2 r2 t1.1 fun S' a1 a2 a3 a4 => hf S' a1 a2 t1 (l12.lw.trans a3) a4
  have loop : ∀ g (P : Psr) (B : Bool) (T : Tld) S1, n < P.1.1 + g → P.1.1 ≤ n → PsAt S1 m P → RdAt A S1 m q B T → iTd B T → Lz S S1 m q → (∀ S', PsAt S' m (exR (raG tp n g P B T)) → RdAt A S' m q (raG tp n g P B T).2.1 (raG tp n g P B T).2.2 → iTd (raG tp n g P B T).2.1 (raG tp n g P B T).2.2 → Lw S S' m q → (∃ H, MH S' m H) → f S') → J 2 [some (.ref m), some (.int 1)] [] A S1 := by
    intro g
    induction g with
    | zero => intro P B T S1 hg hP; omega
    | succ g ih =>
      intro P B T S1 hg hP h1 r1 t1 l1 hf
      have hx1 := h.lz l1 hq
      have hP2 := liP_le (tp := tp) (bg := B) (td := T) hP
      have hP4 := liP_4 (tp := tp) (bg := B) (td := T) hP
      have t2 := t1.li (tp := tp) (n := n) (p := P)
      unfold raG at hf
      refine sX11_readAll_2 hJ ⟨fun z => absurd z (by decide), fun _ => ⟨hk0, wc rfl, cm_readLine hx1 h1 hP r1 t1.1.2.2.1 t1.1.2.2.2.1 t1.1.2.2.2.2.2.1 fun S2 h2 r2 l2 => ?_⟩⟩
      generalize liP tp n B T P = P2 at h2 hP2 hP4 hf
      generalize liB tp n B P = B2 at r2 t2 hf
      generalize liT tp n B T P = T2 at r2 t2 hf
      have l12 := l1.trans l2
      refine ⟨hk0, wc rfl, cm_eatsSemicolon (h.lz l12 hq) h2 hP2 fun S3 h3 l3 => ?_⟩
      by_cases c4 : P2.1.2.1 = 4
      · rw [if_pos c4] at h3 hf
        rw [decide_eq_true c4]
        have hg2 := gon_ge (tp := tp) hP2
        refine ih (gon tp n P2) B2 T2 S3 ?_ (gon_le hP2) h3 (r2.ly l3) t2 (l12.trans l3.lz) hf
        have := hP4 c4
        have := hg2.1
        omega
      · rw [if_neg c4] at h3 hf
        rw [decide_eq_false c4]
        exact exit P2 B2 T2 S3 h3 (r2.ly l3) t2 (l12.trans l3.lz) hf
  exact sX11_readAll_0 hJ (loop (n + 1) p bg td S (by omega) hp hx hr ht ⟨fun _ _ _ _ => rfl, fun _ _ _ => rfl, fun _ _ => rfl⟩ hf)
end
/-! layouts that grow -/
/-- every cell that there is lies below the next free one -/
def AOk (A : qA) : Prop := ∀ b z, A.1 b = some z → b < A.2.1
def Ax (A A' : qA) : Prop := ∀ b z, A.1 b = some z → A'.1 b = some z
theorem Ax.rf {A : qA} : Ax A A := fun _ _ h => h
theorem Ax.trans {A B C : qA} (h : Ax A B) (h' : Ax B C) : Ax A C := fun b z e => h' b z (h b z e)
theorem AOk.new {A : qA} {k n w : Nat} (h : AOk A) : AOk (newA A k n w) := by
  intro b z e
  unfold newA at e ⊢
  dsimp only at e ⊢
  split at e
  · omega
  · have := h b z e; omega
theorem AOk.ax {A : qA} {k n w : Nat} (h : AOk A) : Ax A (newA A k n w) := by
  intro b z e
  unfold newA
  dsimp only
  rw [if_neg (by have := h b z e; omega)]
  exact e
theorem newA_at {A : qA} {k n w : Nat} : (newA A k n w).1 A.2.1 = some (k, n) := if_pos rfl
theorem Fr.uZ {S S' : qS} {lo hi a : Nat} (h : Fr S S' lo hi) (h1 : lo ≤ a) (h2 : a < hi) : Fr S (uZ S' a) lo hi := fun b z j => ⟨by rw [gI_uZ, if_neg (by omega)]; exact (h b z j).1, by rw [gL_uZ, if_neg (by omega)]; exact (h b z j).2.1, by rw [gR_uZ, if_neg (by omega)]; exact (h b z j).2.2⟩
section
variable {d e : Nat} {A : qA} {S : qS} {m n q : Nat} {tp : Nat → Int32} {p : Psr} {bg : Bool} {td : Tld}
set_option maxRecDepth 20000 in
theorem cm_ledgerInit {f : qA → qS → Prop} (hA : AOk A) (hq : A.1 q = some (10, 0)) (hn : A.2.1 = q + 1) (hz : ∀ k, gI S q k = 0) (hf : ∀ A' S', AOk A' → Ax A A' → A'.2.1 = q + 6 → A'.2.2.1 = A.2.2.1 + 5 → A'.2.2.2 = A.2.2.2 + 165 → LgAt A' S' q td0 → gI S' q 0 = 0 → Fr S S' q (q + 6) → f A' S') : Run (d + 1) 134 [.ref q] A S (kVa (A.2.2.1 + 5) (A.2.2.2 + 165) f) := by
  refine Run.i (C := mX10_init) rfl rfl rfl fun J hJ => ?_
  have e145 : (145 : Int32).toNatClampNeg = 145 := by decide
  have e4 : (4 : Int32).toNatClampNeg = 4 := by decide
  have e6 : (6 : Int32).toNatClampNeg = 6 := by decide
  refine sX10_init_0 hJ ?_
  rw [e145, e4, e6]
  obtain ⟨lay, nx, c, s⟩ := A
  dsimp only at hn hq hf ⊢
  subst hn
  have caps : ∀ a b, a ≤ 5 → b ≤ 165 → c + a ≤ c + 5 ∧ s + b ≤ s + 165 := fun a b h1 h2 => by omega
  refine ⟨by decide, by decide, (caps 1 145 (by omega) (by omega)).1, (caps 1 145 (by omega) (by omega)).2, fun A1 S1 eA eS => ?_⟩
  subst eA eS
  dsimp only [newA]
  refine ⟨by rw [if_neg (by omega)]; exact hq, fun S2 eS => ?_⟩
  subst eS
  refine ⟨by decide, by decide, (caps 2 149 (by omega) (by omega)).1, (caps 2 149 (by omega) (by omega)).2, fun A1 S1 eA eS => ?_⟩
  subst eA eS
  dsimp only
  refine ⟨by rw [if_neg (by omega), if_neg (by omega)]; exact hq, fun S2 eS => ?_⟩
  subst eS
  refine ⟨by decide, by decide, (caps 3 153 (by omega) (by omega)).1, (caps 3 153 (by omega) (by omega)).2, fun A1 S1 eA eS => ?_⟩
  subst eA eS
  dsimp only
  refine ⟨by rw [if_neg (by omega), if_neg (by omega), if_neg (by omega)]; exact hq, fun S2 eS => ?_⟩
  subst eS
  refine ⟨by decide, by decide, (caps 4 159 (by omega) (by omega)).1, (caps 4 159 (by omega) (by omega)).2, fun A1 S1 eA eS => ?_⟩
  subst eA eS
  dsimp only
  refine ⟨by rw [if_neg (by omega), if_neg (by omega), if_neg (by omega), if_neg (by omega)]; exact hq, fun S2 eS => ?_⟩
  subst eS
  refine ⟨by decide, by decide, (caps 5 165 (by omega) (by omega)).1, (caps 5 165 (by omega) (by omega)).2, fun A1 S1 eA eS => ?_⟩
  subst eA eS
  dsimp only
  refine ⟨by rw [if_neg (by omega), if_neg (by omega), if_neg (by omega), if_neg (by omega), if_neg (by omega)]; exact hq, fun S2 eS => ?_⟩
  subst eS
  refine ⟨rfl, rfl, rfl, hf _ _ ?_ ?_ rfl rfl rfl ⟨⟨?_, ?_, ?_, ?_, ?_, ?_⟩, ⟨?_, ?_, ?_, ?_, ?_⟩, ?_, ?_, ?_, ⟨?_, fun i hi => absurd hi (Nat.not_lt_zero _)⟩, fun i hi => absurd hi (Nat.not_lt_zero _), fun i hi => absurd hi (Nat.not_lt_zero _)⟩ ?_ ?_⟩
  · exact AOk.new (AOk.new (AOk.new (AOk.new (AOk.new hA (k := 13) (n := 145) (w := 145)) (k := 13) (n := 4) (w := 4)) (k := 13) (n := 4) (w := 4)) (k := 13) (n := 6) (w := 6)) (k := 13) (n := 6) (w := 6)
  · intro b z e
    have := hA b z e
    dsimp only at this e ⊢
    rw [if_neg (by omega), if_neg (by omega), if_neg (by omega), if_neg (by omega), if_neg (by omega)]
    exact e
  · dsimp only
    rw [if_neg (by omega), if_neg (by omega), if_neg (by omega), if_neg (by omega), if_neg (by omega)]
    exact hq
  · dsimp only; rw [if_neg (by omega), if_neg (by omega), if_neg (by omega), if_neg (by omega), if_pos (by omega)]
  · dsimp only; rw [if_neg (by omega), if_neg (by omega), if_neg (by omega), if_pos (by omega)]
  · dsimp only; rw [if_neg (by omega), if_neg (by omega), if_pos (by omega)]
  · dsimp only; rw [if_neg (by omega), if_pos (by omega)]
  · dsimp only; rw [if_pos (by omega)]
  · simp only [gR_uZ, gI_uI, gL_uL, gR_uR, gI_uL, gI_uR, gL_uI, gL_uR, gR_uI, gR_uL, Nat.add_assoc, true_and, and_true, Nat.add_right_cancel_iff, Nat.add_left_cancel_iff, Nat.reduceEqDiff, Nat.left_eq_add, Nat.right_eq_add, Nat.add_eq_left, Nat.add_eq_right, Nat.reduceAdd, Nat.succ_ne_self, reduceCtorEq, false_and, and_false, if_false, if_true, ite_true, ite_false, ite_self, Nat.succ_ne_zero, Nat.add_one_ne_zero, not_false_eq_true, not_true_eq_false, Nat.one_ne_zero, Nat.zero_ne_one]
  · simp only [gR_uZ, gI_uI, gL_uL, gR_uR, gI_uL, gI_uR, gL_uI, gL_uR, gR_uI, gR_uL, Nat.add_assoc, true_and, and_true, Nat.add_right_cancel_iff, Nat.add_left_cancel_iff, Nat.reduceEqDiff, Nat.left_eq_add, Nat.right_eq_add, Nat.add_eq_left, Nat.add_eq_right, Nat.reduceAdd, Nat.succ_ne_self, reduceCtorEq, false_and, and_false, if_false, if_true, ite_true, ite_false, ite_self, Nat.succ_ne_zero, Nat.add_one_ne_zero, not_false_eq_true, not_true_eq_false, Nat.one_ne_zero, Nat.zero_ne_one]
  · simp only [gR_uZ, gI_uI, gL_uL, gR_uR, gI_uL, gI_uR, gL_uI, gL_uR, gR_uI, gR_uL, Nat.add_assoc, true_and, and_true, Nat.add_right_cancel_iff, Nat.add_left_cancel_iff, Nat.reduceEqDiff, Nat.left_eq_add, Nat.right_eq_add, Nat.add_eq_left, Nat.add_eq_right, Nat.reduceAdd, Nat.succ_ne_self, reduceCtorEq, false_and, and_false, if_false, if_true, ite_true, ite_false, ite_self, Nat.succ_ne_zero, Nat.add_one_ne_zero, not_false_eq_true, not_true_eq_false, Nat.one_ne_zero, Nat.zero_ne_one]
  · simp only [gR_uZ, gI_uI, gL_uL, gR_uR, gI_uL, gI_uR, gL_uI, gL_uR, gR_uI, gR_uL, Nat.add_assoc, true_and, and_true, Nat.add_right_cancel_iff, Nat.add_left_cancel_iff, Nat.reduceEqDiff, Nat.left_eq_add, Nat.right_eq_add, Nat.add_eq_left, Nat.add_eq_right, Nat.reduceAdd, Nat.succ_ne_self, reduceCtorEq, false_and, and_false, if_false, if_true, ite_true, ite_false, ite_self, Nat.succ_ne_zero, Nat.add_one_ne_zero, not_false_eq_true, not_true_eq_false, Nat.one_ne_zero, Nat.zero_ne_one]
  · simp only [gR_uZ, gI_uI, gL_uL, gR_uR, gI_uL, gI_uR, gL_uI, gL_uR, gR_uI, gR_uL, Nat.add_assoc, true_and, and_true, Nat.add_right_cancel_iff, Nat.add_left_cancel_iff, Nat.reduceEqDiff, Nat.left_eq_add, Nat.right_eq_add, Nat.add_eq_left, Nat.add_eq_right, Nat.reduceAdd, Nat.succ_ne_self, reduceCtorEq, false_and, and_false, if_false, if_true, ite_true, ite_false, ite_self, Nat.succ_ne_zero, Nat.add_one_ne_zero, not_false_eq_true, not_true_eq_false, Nat.one_ne_zero, Nat.zero_ne_one]
  · simp only [gI_uZ, gI_uI, gL_uL, gR_uR, gI_uL, gI_uR, gL_uI, gL_uR, gR_uI, gR_uL, Nat.add_assoc, true_and, and_true, Nat.add_right_cancel_iff, Nat.add_left_cancel_iff, Nat.reduceEqDiff, Nat.left_eq_add, Nat.right_eq_add, Nat.add_eq_left, Nat.add_eq_right, Nat.reduceAdd, Nat.succ_ne_self, reduceCtorEq, false_and, and_false, if_false, if_true, ite_true, ite_false, ite_self, Nat.succ_ne_zero, Nat.add_one_ne_zero, not_false_eq_true, not_true_eq_false, Nat.one_ne_zero, Nat.zero_ne_one]; exact hz 1
  · simp only [gI_uZ, gI_uI, gL_uL, gR_uR, gI_uL, gI_uR, gL_uI, gL_uR, gR_uI, gR_uL, Nat.add_assoc, true_and, and_true, Nat.add_right_cancel_iff, Nat.add_left_cancel_iff, Nat.reduceEqDiff, Nat.left_eq_add, Nat.right_eq_add, Nat.add_eq_left, Nat.add_eq_right, Nat.reduceAdd, Nat.succ_ne_self, reduceCtorEq, false_and, and_false, if_false, if_true, ite_true, ite_false, ite_self, Nat.succ_ne_zero, Nat.add_one_ne_zero, not_false_eq_true, not_true_eq_false, Nat.one_ne_zero, Nat.zero_ne_one]; exact hz 2
  · simp only [gI_uZ, gI_uI, gL_uL, gR_uR, gI_uL, gI_uR, gL_uI, gL_uR, gR_uI, gR_uL, Nat.add_assoc, true_and, and_true, Nat.add_right_cancel_iff, Nat.add_left_cancel_iff, Nat.reduceEqDiff, Nat.left_eq_add, Nat.right_eq_add, Nat.add_eq_left, Nat.add_eq_right, Nat.reduceAdd, Nat.succ_ne_self, reduceCtorEq, false_and, and_false, if_false, if_true, ite_true, ite_false, ite_self, Nat.succ_ne_zero, Nat.add_one_ne_zero, not_false_eq_true, not_true_eq_false, Nat.one_ne_zero, Nat.zero_ne_one]; exact hz 3
  · simp only [gI_uZ, gI_uI, gL_uL, gR_uR, gI_uL, gI_uR, gL_uI, gL_uR, gR_uI, gR_uL, Nat.add_assoc, true_and, and_true, Nat.add_right_cancel_iff, Nat.add_left_cancel_iff, Nat.reduceEqDiff, Nat.left_eq_add, Nat.right_eq_add, Nat.add_eq_left, Nat.add_eq_right, Nat.reduceAdd, Nat.succ_ne_self, reduceCtorEq, false_and, and_false, if_false, if_true, ite_true, ite_false, ite_self, Nat.succ_ne_zero, Nat.add_one_ne_zero, not_false_eq_true, not_true_eq_false, Nat.one_ne_zero, Nat.zero_ne_one]; rfl
  · simp only [gI_uZ, gI_uI, gL_uL, gR_uR, gI_uL, gI_uR, gL_uI, gL_uR, gR_uI, gR_uL, Nat.add_assoc, true_and, and_true, Nat.add_right_cancel_iff, Nat.add_left_cancel_iff, Nat.reduceEqDiff, Nat.left_eq_add, Nat.right_eq_add, Nat.add_eq_left, Nat.add_eq_right, Nat.reduceAdd, Nat.succ_ne_self, reduceCtorEq, false_and, and_false, if_false, if_true, ite_true, ite_false, ite_self, Nat.succ_ne_zero, Nat.add_one_ne_zero, not_false_eq_true, not_true_eq_false, Nat.one_ne_zero, Nat.zero_ne_one]; exact hz 0
  · exact ((((((((((Fr.rf.uZ (by omega) (by omega)).uR (by omega) (by omega)).uZ (by omega) (by omega)).uR (by omega) (by omega)).uZ (by omega) (by omega)).uR (by omega) (by omega)).uZ (by omega) (by omega)).uR (by omega) (by omega)).uZ (by omega) (by omega)).uR (by omega) (by omega))
end
