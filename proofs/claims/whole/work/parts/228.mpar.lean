/-! the reference's parser: the ledger that is being read; its first line -/
def RdAt (A : qA) (S : qS) (m q : Nat) (bg : Bool) (td : Tld) : Prop := gR S m 4 = some q ∧ m + 27 < q ∧ gI S q 0 = bI bg ∧ LgAt A S q td
theorem RdAt.ly {A : qA} {S S' : qS} {m q : Nat} {bg : Bool} {td : Tld} (h : RdAt A S m q bg td) (hl : Ly S S' m) : RdAt A S' m q bg td := by
  obtain ⟨h1, h2, h3, h4⟩ := h
  exact ⟨(hl.2.2 m 4).trans h1, h2, (hl.1 q 0 (by omega)).trans h3, h4.fr fun b hb _ k => ⟨hl.1 b k (by omega), hl.2.2 b k⟩⟩
/-- nothing but the parser's fields and the ledger being read changed -/
def Lz (S S' : qS) (m q : Nat) : Prop := (∀ b k, ¬ (b = m ∧ 8 ≤ k ∧ k ≤ 13) → ¬ (q ≤ b ∧ b < q + 6) → gI S' b k = gI S b k) ∧ (∀ b k, ¬ (b = m ∧ k = 14) → gL S' b k = gL S b k) ∧ ∀ b k, gR S' b k = gR S b k
theorem Ly.lz {S S' : qS} {m q : Nat} (h : Ly S S' m) : Lz S S' m q := ⟨fun b k n _ => h.1 b k n, h.2.1, h.2.2⟩
theorem Lz.uI {S S' : qS} {m q b k : Nat} {v : Int32} (h : Lz S S' m q) (hk : q ≤ b ∧ b < q + 6) : Lz S (uI S' b k v) m q := ⟨fun c j n n' => by rw [gI_uI, if_neg (fun z => n' (by rw [z.1]; exact hk))]; exact h.1 c j n n', h.2.1, h.2.2⟩
theorem Lz.trans {S S' S'' : qS} {m q : Nat} (h : Lz S S' m q) (h' : Lz S' S'' m q) : Lz S S'' m q := ⟨fun b k n n' => (h'.1 b k n n').trans (h.1 b k n n'), fun b k n => (h'.2.1 b k n).trans (h.2.1 b k n), fun b k => (h'.2.2 b k).trans (h.2.2 b k)⟩
theorem TxAt.lz {A : qA} {S S' : qS} {m n q : Nat} {tp : Nat → Int32} (h : TxAt A S m tp n) (hl : Lz S S' m q) (hq : m + 27 < q) : TxAt A S' m tp n := ⟨⟨h.1.1, h.1.2.fr fun k => hl.2.2 m k⟩, h.2.1, (hl.1 m 7 (by omega) (by omega)).trans h.2.2.1, fun k hk => (hl.1 _ _ (by omega) (by omega)).trans (h.2.2.2 k hk)⟩
def ld1 (tp : Nat → Int32) (n : Nat) (bg : Bool) (p : Psr) : Psr := nds tp n 3 (gon tp n (if bg = true then flw 3 p else p))
def ldP (tp : Nat → Int32) (n : Nat) (bg : Bool) (p : Psr) : Psr := gon tp n (whP 0 60 (ld1 tp n bg p))
def ldB (tp : Nat → Int32) (n : Nat) (bg : Bool) (p : Psr) : Bool := if (ldP tp n bg p).1.2.1 = 5 then bg else true
def ldT (tp : Nat → Int32) (n : Nat) (bg : Bool) (p : Psr) (td : Tld) : Tld := if (ldP tp n bg p).1.2.1 = 5 then td else (whV 0 60 (ld1 tp n bg p), td.2)
section
variable {d : Nat} {A : qA} {S : qS} {m n q : Nat} {tp : Nat → Int32} {p : Psr} {bg : Bool} {td : Tld}
set_option maxRecDepth 20000 in
theorem cm_isFull {f : Bool → qS → Prop} (h : mI A S m) (hr : RdAt A S m q bg td) (hf : f (decide (nI td.2.1.length = 16)) S) : Run (d + 1) 168 [.ref m] A S (kZ A f) := by
  refine Run.i (C := mX11_isFull) rfl rfl rfl fun J hJ => ?_
  obtain ⟨r4, hq, -, ⟨⟨k0, k1, -⟩, ⟨r1, -⟩, -, -, -, hw, -⟩⟩ := hr
  have e : gI S (q + 1) (0 : Int32).toNatClampNeg = nI td.2.1.length := hw.1
  refine sX11_isFull_0 hJ ⟨h.1.1, q, r4, k0, q + 1, r1, 145, k1, (show vp_in (nI 0) 145 from vp_n (by decide) (by decide)), fun z => ⟨Or.inl rfl, kZ_0 ?_⟩, fun z => ⟨Or.inr rfl, kZ_1 ?_⟩⟩
  · rwa [decide_eq_false (fun c => z (e.trans c))] at hf
  · rwa [decide_eq_true (e.symm.trans z)] at hf
set_option maxRecDepth 20000 in
theorem cm_readLedger {f : qS → Prop} (h : TxAt A S m tp n) (hx : PsAt S m p) (hp : p.1.1 ≤ n) (hr : RdAt A S m q bg td) (hf : ∀ S', PsAt S' m (ldP tp n bg p) → RdAt A S' m q (ldB tp n bg p) (ldT tp n bg p td) → Lz S S' m q → f S') : Run (d + 9) 167 [.ref m] A S (kV A f) := by
  refine Run.i (C := mX11_readLedger) rfl rfl rfl fun J hJ => ?_
  have hk0 := h.1.1.1
  have hq := hr.2.1
  have kq := hr.2.2.2.1.1
  have quiet : ∀ S1, PsAt S1 m (ldP tp n bg p) → Ly S S1 m → (ldP tp n bg p).1.2.1 = 5 → f S1 := by
    intro S1 h1 l1 e
    refine hf S1 h1 ?_ l1.lz
    rw [ldB, ldT, if_pos e, if_pos e]
    exact hr.ly l1
  have told : ∀ S1, PsAt S1 m (ldP tp n bg p) → Ly S S1 m → ¬ (ldP tp n bg p).1.2.1 = 5 → f (uI (uI S1 q 0 1) q 1 (whV 0 60 (ld1 tp n bg p))) := by
    intro S1 h1 l1 e
    have hr1 := hr.ly l1
    refine hf _ ?_ ?_ ((l1.lz.uI (by omega)).uI (by omega))
    · obtain ⟨⟨x1, x2, x3, x4, x5⟩, x6, x7⟩ := h1
      have ne : ∀ k, gI (uI (uI S1 q 0 1) q 1 (whV 0 60 (ld1 tp n bg p))) m k = gI S1 m k := fun k => by rw [gI_uI, if_neg (by omega), gI_uI, if_neg (by omega)]
      exact ⟨⟨(ne _).trans x1, (ne _).trans x2, (ne _).trans x3, (ne _).trans x4, x5⟩, (ne _).trans x6, (ne _).trans x7⟩
    · rw [ldB, ldT, if_neg e, if_neg e]
      obtain ⟨y1, y2, y3, yk, yr, z1, z2, z3, z4, z5, z6⟩ := hr1
      have ne : ∀ b k, ¬ (b = q ∧ k < 2) → gI (uI (uI S1 q 0 1) q 1 (whV 0 60 (ld1 tp n bg p))) b k = gI S1 b k := fun b k c => by rw [gI_uI, if_neg (by omega), gI_uI, if_neg (by omega)]
      refine ⟨y1, y2, ?_, yk, yr, ?_, (ne _ _ (by omega)).trans z2, (ne _ _ (by omega)).trans z3, z4.same (fun k => ne _ _ (by omega)), fun i hi => ?_, fun i hi => ?_⟩
      · rw [gI_uI, if_neg (by omega), gI_uI, if_pos ⟨rfl, rfl⟩]; rfl
      · rw [gI_uI, if_pos ⟨rfl, rfl⟩]
      · rw [ne _ _ (by omega), ne _ _ (by omega)]; exact z5 i hi
      · rw [ne _ _ (by omega), ne _ _ (by omega)]; exact z6 i hi
  refine sX11_readLedger_0 hJ ⟨hk0, q, hr.1, kq, ?_⟩
  rw [hr.2.2.1]
  refine q_eqb (fun c => ⟨hk0, wc rfl, cm_gon h hx hp fun S1 h1 l1 => fun a ha => ⟨hk0, wc rfl, cm_readPart (h.ly l1) h1 (gon_le hp) ha (by decide) fun S2 h2 l2 => ⟨hk0, wc rfl, cm_over (p := ldP tp n bg p) ((h.ly l1).ly l2).1 ?_ ?_⟩⟩⟩) (fun c => ⟨hk0, wc rfl, cm_flaw h.1 hx fun S0 h0 l0 => ⟨hk0, wc rfl, cm_gon (h.ly l0) h0 (by rw [flw_1]; exact hp) fun S1 h1 l1 => fun a ha => ⟨hk0, wc rfl, cm_readPart ((h.ly l0).ly l1) h1 (gon_le (by rw [flw_1]; exact hp)) ha (by decide) fun S2 h2 l2 => ⟨hk0, wc rfl, cm_over (p := ldP tp n bg p) (((h.ly l0).ly l1).ly l2).1 ?_ ?_⟩⟩⟩⟩)
  · rw [ldP, ld1, c, if_neg (by decide)]; exact h2
  · have e1 : ld1 tp n bg p = nds tp n 3 (gon tp n p) := by rw [ld1, c, if_neg (by decide)]
    have h2' : PsAt S2 m (ldP tp n bg p) := by rw [ldP, e1]; exact h2
    have l := l1.trans l2
    rw [← e1]
    refine q_eqb (fun c5 => ⟨hk0, q, (hr.ly l).1, kq, Or.inr rfl, fun T eT => ?_⟩) (fun c5 => kV_i (quiet S2 h2' l (of_decide_eq_true c5)))
    subst eT
    refine ⟨hk0, q, (hr.ly l).1, kq, fun T eT => ?_⟩
    subst eT
    exact kV_i (told S2 h2' l (of_decide_eq_false c5))
  · rw [ldP, ld1, c, if_pos rfl]; exact h2
  · have e1 : ld1 tp n bg p = nds tp n 3 (gon tp n (flw 3 p)) := by rw [ld1, c, if_pos rfl]
    have h2' : PsAt S2 m (ldP tp n bg p) := by rw [ldP, e1]; exact h2
    have l := (l0.trans l1).trans l2
    rw [← e1]
    refine q_eqb (fun c5 => ⟨hk0, q, (hr.ly l).1, kq, Or.inr rfl, fun T eT => ?_⟩) (fun c5 => kV_i (quiet S2 h2' l (of_decide_eq_true c5)))
    subst eT
    refine ⟨hk0, q, (hr.ly l).1, kq, fun T eT => ?_⟩
    subst eT
    exact kV_i (told S2 h2' l (of_decide_eq_false c5))
end
