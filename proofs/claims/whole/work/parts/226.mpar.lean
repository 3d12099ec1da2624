/-! the reference's parser: words, numbers, semicolons -/
def pkG (i : Nat) : Nat → Int64
  | 0 => 0
  | k + 1 => 32 * pkG i k + (((schr i k - 97) + 1).toInt64)
def wrd (i : Nat) (p : Psr) : Bool := decide (p.1.2.1 = 2 ∧ p.1.2.2.2.2 = pkG i (slen i))
def nds (tp : Nat → Int32) (n i : Nat) (p : Psr) : Psr := gon tp n (if wrd i p = true then p else flw 1 p)
def whP (lo hi : Int32) (p : Psr) : Psr := if p.1.2.1 = 3 then (if inB p.1.2.2.2.1 lo hi = true then p else flw 4 p) else flw 1 p
def whV (lo hi : Int32) (p : Psr) : Int32 := if p.1.2.1 = 3 ∧ inB p.1.2.2.2.1 lo hi = true then p.1.2.2.2.1 else lo
theorem whP_1 {lo hi : Int32} {p : Psr} : (whP lo hi p).1.1 = p.1.1 := by
  rw [whP]
  split
  · split
    · rfl
    · exact flw_1
  · exact flw_1
theorem nds_le {tp : Nat → Int32} {n i : Nat} {p : Psr} (h : p.1.1 ≤ n) : (nds tp n i p).1.1 ≤ n := by
  rw [nds]
  refine gon_le ?_
  split
  · exact h
  · rw [flw_1]; exact h
section
variable {d : Nat} {A : qA} {S : qS} {m n : Nat} {tp : Nat → Int32} {p : Psr}
set_option maxRecDepth 20000 in
theorem cm_packed {a i : Nat} {f : Int64 → qS → Prop} (ha : A.1 a = some (20, i)) (hs : slen i ≤ 100) (hf : f (pkG i (slen i)) S) : Run (d + 5) 152 [.ref a] A S (kL A f) := by
  refine Run.i (C := mX11_packed) rfl rfl rfl fun J hJ => ?_
  have loop : ∀ g k (w2 : Option Value), k + g = slen i → J 4 [some (.ref a), some (.long (pkG i k)), w2, some (.int (nI k))] [] A S := by
    intro g
    induction g with
    | zero =>
      intro k w2 hk
      refine sX11_packed_4 hJ ⟨i, ha, wc rfl, fun _ => ?_, fun z => absurd ((nIle (by omega) (by omega)).2 (by omega)) z⟩
      rw [show k = slen i by omega]
      exact kL_i hf
    | succ g ih =>
      intro k w2 hk
      refine sX11_packed_4 hJ ⟨i, ha, wc rfl, fun z => absurd ((nIle (by omega) (by omega)).1 z) (by omega), fun z => ⟨i, ha, vp_n (by omega) (by omega), wc rfl, ?_⟩⟩
      rw [cl_n (by omega), nI_1]
      exact ih (k + 1) none (by omega)
  exact sX11_packed_0 hJ (loop (slen i) 0 none (by omega))
set_option maxRecDepth 20000 in
theorem cm_isWord {a i : Nat} {f : Bool → qS → Prop} (h : mI A S m) (hx : PsAt S m p) (ha : A.1 a = some (20, i)) (hs : slen i ≤ 100) (hf : f (wrd i p) S) : Run (d + 6) 156 [.ref m, .ref a] A S (kZ A f) := by
  refine Run.i (C := mX11_isWord) rfl rfl rfl fun J hJ => ?_
  have hk0 := h.1.1
  obtain ⟨⟨x1, x2, x3, x4, x5⟩, x6, x7⟩ := hx
  refine sX11_isWord_0 hJ ⟨hk0, fun z => ⟨Or.inl rfl, kZ_0 ?_⟩, fun z => ⟨hk0, wc rfl, cm_packed ha hs ⟨fun z1 => ⟨Or.inl rfl, kZ_0 ?_⟩, fun z1 => ⟨Or.inr rfl, kZ_1 ?_⟩⟩⟩⟩
  · rwa [show wrd i p = false from decide_eq_false (fun c => z (x2.trans c.1))] at hf
  · rwa [show wrd i p = false from decide_eq_false (fun c => z1 ((lgc_eq _ _).2 (x5.trans c.2)))] at hf
  · rwa [show wrd i p = true from decide_eq_true ⟨x2.symm.trans z, x5.symm.trans ((lgc_eq _ _).1 z1)⟩] at hf
set_option maxRecDepth 20000 in
theorem cm_eatsSemicolon {f : Bool → qS → Prop} (h : TxAt A S m tp n) (hx : PsAt S m p) (hp : p.1.1 ≤ n) (hf : ∀ S', PsAt S' m (if p.1.2.1 = 4 then gon tp n p else p) → Ly S S' m → f (decide (p.1.2.1 = 4)) S') : Run (d + 3) 157 [.ref m] A S (kZ A f) := by
  refine Run.i (C := mX11_eatsSemicolon) rfl rfl rfl fun J hJ => ?_
  have hk0 := h.1.1.1
  have x2 := hx.1.2.1
  refine sX11_eatsSemicolon_0 hJ ⟨hk0, fun z => ⟨fun _ => ⟨Or.inl rfl, kZ_0 ?_⟩, fun c => absurd rfl c⟩, fun z => ⟨fun c => absurd c (by decide), fun _ => ⟨hk0, wc rfl, cm_gon h hx hp fun S' h1 h2 => ⟨Or.inr rfl, kZ_1 ?_⟩⟩⟩⟩
  · have e : ¬ p.1.2.1 = 4 := fun c => z (x2.trans c)
    have := hf S (by rw [if_neg e]; exact hx) Ly.rf
    rwa [decide_eq_false e] at this
  · have e : p.1.2.1 = 4 := x2.symm.trans z
    have := hf S' (by rw [if_pos e]; exact h1) h2
    rwa [decide_eq_true e] at this
set_option maxRecDepth 20000 in
theorem cm_needs {a i : Nat} {f : qS → Prop} (h : TxAt A S m tp n) (hx : PsAt S m p) (hp : p.1.1 ≤ n) (ha : A.1 a = some (20, i)) (hs : slen i ≤ 100) (hf : ∀ S', PsAt S' m (nds tp n i p) → Ly S S' m → f S') : Run (d + 7) 158 [.ref m, .ref a] A S (kV A f) := by
  refine Run.i (C := mX11_needs) rfl rfl rfl fun J hJ => ?_
  have hk0 := h.1.1.1
  refine sX11_needs_0 hJ ⟨hk0, wc rfl, cm_isWord h.1 hx ha hs ?_⟩
  refine And.symm (q_eqb (fun c => ⟨hk0, wc rfl, cm_flaw h.1 hx fun S1 h1 l1 => ⟨hk0, wc rfl, cm_gon (h.ly l1) h1 (by rw [flw_1]; exact hp) fun S2 h2 l2 => kV_i (hf S2 ?_ (l1.trans l2))⟩⟩) (fun c => ⟨hk0, wc rfl, cm_gon h hx hp fun S2 h2 l2 => kV_i (hf S2 ?_ l2)⟩))
  · rw [nds, c, if_neg (by decide)]; exact h2
  · rw [nds, c, if_pos rfl]; exact h2
set_option maxRecDepth 20000 in
theorem cm_wholeAt {lo hi : Int32} {f : Int32 → qS → Prop} (h : mI A S m) (hx : PsAt S m p) (hf : ∀ S', PsAt S' m (whP lo hi p) → Ly S S' m → f (whV lo hi p) S') : Run (d + 2) 159 [.ref m, .int lo, .int hi] A S (kI A f) := by
  refine Run.i (C := mX11_wholeAt) rfl rfl rfl fun J hJ => ?_
  have hk0 := h.1.1
  have x2 := hx.1.2.1
  have x4 := hx.1.2.2.2.1
  refine sX11_wholeAt_0 hJ ⟨hk0, fun z => ⟨hk0, wc rfl, cm_in ?_⟩, fun z => ⟨hk0, wc rfl, cm_flaw h hx fun S1 h1 l1 => ⟨hk0, fun c => absurd (h1.1.2.1.trans flw_5) c, fun _ => kI_i ?_⟩⟩⟩
  · have e : p.1.2.1 = 3 := x2.symm.trans z
    rw [x4]
    refine And.symm (q_eqb (fun c => ⟨hk0, wc rfl, cm_flaw h hx fun S1 h1 l1 => ⟨hk0, fun c => absurd (h1.1.2.1.trans flw_5) c, fun _ => kI_i ?_⟩⟩) (fun c => ⟨hk0, fun _ => ⟨hk0, kI_i ?_⟩, fun c5 => absurd (z.symm.trans c5) (by decide)⟩))
    · have := hf S1 (by rw [whP, if_pos e, if_neg (by rw [c]; decide)]; exact h1) l1
      rwa [whV, if_neg (by rw [c]; exact fun q => absurd q.2 (by decide))] at this
    · have := hf S (by rw [whP, if_pos e, if_pos c]; exact hx) Ly.rf
      rwa [whV, if_pos ⟨e, c⟩] at this
  · have e : ¬ p.1.2.1 = 3 := fun c => z (x2.trans c)
    have := hf S1 (by rw [whP, if_neg e]; exact h1) l1
    rwa [whV, if_neg (fun q => e q.1)] at this
set_option maxRecDepth 20000 in
theorem cm_readWhole {lo hi : Int32} {f : Int32 → qS → Prop} (h : TxAt A S m tp n) (hx : PsAt S m p) (hp : p.1.1 ≤ n) (hf : ∀ S', PsAt S' m (gon tp n (whP lo hi p)) → Ly S S' m → f (whV lo hi p) S') : Run (d + 3) 160 [.ref m, .int lo, .int hi] A S (kI A f) := by
  refine Run.i (C := mX11_readWhole) rfl rfl rfl fun J hJ => ?_
  have hk0 := h.1.1.1
  exact sX11_readWhole_0 hJ ⟨hk0, wc rfl, cm_wholeAt h.1 hx fun S1 h1 l1 => ⟨hk0, wc rfl, cm_gon (h.ly l1) h1 (by rw [whP_1]; exact hp) fun S2 h2 l2 => kI_i (hf S2 h2 (l1.trans l2))⟩⟩
set_option maxRecDepth 20000 in
theorem cm_readPart {a i : Nat} {lo hi : Int32} {f : Int32 → qS → Prop} (h : TxAt A S m tp n) (hx : PsAt S m p) (hp : p.1.1 ≤ n) (ha : A.1 a = some (20, i)) (hs : slen i ≤ 100) (hf : ∀ S', PsAt S' m (gon tp n (whP lo hi (nds tp n i p))) → Ly S S' m → f (whV lo hi (nds tp n i p)) S') : Run (d + 8) 161 [.ref m, .ref a, .int lo, .int hi] A S (kI A f) := by
  refine Run.i (C := mX11_readPart) rfl rfl rfl fun J hJ => ?_
  have hk0 := h.1.1.1
  exact sX11_readPart_0 hJ ⟨hk0, wc rfl, cm_needs h hx hp ha hs fun S1 h1 l1 => ⟨hk0, wc rfl, cm_readWhole (h.ly l1) h1 (nds_le hp) fun S2 h2 l2 => kI_i (hf S2 h2 (l1.trans l2))⟩⟩
end
