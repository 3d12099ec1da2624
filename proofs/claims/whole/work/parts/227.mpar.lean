/-! the reference's parser: a rule; how a line begins -/
def rlV (p : Psr) : Int32 := if wrd 9 p = true then 0 else if wrd 10 p = true then 1 else if wrd 11 p = true then 2 else if wrd 12 p = true then 3 else -1
def rlP (tp : Nat → Int32) (n : Nat) (p : Psr) : Psr := gon tp n (if rlV p = -1 then flw 1 p else p)
def lnF (full : Bool) (p : Psr) : Psr := if full = true then flw 5 p else p
def lnP (tp : Nat → Int32) (n : Nat) (full : Bool) (bg : Int32) (p : Psr) : Psr := gon tp n (if bg = 0 then flw 6 (lnF full p) else lnF full p)
theorem lnF_1 {full : Bool} {p : Psr} : (lnF full p).1.1 = p.1.1 := by
  rw [lnF]
  split
  · exact flw_1
  · rfl
theorem rlP_le {tp : Nat → Int32} {n : Nat} {p : Psr} (h : p.1.1 ≤ n) : (rlP tp n p).1.1 ≤ n := by
  rw [rlP]
  refine gon_le ?_
  split
  · rw [flw_1]; exact h
  · exact h
theorem lnP_le {tp : Nat → Int32} {n : Nat} {full : Bool} {bg : Int32} {p : Psr} (h : p.1.1 ≤ n) : (lnP tp n full bg p).1.1 ≤ n := by
  rw [lnP]
  refine gon_le ?_
  split
  · rw [flw_1, lnF_1]; exact h
  · rw [lnF_1]; exact h
section
variable {d : Nat} {A : qA} {S : qS} {m n : Nat} {tp : Nat → Int32} {p : Psr}
set_option maxRecDepth 20000 in
theorem cm_readRule {f : Int32 → qS → Prop} (h : TxAt A S m tp n) (hx : PsAt S m p) (hp : p.1.1 ≤ n) (hf : ∀ S', PsAt S' m (rlP tp n p) → Ly S S' m → f (rlV p) S') : Run (d + 7) 170 [.ref m] A S (kI A f) := by
  refine Run.i (C := mX11_readRule) rfl rfl rfl fun J hJ => ?_
  have hk0 := h.1.1.1
  have good : ∀ (v : Int32) S2, rlV p = v → ¬ v = -1 → PsAt S2 m (gon tp n p) → Ly S S2 m → f v S2 := by
    intro v S2 e hv h2 l2
    have := hf S2 (by rw [rlP, e, if_neg hv]; exact h2) l2
    rwa [e] at this
  refine sX11_readRule_0 hJ fun q hq => ⟨hk0, wc rfl, cm_isWord h.1 hx hq (by decide) (q_eqb (fun c1 => fun q hq => ⟨hk0, wc rfl, cm_isWord h.1 hx hq (by decide) (q_eqb (fun c2 => fun q hq => ⟨hk0, wc rfl, cm_isWord h.1 hx hq (by decide) (q_eqb (fun c3 => fun q hq => ⟨hk0, wc rfl, cm_isWord h.1 hx hq (by decide) (q_eqb (fun c4 => ?_) (fun c4 => ?_))⟩) (fun c3 => ?_))⟩) (fun c2 => ?_))⟩) (fun c1 => ?_))⟩
  · have e : rlV p = -1 := by rw [rlV, c1, c2, c3, c4]; rfl
    refine ⟨fun z => absurd rfl z, fun _ => ⟨hk0, wc rfl, cm_flaw h.1 hx fun S1 h1 l1 => ⟨hk0, wc rfl, cm_gon (h.ly l1) h1 (by rw [flw_1]; exact hp) fun S2 h2 l2 => kI_i ?_⟩⟩⟩
    have := hf S2 (by rw [rlP, e, if_pos rfl]; exact h2) (l1.trans l2)
    rwa [e] at this
  · exact ⟨fun _ => ⟨hk0, wc rfl, cm_gon h hx hp fun S2 h2 l2 => kI_i (good 3 S2 (by rw [rlV, c1, c2, c3, c4]; rfl) (by decide) h2 l2)⟩, fun z => absurd z (by decide)⟩
  · exact ⟨fun _ => ⟨hk0, wc rfl, cm_gon h hx hp fun S2 h2 l2 => kI_i (good 2 S2 (by rw [rlV, c1, c2, c3]; rfl) (by decide) h2 l2)⟩, fun z => absurd z (by decide)⟩
  · exact ⟨fun _ => ⟨hk0, wc rfl, cm_gon h hx hp fun S2 h2 l2 => kI_i (good 1 S2 (by rw [rlV, c1, c2]; rfl) (by decide) h2 l2)⟩, fun z => absurd z (by decide)⟩
  · exact ⟨fun _ => ⟨hk0, wc rfl, cm_gon h hx hp fun S2 h2 l2 => kI_i (good 0 S2 (by rw [rlV, c1]; rfl) (by decide) h2 l2)⟩, fun z => absurd z (by decide)⟩
set_option maxRecDepth 20000 in
theorem cm_lineBegins {full : Bool} {q : Nat} {f : qS → Prop} (h : TxAt A S m tp n) (hx : PsAt S m p) (hp : p.1.1 ≤ n) (h4 : gR S m 4 = some q) (hq : A.1 q = some (10, 0)) (hf : ∀ S', PsAt S' m (lnP tp n full (gI S q 0) p) → Ly S S' m → f S') : Run (d + 3) 162 [.ref m, .int (bI full)] A S (kV A f) := by
  refine Run.i (C := mX11_lineBegins) rfl rfl rfl fun J hJ => ?_
  have hk0 := h.1.1.1
  refine sX11_lineBegins_0 hJ (q_eqb (fun c => ⟨hk0, q, h4, hq, fun z => ⟨hk0, wc rfl, cm_gon h hx hp fun S2 h2 l2 => kV_i (hf S2 ?_ l2)⟩, fun z => ⟨hk0, wc rfl, cm_flaw h.1 hx fun S1 h1 l1 => ⟨hk0, wc rfl, cm_gon (h.ly l1) h1 (by rw [flw_1]; exact hp) fun S2 h2 l2 => kV_i (hf S2 ?_ (l1.trans l2))⟩⟩⟩) (fun c => ⟨hk0, wc rfl, cm_flaw h.1 hx fun S0 h0 l0 => ⟨hk0, q, (l0.2.2 m 4).trans h4, hq, fun z => ⟨hk0, wc rfl, cm_gon (h.ly l0) h0 (by rw [flw_1]; exact hp) fun S2 h2 l2 => kV_i (hf S2 ?_ (l0.trans l2))⟩, fun z => ⟨hk0, wc rfl, cm_flaw (h.ly l0).1 h0 fun S1 h1 l1 => ⟨hk0, wc rfl, cm_gon ((h.ly l0).ly l1) h1 (by rw [flw_1, flw_1]; exact hp) fun S2 h2 l2 => kV_i (hf S2 ?_ ((l0.trans l1).trans l2))⟩⟩⟩⟩))
  · rw [lnP, if_neg z, lnF, c, if_neg (by decide)]; exact h2
  · rw [lnP, if_pos z, lnF, c, if_neg (by decide)]; exact h2
  · rw [l0.1 q 0 (by omega)] at z
    rw [lnP, if_neg z, lnF, c, if_pos rfl]; exact h2
  · rw [l0.1 q 0 (by omega)] at z
    rw [lnP, if_pos z, lnF, c, if_pos rfl]; exact h2
end
