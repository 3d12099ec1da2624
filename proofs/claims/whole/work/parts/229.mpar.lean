/-! the reference's parser: a trade told ahead -/
def tdO (T : List Row) (t : Nat) (a b : Int32) : Bool := decide ((tr T t).1 = a ∨ (tr T t).1 = b)
def tdY (T : List Row) (a b : Int32) (p : Psr) : Bool := decide (p.1.2.1 = 3 ∧ ¬ nI T.length ≤ p.1.2.2.2.1 ∧ tdO T p.1.2.2.2.1.toNatClampNeg a b = true)
def tdP (T : List Row) (a b : Int32) (p : Psr) : Psr := if tdY T a b p = true then p else if p.1.2.1 = 3 then flw 2 p else flw 1 p
def tdV (T : List Row) (a b : Int32) (p : Psr) : Int32 := if tdY T a b p = true then p.1.2.2.2.1 else 0
section
variable {d : Nat} {A : qA} {S : qS} {m n q : Nat} {tp : Nat → Int32} {p : Psr} {bg : Bool} {td : Tld}
set_option maxRecDepth 20000 in
theorem cm_isOf {t : Nat} {a b : Int32} {f : Bool → qS → Prop} (h : mI A S m) (hr : RdAt A S m q bg td) (ht : t < td.2.1.length) (hl : td.2.1.length ≤ 16) (hf : f (tdO td.2.1 t a b) S) : Run (d + 2) 164 [.ref m, .int (nI t), .int a, .int b] A S (kZ A f) := by
  refine Run.i (C := mX11_isOf) rfl rfl rfl fun J hJ => ?_
  obtain ⟨r4, hq, -, ⟨⟨k0, k1, -⟩, ⟨r1, -⟩, -, -, -, hw, -⟩⟩ := hr
  have e := (hw.2 t ht).1
  refine sX11_isOf_0 hJ ⟨h.1.1, q, r4, k0, q + 1, r1, wc rfl, cm_of (c := 1) (n := 145) rfl k1 (by omega) (by omega) ⟨fun z => ⟨Or.inr rfl, kZ_1 ?_⟩, fun z => ⟨h.1.1, q, r4, k0, q + 1, r1, wc rfl, cm_of (c := 1) (n := 145) rfl k1 (by omega) (by omega) ⟨fun z1 => ⟨Or.inl rfl, kZ_0 ?_⟩, fun z1 => ⟨Or.inr rfl, kZ_1 ?_⟩⟩⟩⟩⟩
  · rwa [show tdO td.2.1 t a b = true from decide_eq_true (Or.inl (e.symm.trans z))] at hf
  · rwa [show tdO td.2.1 t a b = false from decide_eq_false (fun c => c.elim (fun c => z (e.trans c)) (fun c => z1 (e.trans c)))] at hf
  · rwa [show tdO td.2.1 t a b = true from decide_eq_true (Or.inr (e.symm.trans z1))] at hf
set_option maxRecDepth 20000 in
theorem cm_toldAt {a b : Int32} {f : Int32 → qS → Prop} (h : mI A S m) (hx : PsAt S m p) (hr : RdAt A S m q bg td) (hl : td.2.1.length ≤ 16) (hn : p.1.2.1 = 3 → ¬ nI td.2.1.length ≤ p.1.2.2.2.1 → ∃ t, t < td.2.1.length ∧ p.1.2.2.2.1 = nI t) (hf : ∀ S', PsAt S' m (tdP td.2.1 a b p) → Ly S S' m → f (tdV td.2.1 a b p) S') : Run (d + 3) 163 [.ref m, .int a, .int b] A S (kI A f) := by
  refine Run.i (C := mX11_toldAt) rfl rfl rfl fun J hJ => ?_
  have hk0 := h.1.1
  have x2 := hx.1.2.1
  have x4 := hx.1.2.2.2.1
  have hr' := hr
  obtain ⟨r4, hq, -, ⟨⟨k0, k1, -⟩, ⟨r1, -⟩, -, -, -, hw, -⟩⟩ := hr'
  have e0 : gI S (q + 1) (0 : Int32).toNatClampNeg = nI td.2.1.length := hw.1
  have bad : ∀ (k : Int32) S1, ¬ tdY td.2.1 a b p = true → tdP td.2.1 a b p = flw k p → PsAt S1 m (flw k p) → Ly S S1 m → f 0 S1 := by
    intro k S1 c e h1 l1
    have := hf S1 (by rw [e]; exact h1) l1
    rwa [tdV, if_neg c] at this
  refine sX11_toldAt_0 hJ ⟨hk0, fun z => ⟨hk0, hk0, q, r4, k0, q + 1, r1, 145, k1, (show vp_in (nI 0) 145 from vp_n (by decide) (by decide)), ?_⟩, fun z => ⟨hk0, wc rfl, cm_flaw h hx fun S1 h1 l1 => ⟨hk0, wc rfl, cm_over ⟨h.1, h.2.fr fun k => l1.2.2 m k⟩ h1 (q_eqb (fun c => absurd flw_5 (of_decide_eq_false c)) (fun _ => kI_i ?_))⟩⟩⟩
  · have e3 : p.1.2.1 = 3 := x2.symm.trans z
    rw [e0, x4]
    refine ⟨fun z1 => ⟨hk0, wc rfl, cm_flaw h hx fun S1 h1 l1 => ⟨hk0, wc rfl, cm_over ⟨h.1, h.2.fr fun k => l1.2.2 m k⟩ h1 (q_eqb (fun c => absurd flw_5 (of_decide_eq_false c)) (fun _ => kI_i ?_))⟩⟩, fun z1 => ?_⟩
    · have c : ¬ tdY td.2.1 a b p = true := fun c => (of_decide_eq_true c).2.1 z1
      exact bad 2 S1 c (by rw [tdP, if_neg c, if_pos e3]) h1 l1
    · obtain ⟨t, ht, et⟩ := hn e3 z1
      have eo : p.1.2.2.2.1.toNatClampNeg = t := by rw [et, cl_n (by omega)]
      rw [et]
      refine ⟨hk0, hk0, wc rfl, cm_isOf h hr ht hl (And.symm (q_eqb (fun c => ⟨hk0, wc rfl, cm_flaw h hx fun S1 h1 l1 => ⟨hk0, wc rfl, cm_over ⟨h.1, h.2.fr fun k => l1.2.2 m k⟩ h1 (q_eqb (fun c => absurd flw_5 (of_decide_eq_false c)) (fun _ => kI_i ?_))⟩⟩) (fun c => ⟨hk0, wc rfl, cm_over h hx (q_eqb (fun _ => ⟨hk0, kI_i ?_⟩) (fun c5 => absurd (e3.symm.trans (of_decide_eq_true c5)) (by decide)))⟩)))⟩
      · have c : ¬ tdY td.2.1 a b p = true := fun y => by have := (of_decide_eq_true y).2.2; rw [eo, c] at this; exact absurd this (by decide)
        exact bad 2 S1 c (by rw [tdP, if_neg c, if_pos e3]) h1 l1
      · have y : tdY td.2.1 a b p = true := decide_eq_true ⟨e3, z1, by rw [eo]; exact c⟩
        have := hf S (by rw [tdP, if_pos y]; exact hx) Ly.rf
        rw [tdV, if_pos y] at this
        rw [x4]
        exact this
  · have e3 : ¬ p.1.2.1 = 3 := fun c => z (x2.trans c)
    have c : ¬ tdY td.2.1 a b p = true := fun y => e3 (of_decide_eq_true y).1
    exact bad 1 S1 c (by rw [tdP, if_neg c, if_neg e3]) h1 l1
end
