/-! the reference's parser: the lines of trades and splits -/

def rdw (tp : Nat → Int32) (n : Nat) (lo hi : Int32) (p : Psr) : Psr := gon tp n (whP lo hi p)
theorem gw_le {tp : Nat → Int32} {n : Nat} {lo hi : Int32} {p : Psr} (h : p.1.1 ≤ n) : (gon tp n (whP lo hi p)).1.1 ≤ n := gon_le (by rw [whP_1]; exact h)
theorem rdw_le {tp : Nat → Int32} {n : Nat} {lo hi : Int32} {p : Psr} (h : p.1.1 ≤ n) : (rdw tp n lo hi p).1.1 ≤ n := gon_le (by rw [whP_1]; exact h)
def t4P (tp : Nat → Int32) (n : Nat) (hs lp hp : Int32) (p : Psr) : Psr := rdw tp n lp hp (rdw tp n 1 hs (rdw tp n 0 999 (rdw tp n 0 2 p)))
def t4R (tp : Nat → Int32) (n : Nat) (kd hs lp hp ru : Int32) (p : Psr) : Row := (kd, whV 0 2 p, whV 0 999 (rdw tp n 0 2 p), whV 1 hs (rdw tp n 0 999 (rdw tp n 0 2 p)), whV lp hp (rdw tp n 1 hs (rdw tp n 0 999 (rdw tp n 0 2 p))), ru)
theorem t4P_le {tp : Nat → Int32} {n : Nat} {hs lp hp : Int32} {p : Psr} (h : p.1.1 ≤ n) : (t4P tp n hs lp hp p).1.1 ≤ n := by
  unfold t4P
  exact rdw_le (rdw_le (rdw_le (rdw_le h)))
def trP (tp : Nat → Int32) (n : Nat) (kd : Int32) (full : Bool) (bg : Bool) (p : Psr) : Psr := if kd = 1 then rlP tp n (t4P tp n 999 0 999 (lnP tp n full (bI bg) p)) else t4P tp n 999 0 999 (lnP tp n full (bI bg) p)
def trW (tp : Nat → Int32) (n : Nat) (kd : Int32) (full : Bool) (bg : Bool) (p : Psr) : Row := t4R tp n kd 999 0 999 (if kd = 1 then rlV (t4P tp n 999 0 999 (lnP tp n full (bI bg) p)) else -2) (lnP tp n full (bI bg) p)
def slP (tp : Nat → Int32) (n : Nat) (full : Bool) (bg : Bool) (p : Psr) : Psr := t4P tp n 9 1 9 (lnP tp n full (bI bg) p)
def slW (tp : Nat → Int32) (n : Nat) (full : Bool) (bg : Bool) (p : Psr) : Row := t4R tp n 2 9 1 9 (-2) (lnP tp n full (bI bg) p)
/-- a row more, if nothing was wrong -/
def rwT (P : Psr) (x : Row) (td : Tld) : Tld := if P.1.2.1 = 5 then td else (td.1, td.2.1 ++ [x], td.2.2)
def fuT (td : Tld) : Bool := decide (nI td.2.1.length = 16)
def fuS (td : Tld) : Bool := fuT td || decide (nI (spl td.2.1 td.2.1.length) = 4)
theorem RdAt.row {A : qA} {S1 S' : qS} {m q : Nat} {bg : Bool} {td : Tld} {x : Row} (hr : RdAt A S1 m q bg td) (hw : RwAt S' (q + 1) (td.2.1 ++ [x])) (g1 : ∀ b k, ¬ b = q + 1 → gI S' b k = gI S1 b k) (g3 : ∀ b k, gR S' b k = gR S1 b k) : RdAt A S' m q bg (td.1, td.2.1 ++ [x], td.2.2) := by
  obtain ⟨y1, y2, y3, yk, ⟨r1, r2, r3, r4, r5⟩, z1, z2, z3, z4, z5, z6⟩ := hr
  exact ⟨(g3 _ _).trans y1, y2, (g1 _ _ (by omega)).trans y3, yk, ⟨(g3 _ _).trans r1, (g3 _ _).trans r2, (g3 _ _).trans r3, (g3 _ _).trans r4, (g3 _ _).trans r5⟩, (g1 _ _ (by omega)).trans z1, (g1 _ _ (by omega)).trans z2, (g1 _ _ (by omega)).trans z3, hw, fun i hi => by rw [g1 _ _ (by omega), g1 _ _ (by omega)]; exact z5 i hi, fun i hi => by rw [g1 _ _ (by omega), g1 _ _ (by omega)]; exact z6 i hi⟩
theorem PsAt.out {S1 S' : qS} {m : Nat} {p : Psr} (h : PsAt S1 m p) (g : ∀ k, gI S' m k = gI S1 m k) (gl : gL S' m 14 = gL S1 m 14) : PsAt S' m p := by
  obtain ⟨⟨x1, x2, x3, x4, x5⟩, x6, x7⟩ := h
  exact ⟨⟨(g _).trans x1, (g _).trans x2, (g _).trans x3, (g _).trans x4, gl.trans x5⟩, (g _).trans x6, (g _).trans x7⟩
section
variable {d e : Nat} {A : qA} {S : qS} {m n q : Nat} {tp : Nat → Int32} {p : Psr} {bg : Bool} {td : Tld}
set_option maxRecDepth 20000 in
theorem cm_four {F : Bool} {hs lp hp : Int32} {k : Int32 → Int32 → Int32 → Int32 → qS → Prop} (h : TxAt A S m tp n) (hx : PsAt S m p) (hp' : p.1.1 ≤ n) (hr : RdAt A S m q bg td) (hf : ∀ S', PsAt S' m (t4P tp n hs lp hp (lnP tp n F (bI bg) p)) → Ly S S' m → k (t4R tp n 0 hs lp hp 0 (lnP tp n F (bI bg) p)).2.1 (t4R tp n 0 hs lp hp 0 (lnP tp n F (bI bg) p)).2.2.1 (t4R tp n 0 hs lp hp 0 (lnP tp n F (bI bg) p)).2.2.2.1 (t4R tp n 0 hs lp hp 0 (lnP tp n F (bI bg) p)).2.2.2.2.1 S') : Run (d + 3) 162 [.ref m, .int (bI F)] A S (kV A fun S1 => A.1 m = some (11, 0) ∧ wcat [] ≤ 8 ∧ Run (d + 3) 160 [.ref m, .int 0, .int 2] A S1 (kI A fun r1 S2 => A.1 m = some (11, 0) ∧ wcat [] ≤ 8 ∧ Run (d + 3) 160 [.ref m, .int 0, .int 999] A S2 (kI A fun r2 S3 => A.1 m = some (11, 0) ∧ wcat [] ≤ 8 ∧ Run (d + 3) 160 [.ref m, .int 1, .int hs] A S3 (kI A fun r3 S4 => A.1 m = some (11, 0) ∧ wcat [] ≤ 8 ∧ Run (d + 3) 160 [.ref m, .int lp, .int hp] A S4 (kI A fun r4 S5 => k r1 r2 r3 r4 S5))))) := by
  have hk0 := h.1.1.1
  unfold t4P t4R rdw at hf
  refine cm_lineBegins h hx hp' hr.1 hr.2.2.2.1.1 fun S1 h1 l1 => ?_
  rw [hr.2.2.1] at h1
  have hp1 := lnP_le (tp := tp) (full := F) (bg := bI bg) hp'
  generalize lnP tp n F (bI bg) p = p1 at h1 hf hp1
  refine ⟨hk0, wc rfl, cm_readWhole (h.ly l1) h1 hp1 fun S2 h2 l2 => ?_⟩
  have hp2 := gw_le (tp := tp) (lo := 0) (hi := 2) hp1
  generalize gon tp n (whP 0 2 p1) = p2 at h2 hf hp2
  have l := l1.trans l2
  refine ⟨hk0, wc rfl, cm_readWhole (h.ly l) h2 hp2 fun S3 h3 l3 => ?_⟩
  have hp3 := gw_le (tp := tp) (lo := 0) (hi := 999) hp2
  generalize gon tp n (whP 0 999 p2) = p3 at h3 hf hp3
  have l := l.trans l3
  refine ⟨hk0, wc rfl, cm_readWhole (h.ly l) h3 hp3 fun S4 h4 l4 => ?_⟩
  have hp4 := gw_le (tp := tp) (lo := 1) (hi := hs) hp3
  generalize gon tp n (whP 1 hs p3) = p4 at h4 hf hp4
  have l := l.trans l4
  exact ⟨hk0, wc rfl, cm_readWhole (h.ly l) h4 hp4 fun S5 h5 l5 => hf S5 h5 (l.trans l5)⟩
set_option maxRecDepth 20000 in
theorem cm_rowFin {P : Psr} {x : Row} {S1 : qS} {f : qS → Prop} (h : TxAt A S m tp n) (hr : RdAt A S m q bg td) (hl : td.2.1.length ≤ 16) (h1 : PsAt S1 m P) (l : Ly S S1 m) (hf : ∀ S', PsAt S' m P → RdAt A S' m q bg (rwT P x td) → Lz S S' m q → f S') : Run (d + 1) 154 [.ref m] A S1 (kZ A fun b S2 => (bI b = 0 → A.1 m = some (11, 0) ∧ ∃ q1, gR S2 m 4 = some q1 ∧ A.1 q1 = some (10, 0) ∧ ∃ q2, gR S2 q1 4 = some q2 ∧ wcat [] ≤ 8 ∧ Run (e + 1) 147 [.ref q2, .int x.1, .int x.2.1, .int x.2.2.1, .int x.2.2.2.1, .int x.2.2.2.2.1, .int x.2.2.2.2.2] A S2 (kV A fun S3 => kV A f none A S3)) ∧ (¬ bI b = 0 → kV A f none A S2)) := by
  have hr1 := hr.ly l
  refine cm_over (h.ly l).1 h1 (q_eqb (fun c => ⟨h.1.1.1, q, hr1.1, hr1.2.2.2.1.1, q + 1, hr1.2.2.2.2.1.1, wc rfl, cm_adds hr1.2.2.2.1.2.1 (by omega) hr1.2.2.2.2.2.2.2.2.1 (by omega) fun S' hw g1 g2 g3 => kV_i ?_⟩) (fun c => kV_i ?_))
  · have hq := hr.2.1
    refine hf S' (h1.out (fun k => g1 _ _ (by omega)) (g2 _ _)) ?_ ⟨fun b k z z' => (g1 b k (by omega)).trans (l.1 b k z), fun b k z => (g2 b k).trans (l.2.1 b k z), fun b k => (g3 b k).trans (l.2.2 b k)⟩
    rw [rwT, if_neg (of_decide_eq_false c)]
    exact hr1.row hw g1 g3
  · refine hf S1 h1 ?_ l.lz
    rw [rwT, if_pos (of_decide_eq_true c)]
    exact hr1
set_option maxRecDepth 20000 in
theorem cm_readTrade {kd : Int32} {f : qS → Prop} (h : TxAt A S m tp n) (hx : PsAt S m p) (hp : p.1.1 ≤ n) (hr : RdAt A S m q bg td) (hl : td.2.1.length ≤ 16) (hf : ∀ S', PsAt S' m (trP tp n kd (fuT td) bg p) → RdAt A S' m q bg (rwT (trP tp n kd (fuT td) bg p) (trW tp n kd (fuT td) bg p) td) → Lz S S' m q → f S') : Run (d + 8) 169 [.ref m, .int kd] A S (kV A f) := by
  refine Run.i (C := mX11_readTrade) rfl rfl rfl fun J hJ => ?_
  have hk0 := h.1.1.1
  refine sX11_readTrade_0 hJ ⟨hk0, wc rfl, cm_isFull h.1 hr ⟨hk0, wc rfl, cm_four (F := fuT td) h hx hp hr fun S1 h1 l1 => ?_⟩⟩
  unfold trP trW at hf
  have hp0 := lnP_le (tp := tp) (full := fuT td) (bg := bI bg) hp
  generalize e0 : lnP tp n (fuT td) (bI bg) p = p0 at h1 hf hp0 ⊢
  have hp4 := t4P_le (tp := tp) (hs := 999) (lp := 0) (hp := 999) hp0
  refine ⟨fun z => ⟨hk0, wc rfl, ?_⟩, fun z => ⟨hk0, wc rfl, ?_⟩⟩
  · rw [if_neg z, if_neg z] at hf
    exact cm_rowFin (x := t4R tp n kd 999 0 999 (-2) p0) h hr hl h1 l1 hf
  · rw [if_pos z, if_pos z] at hf
    generalize t4P tp n 999 0 999 p0 = P4 at h1 hf hp4 ⊢
    exact cm_readRule (h.ly l1) h1 hp4 fun S2 h2 l2 => ⟨hk0, wc rfl, cm_rowFin (x := t4R tp n kd 999 0 999 (rlV P4) p0) h hr hl h2 (l1.trans l2) hf⟩
set_option maxRecDepth 20000 in
theorem cm_readSplit {f : qS → Prop} (h : TxAt A S m tp n) (hx : PsAt S m p) (hp : p.1.1 ≤ n) (hr : RdAt A S m q bg td) (hl : td.2.1.length ≤ 16) (hf : ∀ S', PsAt S' m (slP tp n (fuS td) bg p) → RdAt A S' m q bg (rwT (slP tp n (fuS td) bg p) (slW tp n (fuS td) bg p) td) → Lz S S' m q → f S') : Run (d + 8) 171 [.ref m] A S (kV A f) := by
  refine Run.i (C := mX11_readSplit) rfl rfl rfl fun J hJ => ?_
  have hk0 := h.1.1.1
  have hr' := hr
  obtain ⟨r4, hq, -, ⟨⟨k0, k1, -⟩, ⟨r1, -⟩, -, -, -, hw, -⟩⟩ := hr'
  have fin : ∀ F, fuS td = F → ∀ S1, PsAt S1 m (t4P tp n 9 1 9 (lnP tp n F (bI bg) p)) → Ly S S1 m → ∀ S', PsAt S' m (t4P tp n 9 1 9 (lnP tp n F (bI bg) p)) → RdAt A S' m q bg (rwT (t4P tp n 9 1 9 (lnP tp n F (bI bg) p)) (t4R tp n 2 9 1 9 (-2) (lnP tp n F (bI bg) p)) td) → Lz S S' m q → f S' := by
    intro F e S1 h1 l1 S'
    rw [slP, slW, e] at hf
    exact hf S'
  refine sX11_readSplit_0 hJ ⟨hk0, wc rfl, cm_isFull h.1 hr (And.symm (q_eqb (fun c => ⟨hk0, q, r4, k0, q + 1, r1, wc rfl, cm_splitsIn k1 (by omega) (by omega) hw ⟨fun z => ⟨hk0, wc rfl, cm_four (F := false) h hx hp hr fun S1 h1 l1 => ⟨hk0, wc rfl, cm_rowFin (x := t4R tp n 2 9 1 9 (-2) (lnP tp n false (bI bg) p)) h hr hl h1 l1 (fin false ?_ S1 h1 l1)⟩⟩, fun z => ⟨hk0, wc rfl, cm_four (F := true) h hx hp hr fun S1 h1 l1 => ⟨hk0, wc rfl, cm_rowFin (x := t4R tp n 2 9 1 9 (-2) (lnP tp n true (bI bg) p)) h hr hl h1 l1 (fin true ?_ S1 h1 l1)⟩⟩⟩⟩) (fun c => ⟨hk0, wc rfl, cm_four (F := true) h hx hp hr fun S1 h1 l1 => ⟨hk0, wc rfl, cm_rowFin (x := t4R tp n 2 9 1 9 (-2) (lnP tp n true (bI bg) p)) h hr hl h1 l1 (fin true ?_ S1 h1 l1)⟩⟩)))⟩
  · rw [fuS, fuT, c, decide_eq_false z]; rfl
  · rw [fuS, fuT, c, decide_eq_true z]; rfl
  · rw [fuS, fuT, c]; rfl
end
