/-! the reference's call ledger -/
/-- over goes with a fault's number -/
def FO (p : Psr) : Prop := (p.1.2.1 = 5 → ¬ p.2.1 ≤ 0) ∧ (¬ p.1.2.1 = 5 → p.2.1 = 0)
theorem tokAt_n5 {tp : Nat → Int32} {n st : Nat} {nu : Int32} {wd : Int64} : ¬ (tokAt tp n st nu wd).2.1 = 5 := by
  intro z
  rw [tokAt] at z
  split at z
  · exact absurd (show (1 : Int32) = 5 from z) (by decide)
  · split at z
    · dsimp only at z
      split at z
      · exact absurd z (by decide)
      · exact absurd z (by decide)
    · split at z
      · dsimp only at z
        split at z
        · exact absurd z (by decide)
        · exact absurd z (by decide)
      · split at z
        · exact absurd (show (4 : Int32) = 5 from z) (by decide)
        · exact absurd (show (0 : Int32) = 5 from z) (by decide)
theorem FO.go {tp : Nat → Int32} {n : Nat} {p : Psr} (h : FO p) : FO (gon tp n p) := by
  by_cases c : p.1.2.1 = 5
  · rw [gon_id c]; exact h
  · have e : gon tp n p = (tokN tp n p.1, p.2) := if_neg c
    rw [e]
    exact ⟨fun z => absurd z tokAt_n5, fun _ => h.2 c⟩
theorem FO.fl {k : Int32} {p : Psr} (h : FO p) (hk : ¬ k ≤ 0) : FO (flw k p) := by
  by_cases c : p.1.2.1 = 5
  · rw [flw_id c]; exact h
  · have e : flw k p = ((p.1.1, 5, p.1.2.2), k, nI p.1.2.2.1) := if_neg c
    rw [e]
    exact ⟨fun _ => hk, fun z => absurd rfl z⟩
theorem FO.it {c : Prop} [Decidable c] {x y : Psr} (h : FO x) (h' : FO y) : FO (if c then x else y) := by
  split
  · exact h
  · exact h'
theorem FO.wh {lo hi : Int32} {p : Psr} (h : FO p) : FO (whP lo hi p) := by
  unfold whP
  exact FO.it (FO.it h (h.fl (by decide))) (h.fl (by decide))
theorem FO.ln {tp : Nat → Int32} {n : Nat} {full : Bool} {bg : Int32} {p : Psr} (h : FO p) : FO (lnP tp n full bg p) := by
  unfold lnP lnF
  exact (FO.it ((FO.it (h.fl (by decide)) h).fl (by decide)) (FO.it (h.fl (by decide)) h)).go
theorem FO.tdd {T : List Row} {a b : Int32} {p : Psr} (h : FO p) : FO (tdP T a b p) := by
  unfold tdP
  exact FO.it h (FO.it (h.fl (by decide)) (h.fl (by decide)))
theorem FO.stt {L : List (Int32 × Int32)} {t : Int32} {p : Psr} (h : FO p) : FO (stP L t p) := by
  unfold stP
  exact FO.it (h.fl (by decide)) h
theorem FO.t4 {tp : Nat → Int32} {n : Nat} {hs lp hp : Int32} {p : Psr} (h : FO p) : FO (t4P tp n hs lp hp p) := by
  unfold t4P
  unfold rdw
  exact h.wh.go.wh.go.wh.go.wh.go
theorem FO.ud {tp : Nat → Int32} {n : Nat} {p : Psr} (b : FO p) : FO (gon tp n (whP 0 999999 (gon tp n (udP p)))) := by
  unfold udP
  exact (FO.it b (FO.it b (b.fl (by decide)))).go.wh.go
theorem FO.li {tp : Nat → Int32} {n : Nat} {bg : Bool} {td : Tld} {p : Psr} (h : FO p) : FO (liP tp n bg td p) := by
  unfold liP
  refine FO.it ?_ (FO.it ?_ (FO.it ?_ (FO.it ?_ (FO.it ?_ (FO.it ?_ (h.fl (by decide)))))))
  · unfold ldP ld1 nds
    have a := (FO.it (c := bg = true) (h.fl (k := 3) (by decide)) h).go (tp := tp) (n := n)
    exact (FO.it a (a.fl (by decide))).go.wh.go
  · unfold trP
    rw [if_neg (by decide)]
    exact h.ln.t4
  · unfold trP
    rw [if_pos rfl]
    unfold rlP
    exact (FO.it (h.ln.t4.fl (by decide)) h.ln.t4).go
  · unfold slP
    exact h.ln.t4
  · unfold usP us2
    exact h.ln.tdd.stt.go.wh.go
  · unfold gnP gn2
    exact FO.ud h.ln.tdd.stt.go
theorem FO.ra {tp : Nat → Int32} {n : Nat} : ∀ (g : Nat) {p : Psr} {bg : Bool} {td : Tld}, FO p → FO (raG tp n g p bg td).1
  | 0, _, _, _, h => h
  | g + 1, p, bg, td, h => by
    unfold raG
    split
    · exact FO.ra g h.li.go
    · exact h.li
theorem FO.ex {R : Psr × Bool × Tld} (h : FO R.1) : FO (exR R) := by
  unfold exR ex3 ex2 ex1
  have a := FO.it (c := R.1.1.2.1 = 1) h (h.fl (k := 1) (by decide))
  have b := FO.it (c := R.2.1 = true) a (a.fl (k := 6) (by decide))
  exact FO.it b (FO.it (b.fl (by decide)) b)
theorem exR_good {R : Psr × Bool × Tld} (h : ¬ (exR R).1.2.1 = 5) : shortT R.2.2.1 999 R.2.2.2.1 = false := by
  unfold exR ex3 at h
  by_cases c : (ex2 R.2.1 R.1).1.2.1 = 5
  · rw [if_pos c] at h
    exact absurd c h
  · rw [if_neg c] at h
    cases e : shortT R.2.2.1 999 R.2.2.2.1
    · rfl
    · rw [if_pos e] at h
      exact absurd flw_5 h
/-- what a text tells: the fault and its place (the state of the parser), and the ledger -/
def txR (tp : Nat → Int32) (n : Nat) (nu : Int32) (wd : Int64) (wr : Int32) : Psr × Bool × Tld := raG tp n (n + 1) (tokN tp n (0, 0, 0, nu, wd), 0, wr) false td0
theorem txR_fo {tp : Nat → Int32} {n : Nat} {nu : Int32} {wd : Int64} {wr : Int32} : FO (exR (txR tp n nu wd wr)) := FO.ex (FO.ra _ ⟨fun z => absurd z tokAt_n5, fun _ => rfl⟩)
def uLed (V : VSt) (x : Int32) (nu : Int32) (wd : Int64) (wr : Int32) : VSt × Int32 := if x < 0 then (setT V 2, -1) else if x ≤ nI (vN V) then (if (exR (txR (vTape V) x.toNatClampNeg nu wd wr)).2.1 ≤ 0 then ((vTape V, 0, some (txR (vTape V) x.toNatClampNeg nu wd wr).2.2, (txR (vTape V) x.toNatClampNeg nu wd wr).2.2.2.1, [], [], 0, 0, -1), nI (txR (vTape V) x.toNatClampNeg nu wd wr).2.2.2.1.length) else ((vTape V, 0, vLed V, vNow V, vPast V, vImg V, 4, (exR (txR (vTape V) x.toNatClampNeg nu wd wr)).2.1, (exR (txR (vTape V) x.toNatClampNeg nu wd wr)).2.2), -1)) else (setT V 2, -1)
