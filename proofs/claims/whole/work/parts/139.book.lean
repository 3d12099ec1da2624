/-! Book.bookAll -/
/-- lots by papers, pieces, open rows, what is lost, firstPiece, pieceCount -/
abbrev CSt : Type := (Nat → List Lot) × List CPie × List Nat × Int64 × (Nat → Int32) × (Nat → Int32)
def c0 : CSt := (fun _ => [], [], [], 0, fun _ => 0, fun _ => 0)
def BkS (A : qA) (S : qS) (B : Nat) (w : Int32) (s : CSt) (o pl : Nat → Int32) : Prop := BkAt A S B s.1 s.2.1 s.2.2.1 s.2.2.2.1 (w, s.2.2.2.2.1, s.2.2.2.2.2, o, pl)
def cBuy (w : Int32) (pa : Nat) (t day sh pr : Int32) (s : CSt) : CSt := (upH s.1 pa (buyGo w day pa s.2.2.1 s.2.1 (s.1 pa ++ [newLot t day sh pr])).2, (buyGo w day pa s.2.2.1 s.2.1 (s.1 pa ++ [newLot t day sh pr])).1, s.2.2.1.filter (opn (buyGo w day pa s.2.2.1 s.2.1 (s.1 pa ++ [newLot t day sh pr])).1), s.2.2.2)
def cSplit (pa : Nat) (a b : Int32) (s : CSt) : CSt := (upH s.1 pa (spL a b (s.1 pa)), spG a b pa s.2.2.1 s.2.1, s.2.2.1.filter (opn (spG a b pa s.2.2.1 s.2.1)), spZ a b (s.1 pa) s.2.2.2.1, s.2.2.2.2)
def cSell (w : Int32) (pa t : Nat) (day sh pr rule : Int32) (s : CSt) : CSt := (upH s.1 pa (sellAll w pa day sh pr rule s.2.1 (s.1 pa) s.2.2.1).2.1, (sellAll w pa day sh pr rule s.2.1 (s.1 pa) s.2.2.1).1, (sellAll w pa day sh pr rule s.2.1 (s.1 pa) s.2.2.1).2.2, s.2.2.2.1, upF s.2.2.2.2.1 t (nI s.2.1.length), upF s.2.2.2.2.2 t (nI (sellGo rule 40 sh (s.1 pa)).1.length))
/-- a trade as it may be told -/
def vRow (r : Row) : Prop := (r.1 = 0 ∨ r.1 = 1 ∨ r.1 = 2) ∧ (∃ p, p < 3 ∧ r.2.1 = nI p) ∧ (∃ d, d ≤ 999 ∧ r.2.2.1 = nI d) ∧ (r.1 = 2 → (∃ a, 1 ≤ a ∧ a ≤ 9 ∧ r.2.2.2.1 = nI a) ∧ ∃ b, 1 ≤ b ∧ b ≤ 9 ∧ r.2.2.2.2.1 = nI b) ∧ (¬ r.1 = 2 → (∃ s, 1 ≤ s ∧ s ≤ 999 ∧ r.2.2.2.1 = nI s) ∧ ∃ v, v ≤ 999 ∧ r.2.2.2.2.1 = nI v) ∧ (r.1 = 1 → ∃ u, u ≤ 3 ∧ r.2.2.2.2.2 = nI u)
def paF (r : Row) : Nat := r.2.1.toNatClampNeg
theorem vRow.pa {r : Row} (h : vRow r) : paF r < 3 ∧ r.2.1 = nI (paF r) := by
  obtain ⟨p, hp, e⟩ := h.2.1
  unfold paF
  rw [e, cl_n (by omega)]
  exact ⟨hp, rfl⟩
def cStep (w : Int32) (T : List Row) (t : Nat) (s : CSt) : Option CSt :=
  if (tr T t).1 = 0 then some (cBuy w (paF (tr T t)) (nI t) (tr T t).2.2.1 (tr T t).2.2.2.1 (tr T t).2.2.2.2.1 s)
  else if (tr T t).1 = 2 then some (cSplit (paF (tr T t)) (tr T t).2.2.2.1 (tr T t).2.2.2.2.1 s)
  else if (tr T t).2.2.2.1 ≤ shSum (s.1 (paF (tr T t))) (s.1 (paF (tr T t))).length then some (cSell w (paF (tr T t)) t (tr T t).2.2.1 (tr T t).2.2.2.1 (tr T t).2.2.2.2.1 (tr T t).2.2.2.2.2 s)
  else none
def cGo (w last : Int32) (T : List Row) : List Nat → CSt → Bool × CSt
  | [], s => (true, s)
  | t :: Q, s => if dayF T t ≤ last then (match cStep w T t s with | some s' => cGo w last T Q s' | none => (false, s)) else (true, s)
def cRoom (s : CSt) (pa : Nat) : Prop := (s.1 pa).length + 1 + s.2.2.1.length ≤ 40 ∧ s.2.1.length + (s.1 pa).length ≤ 666
def cFit (w last : Int32) (T : List Row) : List Nat → CSt → Prop
  | [], _ => True
  | t :: Q, s => dayF T t ≤ last → cRoom s (paF (tr T t)) ∧ ∀ s', cStep w T t s = some s' → cFit w last T Q s'
section
variable {d : Nat} {A : qA} {S : qS} {B : Nat} {H : Nat → List Lot} {G : List CPie} {O : List Nat} {z : Int64} {E : BkE}
set_option maxRecDepth 20000 in
set_option maxHeartbeats 4000000 in
theorem ct_bookAll {a r : Nat} {w last : Int32} {T : List Row} {f : Bool → qS → Prop} (h : BkAt A S B H G O z E) (hT : TrAt A S a r T) (hab : a + 7 ≤ B ∨ B + 144 ≤ a) (hv : ∀ i, i < T.length → vRow (tr T i)) (hok : cFit w last T (ordL (dayF T) T.length) c0) (hf : ∀ S' o pl, BkS A S' B w (cGo w last T (ordL (dayF T) T.length) c0).2 o pl → (∀ i, i < T.length → o i = nI (ot (ordL (dayF T) T.length) i)) → (∀ i, i < T.length → pl (ot (ordL (dayF T) T.length) i) = nI i) → Fr S S' B (B + 144) → f (cGo w last T (ordL (dayF T) T.length) c0).1 S') : Run (d + 5) 1 [.ref B, .ref a, .int w, .int last] A S (kZ A f) := by
  refine Run.i (C := mX0_bookAll) rfl rfl rfl fun J hJ => ?_
  have bn := fun i (hi : i < T.length) => ordL_ot (D := dayF T) (n := T.length) hi
  have ql := ordL_len (dayF T) T.length
  generalize hQd : ordL (dayF T) T.length = Q at hok hf bn ql
  generalize hR : cGo w last T Q c0 = R at hf
  have loop : ∀ (Q' P : List Nat) (s : CSt) (o pl : Nat → Int32) (Sj : qS) (w2 w5 w6 w7 : Option Value), Q = P ++ Q' → (∀ i, i < T.length → o i = nI (ot Q i)) → (∀ i, i < T.length → pl (ot Q i) = nI i) → BkS A Sj B w s o pl → Fr S Sj B (B + 144) → cFit w last T Q' s → cGo w last T Q' s = R → J 13 [some (.ref B), some (.ref a), w2, some (.int last), some (.int (nI P.length)), w5, w6, w7] [] A Sj := by
    intro Q'
    induction Q' with
    | nil =>
      intro P s o pl Sj w2 w5 w6 w7 hQ ho hpl hB hr hk he
      refine sX0_bookAll_13 hJ ?_
      obtain ⟨⟨t0, -⟩, -, hC, hl, hr24⟩ := hT.fr hr (by omega)
      have hPQ : P.length = T.length := by rw [← ql, hQ, List.append_nil]
      rw [cGo] at he
      simp only [t0, hC.1, hPQ, nIle (show T.length ≤ 100000 by omega) (show T.length ≤ 100000 by omega), Nat.le_refl, not_true_eq_false, false_imp_iff, true_imp_iff, Option.some.injEq, Prod.mk.injEq, exists_eq_left', exists_eq_left, true_and, and_true, and_self, true_or, or_true, forall_const, exists_const, exists_and_left, wcat, Nat.zero_le, Nat.reduceLeDiff, Int32.lt_irrefl, not_false_eq_true, Nat.zero_add, forall_eq]
      subst he
      exact kZ_1 (hf Sj o pl hB ho hpl hr)
    | cons t Q' ih =>
      intro P s o pl Sj w2 w5 w6 w7 hQ ho hpl hB hr hk he
      refine sX0_bookAll_13 hJ ?_
      obtain ⟨⟨t0, t1, t2, t3, t4, t5, t6⟩, ⟨s0, s1, s2, s3, s4, s5, s6⟩, hC, hl, hr24⟩ := hT.fr hr (by omega)
      have hPQ : T.length = P.length + 1 + Q'.length := by rw [← ql, hQ, List.length_append, List.length_cons]; omega
      have ko : ot Q P.length = t := by rw [hQ]; exact ot_mid
      have ht : t < T.length := by rw [← ko]; exact bn _ (by omega)
      obtain ⟨c1, c2, c3, c4, c5, c6⟩ := hC.2 t ht
      obtain ⟨hpa, epa⟩ := (hv t ht).pa
      have hB0 := hB
      obtain ⟨⟨l0, l1, l13, l14, l15, l16, l17⟩, ⟨q0, q1, q2, q3, q4, q5, q6, q7⟩, -, -, -, ⟨-, -, -, -, x5, -⟩, -⟩ := hB
      have eo : gI Sj (B + 15) P.length = nI t := by rw [x5 _ (by omega)]; show o P.length = _; rw [ho _ (by omega), ko]
      have c24 : ((24 : Int32) ≤ nI P.length) = False := by rw [show (24 : Int32) = nI 24 from rfl, nIle (by omega) (by omega)]; simp; omega
      rw [epa] at c2
      simp only [t0, t1, t2, t3, t4, t5, t6, s1, s2, s3, s4, s5, s6, hC.1, nIle (show T.length ≤ 100000 by omega) (show P.length ≤ 100000 by omega), c24, l0, q4, l15, cl_n (show P.length ≤ 100000 by omega), vp_n (show P.length < 24 by omega) (show 24 ≤ 100000 by omega), eo, cl_n (show t ≤ 100000 by omega), vp_n (show t < r by omega) (show r ≤ 100000 by omega), c1, c2, c3, c4, c5, c6, nI_1, not_false_eq_true, false_imp_iff, true_imp_iff, Option.some.injEq, Prod.mk.injEq, exists_eq_left', exists_eq_left, true_and, and_true, and_self, true_or, or_true, forall_const, exists_const, exists_and_left, wcat, Nat.zero_le, Nat.reduceLeDiff, Int32.lt_irrefl, not_false_eq_true, Nat.zero_add, forall_eq]
      rw [cGo] at he
      refine ⟨fun c => absurd c (by omega), fun _ => ⟨fun cd => ?_, fun cd => ?_⟩⟩
      · have cd' : dayF T t ≤ last := cd
        rw [if_pos cd'] at he
        obtain ⟨⟨hr1, hr2⟩, hk2⟩ := hk cd'
        have go : ∀ (s' : CSt) (S' : qS) (w5 w6 w7 : Option Value), cStep w T t s = some s' → BkS A S' B w s' o pl → Fr Sj S' B (B + 144) → J 13 [some (.ref B), some (.ref a), w2, some (.int last), some (.int (nI (P.length + 1))), w5, w6, w7] [] A S' := by
          intro s' S' w5 w6 w7 es hB' hr'
          rw [es] at he
          have := ih (P ++ [t]) s' o pl S' w2 w5 w6 w7 (by rw [hQ, List.append_assoc]; rfl) ho hpl hB' (hr.trans hr') (hk2 s' es) he
          rwa [List.length_append, List.length_singleton] at this
        refine ⟨fun n0 => ⟨fun n2 => ?_, fun n2 => ?_⟩, fun n0 => ?_⟩
        · refine ct_bookSell hB0 (by omega) hpa hr1 hr2 (fun n3 => ?_) (fun n3 S' hB' hr' => ?_)
          · refine ⟨fun z => absurd rfl z, fun _ => kZ_0 ?_⟩
            have es : cStep w T t s = none := by rw [cStep, if_neg n0, if_neg n2, if_neg n3]
            rw [es] at he
            subst he
            exact hf Sj o pl hB0 ho hpl hr
          · refine ⟨fun _ => ?_, fun z => absurd z (by decide)⟩
            exact go (cSell w (paF (tr T t)) t (tr T t).2.2.1 (tr T t).2.2.2.1 (tr T t).2.2.2.2.1 (tr T t).2.2.2.2.2 s) S' _ _ _ (by rw [cStep, if_neg n0, if_neg n2, if_pos n3]) hB' hr'
        · obtain ⟨-, b, hb1, hb2, eb⟩ := (hv t ht).2.2.2.1 n2
          have hb : 0 < (tr T t).2.2.2.2.1 := by rw [eb, show (0 : Int32) = nI 0 from rfl, nIlt (by omega) (by omega)]; omega
          exact ct_bookSplit hB0 hpa hb fun S' hB' hr' => go (cSplit (paF (tr T t)) (tr T t).2.2.2.1 (tr T t).2.2.2.2.1 s) S' _ _ _ (by rw [cStep, if_neg n0, if_pos n2]) hB' hr'
        · exact ct_bookBuy hB0 hpa hr1 fun S' hB' hr' => go (cBuy w (paF (tr T t)) (nI t) (tr T t).2.2.1 (tr T t).2.2.2.1 (tr T t).2.2.2.2.1 s) S' _ _ _ (by rw [cStep, if_pos n0]) hB' hr'
      · rw [if_neg (show ¬ dayF T t ≤ last from cd)] at he
        subst he
        exact kZ_1 (hf Sj o pl hB0 ho hpl hr)
  refine sX0_bookAll_0 hJ ⟨h.1.1, by decide, ct_clearFor h fun S1 hB1 hr1 => ⟨h.1.1, by decide, ct_putInOrder hB1 (hT.fr hr1 (by omega)) hab fun S2 hB2 ho hp hr2 => ?_⟩⟩
  rw [hQd] at ho hp
  exact loop Q [] c0 _ _ S2 _ _ _ _ rfl ho hp hB2 (hr1.trans (hr2.wide (by omega) (by omega))) hok hR
end
