/-! Book.replaceByLotsLeft, bookBuy -/
theorem i32_subself (x : Int32) : x - x = 0 := by
  apply Int32.toBitVec_inj.mp
  simp
theorem repL_len {p : Pie} {L : List Lot} {i : Nat} (hi : i < L.length) : (pLeft (repL p L i).1 ≤ 0 ∧ (repL p L i).2.length ≤ L.length + 1) ∨ (repL p L i).2.length = L.length := by
  unfold repL
  by_cases c : 0 < pLeft p
  · rw [if_pos c]
    unfold partIf
    by_cases c2 : ¬ pLeft p ≤ 0 ∧ pLeft p < (lt L i).1
    · rw [if_pos c2]
      refine Or.inl ⟨?_, by rw [List.length_set, partL_len hi]; omega⟩
      rw [lt_part hi, if_neg (by omega), if_pos rfl]
      show pLeft p - pLeft p ≤ 0
      rw [i32_subself]
      decide
    · rw [if_neg c2]
      exact Or.inr (by rw [List.length_set])
  · rw [if_neg c]
    exact Or.inr rfl
theorem repL_ge {p : Pie} {L : List Lot} {i : Nat} (hi : i < L.length) : L.length ≤ (repL p L i).2.length ∧ (repL p L i).2.length ≤ L.length + 1 := by
  unfold repL
  by_cases c : 0 < pLeft p
  · rw [if_pos c]
    simp only [List.length_set]
    unfold partIf
    split
    · rw [partL_len hi]; omega
    · omega
  · rw [if_neg c]
    simp only
    omega
/-- the lots left replace what they can of p, from i on -/
def rbl (w day : Int32) : Nat → Nat → Pie → List Lot → Pie × List Lot
  | 0, _, p, L => (p, L)
  | n + 1, i, p, L => if L.length ≤ i then (p, L) else if pLeft p ≤ 0 then (p, L) else if (lt L i).2.2.2.2.1 = true then rbl w day n (i + 1) p L else if w < day - (lt L i).2.2.1 then rbl w day n (i + 1) p L else rbl w day n (i + 1) (repL p L i).1 (repL p L i).2
theorem upH_up {H : Nat → List Lot} {p : Nat} {L L' : List Lot} : upH (upH H p L) p L' = upH H p L' := by
  funext q
  unfold upH
  split <;> rfl
theorem upH_at {H : Nat → List Lot} {p : Nat} {L : List Lot} : upH H p L p = L := if_pos rfl
theorem set_set {G : List CPie} {k : Nat} {x y : CPie} : (G.set k x).set k y = G.set k y := List.set_set x
theorem pt_at {G : List CPie} {k : Nat} {x : CPie} (h : k < G.length) : pt (G.set k x) k = x := by rw [pt_set h, if_pos rfl]
theorem bI_n (b : Bool) : (bI b = 0) = (b = false) := by cases b <;> simp [bI]
section
variable {d : Nat} {A : qA} {S : qS} {B : Nat} {H : Nat → List Lot} {G : List CPie} {O : List Nat} {z : Int64} {E : BkE}
set_option maxRecDepth 20000 in
set_option maxHeartbeats 4000000 in
theorem ct_replaceByLotsLeft {k pa : Nat} {day : Int32} {f : qS → Prop} (h : BkAt A S B H G O z E) (hk : k < G.length) (hp : pa < 3) (hn : (H pa).length < 40) (hf : ∀ S', BkAt A S' B (upH H pa (rbl E.1 day 40 0 (pt G k).2 (H pa)).2) (G.set k ((pt G k).1, (rbl E.1 day 40 0 (pt G k).2 (H pa)).1)) O z E → Fr S S' B (B + 144) → f S') : Run (d + 3) 6 [.ref B, .int (nI k), .ref (B + 18 + 42 * pa), .int day] A S (kV A f) := by
  refine Run.i (C := mX0_replaceByLotsLeft) rfl rfl rfl fun J hJ => ?_
  have loop : ∀ n i (p : Pie) (L : List Lot) (Sj : qS), i + n = 40 → L.length ≤ 40 → (L.length < 40 ∨ pLeft p ≤ 0) → BkAt A Sj B (upH H pa L) (G.set k ((pt G k).1, p)) O z E → Fr S Sj B (B + 144) → rbl E.1 day n i p L = rbl E.1 day 40 0 (pt G k).2 (H pa) → J 3 [some (.ref B), some (.int (nI k)), some (.ref (B + 18 + 42 * pa)), some (.int day), some (.int (nI i))] [] A Sj := by
    intro n
    induction n with
    | zero =>
      intro i p L Sj hin hL hL2 hB hr he
      refine sX0_replaceByLotsLeft_3 hJ ?_
      have hLo := hB.2.2.2.1 pa hp
      obtain ⟨⟨n0, n1, n2⟩, π, w1, w2, w3, ⟨w4, w5⟩, w6⟩ := hLo
      rw [upH_at] at w2 w3
      simp only [n0, w2, nIle (show L.length ≤ 100000 by omega) (show i ≤ 100000 by omega), Option.some.injEq, Prod.mk.injEq, exists_eq_left', exists_eq_left, true_and, and_true, and_self, true_or, or_true, forall_const, exists_const, exists_and_left, wcat, Nat.zero_le, Nat.reduceLeDiff, Int32.lt_irrefl, not_false_eq_true, Nat.zero_add, forall_eq]
      refine ⟨fun _ => kV_i (hf _ ?_ hr), fun c => absurd (by omega) c⟩
      rw [← he]
      exact hB
    | succ n ih =>
      intro i p L Sj hin hL hL2 hB hr he
      refine sX0_replaceByLotsLeft_3 hJ ?_
      have hB0 := hB
      obtain ⟨⟨l0, l1, l13, l14, l15, l16, l17⟩, ⟨q0, q1, q2, q3, q4, q5, q6, q7⟩, hG, hH, ⟨o1, o2, o3⟩, ⟨x1, x2, x3, x4, x5, x6⟩, hO⟩ := hB
      obtain ⟨⟨m0, m1, m2, m3, m4, m5, m6, m7, m8, m9, m10⟩, ⟨g0, g1, g2, g3, g4, g5, g6, g7, g8, g9⟩, hC, g10⟩ := hG
      obtain ⟨⟨n0, n1, n2⟩, π, w1, w2, w3, ⟨w4, w5⟩, w6⟩ := hH pa hp
      rw [upH_at] at w2 w3 w6
      have hk' : k < (G.set k ((pt G k).1, p)).length := by rw [List.length_set]; exact hk
      have z7 : gI Sj (B + 2 + 8) k = pLeft p := by have := (hC.2 k hk').2.2.2.2.2.2.2.1; rw [pt_at hk] at this; exact this
      rw [List.length_set] at g10
      have c40 : ((40 : Int32) ≤ nI i) = False := by rw [show (40 : Int32) = nI 40 from rfl, nIle (by omega) (by omega)]; simp; omega
      obtain ⟨wl, wr⟩ := w4 i (by omega)
      rw [rbl] at he
      simp only [n0, n1, w1, w2, wr, n2 _ wl, nIle (show L.length ≤ 100000 by omega) (show i ≤ 100000 by omega), l0, q1, m0, g7, m8, cl_n (show k ≤ 100000 by omega), vp_n (show k < 666 by omega) (show 666 ≤ 100000 by omega), cl_n (show i ≤ 100000 by omega), vp_n (show i < 40 by omega) (show 40 ≤ 100000 by omega), z7, c40, x2, nI_1, false_imp_iff, Option.some.injEq, Prod.mk.injEq, exists_eq_left', exists_eq_left, true_and, and_true, and_self, true_or, or_true, forall_const, exists_const, exists_and_left, wcat, Nat.zero_le, Nat.reduceLeDiff, Int32.lt_irrefl, not_false_eq_true, Nat.zero_add, forall_eq, true_and, and_true, Nat.add_right_cancel_iff, Nat.add_left_cancel_iff, Nat.reduceEqDiff, Nat.left_eq_add, Nat.right_eq_add, Nat.add_eq_left, Nat.add_eq_right, Nat.reduceAdd, Nat.succ_ne_self, reduceCtorEq, false_and, and_false, if_false, if_true, ite_true, ite_false, ite_self, Nat.succ_ne_zero, Nat.add_one_ne_zero, not_false_eq_true, not_true_eq_false, Nat.one_ne_zero, Nat.zero_ne_one]
      refine ⟨fun c => kV_i (hf _ ?_ hr), fun c => ⟨fun c1 => kV_i (hf _ ?_ hr), fun c1 => ?_⟩⟩
      · rw [if_pos c] at he; rw [← he]; exact hB0
      · rw [if_neg c, if_pos c1] at he; rw [← he]; exact hB0
      · rw [if_neg c, if_neg c1] at he
        obtain ⟨z0, z1, z2, z3, z4, z5⟩ := w6 i (by omega)
        rw [z4, z2, bI_n]
        refine ⟨fun c2 => ?_, fun c2 => ⟨fun c3 => ?_, fun c3 => ?_⟩⟩
        · rw [if_pos (by simpa using c2)] at he
          exact ih (i + 1) p L Sj (by omega) hL hL2 hB0 hr he
        · rw [if_neg (by simp [c2]), if_pos c3] at he
          exact ih (i + 1) p L Sj (by omega) hL hL2 hB0 hr he
        · rw [if_neg (by simp [c2]), if_neg c3] at he
          have hL3 : L.length < 40 := hL2.resolve_right c1
          refine ct_replace (i := i) hB0 hk' hp (by rw [upH_at]; omega) (by rw [upH_at]; omega) fun S' hB' hr' => ?_
          rw [upH_at, upH_up, set_set, pt_at hk] at hB'
          have ge := repL_ge (p := p) (L := L) (i := i) (by omega)
          refine ih (i + 1) (repL p L i).1 (repL p L i).2 S' (by omega) (by omega) ?_ hB' (hr.trans hr') he
          rcases repL_len (p := p) (L := L) (i := i) (by omega) with e | e
          · exact Or.inr e.1
          · exact Or.inl (by omega)
  refine sX0_replaceByLotsLeft_0 hJ (loop 40 0 (pt G k).2 (H pa) S (by omega) (by omega) (Or.inl hn) ?_ Fr.rf rfl)
  rw [upH_s, show ((pt G k).1, (pt G k).2) = pt G k from rfl, pt_sets hk]
  exact h
end
