/-! THE START: what the tables and the Statement's words give at the law's entry -/
section StA
variable {args : Array Value} {s : State}
set_option maxRecDepth 100000 in
theorem st_cls (hts : ∀ w ∈ wsA, w.before args s = true) : ∃ D : va_G, ∀ (c : Nat) (q : vw_C), vwCl[c]? = some q → u_Kn s q.1 q.2.1 q.2.2 (D.1 c) (D.2 c) := by
  have key : ∀ c : Nat, ∃ y : ClassId × (Nat → Nat), ∀ q : vw_C, vwCl[c]? = some q → u_Kn s q.1 q.2.1 q.2.2 y.1 y.2 := by
    intro c
    match c with
    | 0 => obtain ⟨a, b, h⟩ := u_known (n := 10) hts cls0.2.2.1 (hts _ kw_167); exact ⟨(a, b), fun q hq => by rw [cls0.2.1] at hq; cases hq; exact h⟩
    | 1 => obtain ⟨a, b, h⟩ := u_known (n := 3) hts cls1.2.2.1 (hts _ kw_343); exact ⟨(a, b), fun q hq => by rw [cls1.2.1] at hq; cases hq; exact h⟩
    | 2 => obtain ⟨a, b, h⟩ := u_known (n := 2) hts cls2.2.2.1 (hts _ kw_326); exact ⟨(a, b), fun q hq => by rw [cls2.2.1] at hq; cases hq; exact h⟩
    | 3 => obtain ⟨a, b, h⟩ := u_known (n := 6) hts cls3.2.2.1 (hts _ kw_236); exact ⟨(a, b), fun q hq => by rw [cls3.2.1] at hq; cases hq; exact h⟩
    | 4 => obtain ⟨a, b, h⟩ := u_known (n := 2) hts cls4.2.2.1 (hts _ kw_229); exact ⟨(a, b), fun q hq => by rw [cls4.2.1] at hq; cases hq; exact h⟩
    | 5 => obtain ⟨a, b, h⟩ := u_known (n := 11) hts cls5.2.2.1 (hts _ kw_175); exact ⟨(a, b), fun q hq => by rw [cls5.2.1] at hq; cases hq; exact h⟩
    | 6 => obtain ⟨a, b, h⟩ := u_known (n := 9) hts cls6.2.2.1 (hts _ kw_32); exact ⟨(a, b), fun q hq => by rw [cls6.2.1] at hq; cases hq; exact h⟩
    | 7 => obtain ⟨a, b, h⟩ := u_known (n := 9) hts cls7.2.2.1 (hts _ kw_69); exact ⟨(a, b), fun q hq => by rw [cls7.2.1] at hq; cases hq; exact h⟩
    | 8 => obtain ⟨a, b, h⟩ := u_known (n := 8) hts cls8.2.2.1 (hts _ kw_75); exact ⟨(a, b), fun q hq => by rw [cls8.2.1] at hq; cases hq; exact h⟩
    | 9 => obtain ⟨a, b, h⟩ := u_known (n := 17) hts cls9.2.2.1 (hts _ kw_24); exact ⟨(a, b), fun q hq => by rw [cls9.2.1] at hq; cases hq; exact h⟩
    | 10 => obtain ⟨a, b, h⟩ := u_known (n := 9) hts cls10.2.2.1 (hts _ kw_1239); exact ⟨(a, b), fun q hq => by rw [cls10.2.1] at hq; cases hq; exact h⟩
    | 11 => obtain ⟨a, b, h⟩ := u_known (n := 51) hts cls11.2.2.1 (hts _ kw_1062); exact ⟨(a, b), fun q hq => by rw [cls11.2.1] at hq; cases hq; exact h⟩
    | n + 12 =>
      refine ⟨(0, fun _ => 0), fun q hq => ?_⟩
      have h0 : vwCl[n + 12]? = none := List.getElem?_eq_none (by show 12 ≤ n + 12; omega)
      rw [h0] at hq
      cases hq
  obtain ⟨f, hf⟩ := Classical.axiomOfChoice key
  exact ⟨(fun c => (f c).1, fun c => (f c).2), hf⟩
theorem st_prim {ty : FieldType} (h : (Cond.arrayClass ty).before args s = true) (ho : ∀ C, ty ≠ .object C) : ∃ cA : ClassId, ArrOfT s cA ty ∧ va_RA s cA ty := by
  obtain ⟨cA, kA, comp, h1, h2, h3⟩ := Cond.arrayClass_spec h
  refine ⟨cA, fun n z => ⟨fun k h => (by cases h), kA, h2, comp, h3⟩, ?_⟩
  cases ty with
  | object C => exact absurd rfl (ho C)
  | _ => exact h1
theorem st_obj {C : String} (h : va_AO C s) : ∃ cA : ClassId, ArrOfT s cA (.object C) ∧ va_RA s cA (.object C) := by
  obtain ⟨comp, cA, kA, h1, -, h2, h3, h4⟩ := Cond.arrayOver_spec h
  exact ⟨cA, fun n z => ⟨fun k h => (by cases h), kA, h2, comp, h3⟩, kA, comp, h2, h3, h1, h4⟩
theorem st_arr (hts : ∀ w ∈ wsA, w.before args s = true) (hA : ∀ C ∈ [RX3, RX4, RX8], va_AO C s) : ∃ cy : Nat → ClassId, ∀ (k : Nat) (q : ClassId × FieldType), (tysL cy)[k]? = some q → ArrOfT s q.1 q.2 ∧ va_RA s q.1 q.2 := by
  obtain ⟨a0, h0⟩ := st_prim (hts _ kw_67) (by intro C h; cases h)
  obtain ⟨a1, h1⟩ := st_prim (hts _ kw_122) (by intro C h; cases h)
  obtain ⟨a2, h2⟩ := st_prim (hts _ kw_228) (by intro C h; cases h)
  obtain ⟨a3, h3⟩ := st_prim (hts _ kw_1221) (by intro C h; cases h)
  obtain ⟨a4, h4⟩ := st_obj (hA RX3 (by simp))
  obtain ⟨a5, h5⟩ := st_obj (hA RX4 (by simp))
  obtain ⟨a6, h6⟩ := st_obj (hA RX8 (by simp))
  refine ⟨fun k => ([a0, a1, a2, a3, a4, a5, a6] : List ClassId).getD (k - 12) 0, fun k q hq => ?_⟩
  match k with
  | 0 => cases hq; exact h0
  | 1 => cases hq; exact h1
  | 2 => cases hq; exact h2
  | 3 => cases hq; exact h3
  | 4 => cases hq; exact h4
  | 5 => cases hq; exact h5
  | 6 => cases hq; exact h6
  | n + 7 => cases hq
/-- a String constant of the Reader by its text's place -/
def sk6 (i : Nat) : Nat := ([51, 64, 66, 81, 137, 139, 154, 156, 158, 160, 162, 164, 166] : List Nat).getD i 0
def stC (i : Nat) : List Cond := [.exactly (.string RX6 (sk6 i)) "java/lang/String", .eq (.field (.string RX6 (sk6 i)) "java/lang/String" "coder" "B") (.int 0), .arrayOf (.field (.string RX6 (sk6 i)) "java/lang/String" "value" "[B") .byte,
  .eq (.length (.field (.string RX6 (sk6 i)) "java/lang/String" "value" "[B")) (.int (Int32.ofNat (strT.getD i []).length))] ++ (List.range (strT.getD i []).length).map fun j => .eq (.elem (.field (.string RX6 (sk6 i)) "java/lang/String" "value" "[B") (.int (Int32.ofNat j))) (.int ((strT.getD i []).getD j 0))
set_option maxRecDepth 100000 in
theorem stC_in : ∀ i, i < 13 → ∀ w ∈ stC i, w ∈ flatC (Cond.and given_1 narrow_1) := by decide +kernel
theorem st_str (hg : ∀ w ∈ flatC (Cond.and given_1 narrow_1), w.before args s = true) : ∃ ad adV : Nat → Nat, vk_S 13 (strT.map List.length) strT ad adV (fun q => s.heap.size ≤ q) s s.heap ∧ ∀ i, i < 13 → (Term.string RX6 (sk6 i)).eval args s none [] s = some (.ref (ad i)) := by
  have hA : ∀ a : Nat, a < s.heap.size → ¬ s.heap.size ≤ a := fun a h => Nat.not_le.mpr h
  have key : ∀ i : Nat, ∃ q : Nat × Nat, i < 13 → (Term.string RX6 (sk6 i)).eval args s none [] s = some (.ref q.1) ∧ va_O "java/lang/String" q.1 (fun q => s.heap.size ≤ q) s s.heap ∧ va_OF "java/lang/String" "coder" "B" (.int 0) q.1 (fun q => s.heap.size ≤ q) s s.heap ∧ va_OF "java/lang/String" "value" "[B" (.ref q.2) q.1 (fun q => s.heap.size ≤ q) s s.heap ∧ va_T .byte q.2 (strT.getD i []).length (fun j => .int ((strT.getD i []).getD j 0)) (fun q => s.heap.size ≤ q) s s.heap := by
    intro i
    by_cases hi : i < 13
    · have w : ∀ w ∈ stC i, w.before args s = true := fun w hw => hg w (stC_in i hi w hw)
      have hl : (strT.getD i []).length < 2 ^ 31 := by
        have : ∀ i, i < 13 → (strT.getD i []).length < 2 ^ 31 := by decide
        exact this i hi
      obtain ⟨a, c, cA, kA, q1, q2, q3, q4, q5, q6, -⟩ := Cond.exactly_spec (args := args) (first := s) (o := none) (s := s) (idx := []) (t := .string RX6 (sk6 i)) (cls := "java/lang/String") (w _ (by simp [stC]))
      obtain ⟨t, ht, hT⟩ := va_Tof (f := fun j => .int ((strT.getD i []).getD j 0)) (A := fun q => s.heap.size ≤ q) hl (w (.arrayOf (.field (.string RX6 (sk6 i)) "java/lang/String" "value" "[B") .byte) (by simp [stC])) (va_eqt (w (.eq (.length (.field (.string RX6 (sk6 i)) "java/lang/String" "value" "[B")) (.int (Int32.ofNat (strT.getD i []).length))) (by simp [stC]))) (fun j hj => va_eqt (w _ (by
        simp only [stC, List.mem_append, List.mem_map, List.mem_range]
        exact Or.inr ⟨j, hj, rfl⟩))) hA
      exact ⟨(a, t), fun _ => ⟨q1, ⟨cA, q3, q5, by rw [q6]; exact q2, hA a (Array.getElem?_eq_some_iff.mp q3).1⟩, vk_OFof q1 (va_eqt (w _ (by simp [stC]))) hA, vk_OFof q1 ht hA, hT⟩⟩
    · exact ⟨(0, 0), fun h => absurd h hi⟩
  obtain ⟨ad, had⟩ := Classical.axiomOfChoice key
  have hlen : ∀ i, i < 13 → (strT.map List.length).getD i 0 = (strT.getD i []).length := by decide
  refine ⟨fun i => (ad i).1, fun i => (ad i).2, ⟨fun i hi => ?_, fun i j hi hj e => ?_⟩, fun i hi => (had i hi).1⟩
  · obtain ⟨-, h1, h2, h3, h4⟩ := had i hi
    exact ⟨h1, h2, h3, by rw [hlen i hi]; exact h4⟩
  · obtain ⟨-, -, -, ⟨cf, k, x, f, cell, u1, u2, u3, u4, u5, u6⟩, ⟨c1, t1, t2, t3, t4, t5, t6, t7⟩⟩ := had i hi
    obtain ⟨-, -, -, ⟨cf', k', x', f', cell', v1, v2, v3, v4, v5, v6⟩, ⟨c2, r1, r2, r3, r4, r5, r6, r7⟩⟩ := had j hj
    cases Option.some.inj (u1.symm.trans v1)
    dsimp only at e
    rw [e] at u3
    cases Option.some.inj (u3.symm.trans v3)
    have e2 := Option.some.inj (u5.symm.trans v5)
    have e3 : (ad i).2 = (ad j).2 := by injection e2
    rw [e3] at t1
    cases Option.some.inj (t1.symm.trans r1)
    have el : Int32.ofNat (strT.getD i []).length = Int32.ofNat (strT.getD j []).length := t5.symm.trans r5
    have eb : ∀ k, k < (strT.getD i []).length → k < (strT.getD j []).length → (strT.getD i []).getD k 0 = (strT.getD j []).getD k 0 := fun k h1 h2 => by
      have := Option.some.inj ((t6 k h1).symm.trans (r6 k h2))
      injection this
    have big : ∀ i, i < 13 → ∀ j, j < 13 → Int32.ofNat (strT.getD i []).length = Int32.ofNat (strT.getD j []).length → ((List.range (strT.getD i []).length).all fun k => decide (k < (strT.getD j []).length → (strT.getD i []).getD k 0 = (strT.getD j []).getD k 0)) = true → i = j := by decide +kernel
    refine big i hi j hj el (List.all_eq_true.mpr fun k hk => decide_eq_true fun h2 => eb k (List.mem_range.mp hk) h2)
end StA
