/-! the reference's calls: split, small ones -/
theorem split_row {V : VSt} {p y a b : Int32} (hp : papB V p = true) (hd : numB y a b = true) : vRow (2, p, y, a, b, -2) := by
  obtain ⟨i, hi, rfl, -⟩ := papB_i hp
  have h1 := Bool.and_eq_true_iff.mp hd
  have h2 := Bool.and_eq_true_iff.mp h1.1
  obtain ⟨y', hy, rfl⟩ := inB_i (n := 999) (by omega) rfl h2.1
  obtain ⟨a', ha1, ha2, rfl⟩ := inB_i1 (n := 9) (by omega) rfl h2.2
  obtain ⟨b', hb1, hb2, rfl⟩ := inB_i1 (n := 9) (by omega) rfl h1.2
  exact ⟨Or.inr (Or.inr rfl), ⟨i, hi, rfl⟩, ⟨y', hy, rfl⟩, fun _ => ⟨⟨a', ha1, ha2, rfl⟩, b', hb1, hb2, rfl⟩, fun z => absurd rfl z, fun z => absurd z (by show ¬ (2 : Int32) = 1; decide)⟩
section
variable {d : Nat} {A : qA} {S : qS} {m : Nat} {V : VSt}
set_option maxRecDepth 20000 in
theorem cm_splitsIn {a n : Nat} {T : List Row} {f : Int32 → qS → Prop} (hk : A.1 a = some (13, n)) (hn : n ≤ 100000) (hl : 6 * T.length < n) (h : RwAt S a T) (hf : f (nI (spl T T.length)) S) : Run (d + 2) 148 [.ref a] A S (kI A f) := by
  refine Run.i (C := mX11_splitsIn) rfl rfl rfl fun J hJ => ?_
  have cz : (0 : Int32).toNatClampNeg = 0 := rfl
  have v0 : vp_in 0 n := vp_n (i := 0) (by omega) hn
  have loop : ∀ k i, i + k = T.length → J 4 [some (.ref a), some (.int (nI (spl T i))), some (.int (nI i))] [] A S := by
    intro k
    induction k with
    | zero =>
      intro i hi
      refine sX11_splitsIn_4 hJ ?_
      simp only [hk, cz, v0, h.1, nIle (show T.length ≤ 100000 by omega) (show i ≤ 100000 by omega), Option.some.injEq, Prod.mk.injEq, exists_eq_left', exists_eq_left, true_and, and_true, and_self, true_or, or_true, forall_const, exists_const, exists_and_left, wcat, Nat.zero_le, Nat.reduceLeDiff, Int32.lt_irrefl, not_false_eq_true, Nat.zero_add, forall_eq]
      refine ⟨fun _ => kI_i ?_, fun z => absurd (by omega) z⟩
      rwa [show i = T.length by omega]
    | succ k ih =>
      intro i hi
      refine sX11_splitsIn_4 hJ ?_
      simp only [hk, cz, v0, h.1, nIle (show T.length ≤ 100000 by omega) (show i ≤ 100000 by omega), nI_1, Int32.add_zero, Option.some.injEq, Prod.mk.injEq, exists_eq_left', exists_eq_left, true_and, and_true, and_self, true_or, or_true, forall_const, exists_const, exists_and_left, wcat, Nat.zero_le, Nat.reduceLeDiff, Int32.lt_irrefl, not_false_eq_true, Nat.zero_add, forall_eq]
      refine ⟨fun z => absurd z (by omega), fun _ => cm_of (c := 1) rfl hk (by omega) hn ?_⟩
      rw [(h.2 i (by omega)).1]
      have := ih (i + 1) (by omega)
      rw [spl] at this
      refine ⟨fun z => ?_, fun z => ?_⟩
      · rw [if_neg z, Nat.add_zero] at this; exact this
      · rw [if_pos z] at this; exact this
  exact sX11_splitsIn_0 hJ (loop T.length 0 (by omega))
set_option maxRecDepth 20000 in
set_option maxHeartbeats 1000000 in
theorem cm_split {p y a b : Int32} {f : Int32 → qS → Prop} (h : MAt A S m V) (hv : vOk V) (hf : ∀ S', MAt A S' m (uSplit V p y a b).1 → Fr S S' m (m + 27) → f (uSplit V p y a b).2 S') : Run (d + 11) 259 [.ref m, .int p, .int y, .int a, .int b] A S (kI A f) := by
  refine Run.i (C := mX11_split) rfl rfl rfl fun J hJ => ?_
  refine sX11_split_0 hJ ⟨h.1.1.1, fun T e => ?_⟩
  subst e
  have hl := hv.2.1.1.2.2
  refine ⟨wc rfl, cm_in (q_eqb (fun z => ⟨h.1.1.1, wc rfl, ?_⟩) (fun z => ⟨wc rfl, cm_in (q_eqb (fun z1 => ⟨h.1.1.1, wc rfl, ?_⟩) (fun z1 => ⟨wc rfl, cm_in (q_eqb (fun z2 => ⟨h.1.1.1, wc rfl, ?_⟩) (fun z2 => ⟨h.1.1.1, wc rfl, ?_⟩))⟩))⟩))⟩
  · have hn : numB y a b = false := by rw [numB, z]; rfl
    refine cm_refusesTrade (num := false) h.t0 hv (by decide) (by decide) ?_
    rw [rtC_le]
    have hf' := hf
    rw [uSplit, hn] at hf'
    refine ⟨fun c => ⟨fun c1 => absurd c1 c, fun _ => ⟨h.1.1.1, wc rfl, cm_refused h.t0 fun S' h2 hr2 => kI_i ?_⟩⟩, fun c => ?_⟩
    · have := hf' S'
      rw [if_neg c] at this
      exact this h2 (frT0 hr2)
    · obtain ⟨y1, y2, y3⟩ := rtC_0 c
      rw [if_pos c] at hf'
      cases y2
  · have hn : numB y a b = false := by rw [numB, z1, Bool.and_false]; rfl
    refine cm_refusesTrade (num := false) h.t0 hv (by decide) (by decide) ?_
    rw [rtC_le]
    have hf' := hf
    rw [uSplit, hn] at hf'
    refine ⟨fun c => ⟨fun c1 => absurd c1 c, fun _ => ⟨h.1.1.1, wc rfl, cm_refused h.t0 fun S' h2 hr2 => kI_i ?_⟩⟩, fun c => ?_⟩
    · have := hf' S'
      rw [if_neg c] at this
      exact this h2 (frT0 hr2)
    · obtain ⟨y1, y2, y3⟩ := rtC_0 c
      rw [if_pos c] at hf'
      cases y2
  · have hn : numB y a b = false := by rw [numB, z2, Bool.and_false]
    refine cm_refusesTrade (num := false) h.t0 hv (by decide) (by decide) ?_
    rw [rtC_le]
    have hf' := hf
    rw [uSplit, hn] at hf'
    refine ⟨fun c => ⟨fun c1 => absurd c1 c, fun _ => ⟨h.1.1.1, wc rfl, cm_refused h.t0 fun S' h2 hr2 => kI_i ?_⟩⟩, fun c => ?_⟩
    · have := hf' S'
      rw [if_neg c] at this
      exact this h2 (frT0 hr2)
    · obtain ⟨y1, y2, y3⟩ := rtC_0 c
      rw [if_pos c] at hf'
      cases y2
  · have hn : numB y a b = true := by rw [numB, z, z1, z2]; rfl
    refine cm_refusesTrade (num := true) h.t0 hv (by decide) (by decide) ?_
    rw [rtC_le]
    have hf' := hf
    rw [uSplit, hn] at hf'
    refine ⟨fun c => ⟨fun c1 => absurd c1 c, fun _ => ⟨h.1.1.1, wc rfl, cm_refused h.t0 fun S' h2 hr2 => kI_i ?_⟩⟩, fun c => ?_⟩
    · have := hf' S'
      rw [if_neg c] at this
      exact this h2 (frT0 hr2)
    · obtain ⟨y1, y2, y3⟩ := rtC_0 c
      rw [if_pos c] at hf'
      obtain ⟨i, hi, rfl, td, hL⟩ := papB_i y1
      obtain ⟨⟨k0, k1, k2, k3, k4, k5, k6, k7, k8, k9, k10, k11, k12, k13, k14, k15, k16, k17, k18, k19, k20, k21, k22, k23, k24, k25, k26⟩, ⟨r5, r15, r16, r17, r18, r21, r22, r23, r24, r25, r26, r27, r28, r29, r30, r31, r32, r33, r34, r35, r36, r37, r38, r39, r40, r48⟩⟩ := (h.t0 (x := 0)).1
      refine ⟨k0, _, r15, wc rfl, cm_splitsIn k2 (by omega) (by omega) (h.t0 (x := 0)).2.2.1.2.2.1 ?_⟩
      rw [show (4 : Int32) = nI 4 from rfl, nIeq (by have := spl_le (vNow V) (vNow V).length; omega) (by omega)]
      refine ⟨fun c4 => ⟨fun _ => ⟨k0, wc rfl, cm_tells h.t0 hv hL (vT_add hv.2.1.1 (split_row y1 hn) (by omega) (fun _ => by have := hv.2.1.1.2.1; omega)) fun S' h2 hr2 => kI_i ?_⟩, fun c5 => absurd c c5⟩, fun c4 => ⟨fun c5 => absurd c5 (by decide), fun _ => ⟨k0, wc rfl, cm_refused h.t0 fun S' h2 hr2 => kI_i ?_⟩⟩⟩
      · have := hf' S'
        rw [if_neg c4] at this
        exact this h2 (frT0 hr2)
      · have := hf' S'
        rw [if_pos c4] at this
        exact this h2 (frT0 hr2)
set_option maxRecDepth 20000 in
theorem cm_fault {f : Int32 → qS → Prop} (h : MAt A S m V) (hf : ∀ S', MAt A S' m V → Fr S S' m (m + 27) → f (vFa V) S') : Run (d + 1) 176 [.ref m] A S (kI A f) := by
  refine Run.i (C := mX11_fault) rfl rfl rfl fun J hJ => ?_
  have c := (h.t0 (x := 0)).2.2.1.2.2.2.2.2.2.2.2.2
  refine sX11_fault_0 hJ ?_
  simp only [h.1.1.1, c, Option.some.injEq, Prod.mk.injEq, exists_eq_left', exists_eq_left, true_and, and_true, and_self, true_or, or_true, forall_const, exists_const, exists_and_left, wcat, Nat.zero_le, Nat.reduceLeDiff, Int32.lt_irrefl, not_false_eq_true, Nat.zero_add, forall_eq]
  exact kI_i (hf _ h.t0 (Fr.rf.uI (by omega) (by omega)))
set_option maxRecDepth 20000 in
theorem cm_where {f : Int32 → qS → Prop} (h : MAt A S m V) (hf : ∀ S', MAt A S' m V → Fr S S' m (m + 27) → f (vWh V) S') : Run (d + 1) 177 [.ref m] A S (kI A f) := by
  refine Run.i (C := mX11_where) rfl rfl rfl fun J hJ => ?_
  have c := (h.t0 (x := 0)).2.2.1.2.2.2.2.2.2.2.2.1
  refine sX11_where_0 hJ ?_
  simp only [h.1.1.1, c, Option.some.injEq, Prod.mk.injEq, exists_eq_left', exists_eq_left, true_and, and_true, and_self, true_or, or_true, forall_const, exists_const, exists_and_left, wcat, Nat.zero_le, Nat.reduceLeDiff, Int32.lt_irrefl, not_false_eq_true, Nat.zero_add, forall_eq]
  exact kI_i (hf _ h.t0 (Fr.rf.uI (by omega) (by omega)))
set_option maxRecDepth 20000 in
theorem cm_trouble {f : Int32 → qS → Prop} (h : MAt A S m V) (hf : ∀ S', MAt A S' m V → Fr S S' m (m + 27) → f (vTr V) S') : Run (d + 1) 267 [.ref m] A S (kI A f) := by
  refine Run.i (C := mX11_trouble) rfl rfl rfl fun J hJ => ?_
  have c := (h.t0 (x := 0)).2.2.1.2.2.2.2.2.2.2.1
  refine sX11_trouble_0 hJ ?_
  simp only [h.1.1.1, c, Option.some.injEq, Prod.mk.injEq, exists_eq_left', exists_eq_left, true_and, and_true, and_self, true_or, or_true, forall_const, exists_const, exists_and_left, wcat, Nat.zero_le, Nat.reduceLeDiff, Int32.lt_irrefl, not_false_eq_true, Nat.zero_add, forall_eq]
  exact kI_i (hf _ h.t0 (Fr.rf.uI (by omega) (by omega)))
end
