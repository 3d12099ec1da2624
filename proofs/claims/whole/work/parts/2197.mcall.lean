/-! the reference's calls: fits, fitAt, could, surely -/
/-- the sets below k that fit, ascending -/
def ftL (td : Tld) : Nat → List Nat
  | 0 => []
  | k + 1 => if fitB td (nI k) then ftL td k ++ [k] else ftL td k
def fndG (td : Tld) (i : Int32) : Nat → Int32
  | 0 => -1
  | k + 1 => if fitB td (nI k) then (if nI (ftL td k).length = i then nI k else fndG td i k) else fndG td i k
def orL : List Nat → Int32 → Int32
  | [], x => x
  | k :: L, x => orL L (x ||| nI k)
def andL : List Nat → Int32 → Int32
  | [], x => x
  | k :: L, x => andL L (x &&& nI k)
def cntL (u : Nat) : List Nat → Nat
  | [] => 0
  | k :: L => cntL u L + if bitB (nI k) (nI u) then 1 else 0
theorem orL_app : ∀ (L : List Nat) (k : Nat) (x : Int32), orL (L ++ [k]) x = orL L x ||| nI k
  | [], _, _ => rfl
  | j :: L, k, x => orL_app L k _
theorem andL_app : ∀ (L : List Nat) (k : Nat) (x : Int32), andL (L ++ [k]) x = andL L x &&& nI k
  | [], _, _ => rfl
  | j :: L, k, x => andL_app L k _
theorem cntL_app (u : Nat) : ∀ (L : List Nat) (k : Nat), cntL u (L ++ [k]) = cntL u L + if bitB (nI k) (nI u) then 1 else 0
  | [], k => by simp [cntL]
  | j :: L, k => by rw [List.cons_append, cntL, cntL, cntL_app u L k]; omega
theorem ftL_len (td : Tld) : ∀ k, (ftL td k).length ≤ k
  | 0 => Nat.le_refl _
  | k + 1 => by
    have := ftL_len td k
    rw [ftL]
    split
    · rw [List.length_append, List.length_singleton]; omega
    · omega
theorem cntL_le (u : Nat) : ∀ L : List Nat, cntL u L ≤ L.length
  | [] => Nat.le_refl _
  | k :: L => by
    have := cntL_le u L
    rw [cntL, List.length_cons]
    split <;> omega
/-- all sets of n unsure ones -/
def allS (td : Tld) : List Nat := ftL td (2 ^ td.2.2.1.length)
theorem shl1 {n : Nat} (h : n ≤ 4) : (1 : Int32) <<< (nI n &&& 31) = nI (2 ^ n) := by
  rcases (show n = 0 ∨ n = 1 ∨ n = 2 ∨ n = 3 ∨ n = 4 by omega) with e | e | e | e | e <;> subst e <;> decide +kernel
def evI (td : Tld) : Int32 := if (allS td).length = 0 then 0 else andL (allS td) (nI (2 ^ td.2.2.1.length) - 1)
section
variable {d : Nat} {A : qA} {S : qS} {m : Nat} {V : VSt}
/-- the counters of the sets below k -/
def ctr (S : qS) (m : Nat) (td : Tld) (k : Nat) : Prop := gI S m 45 = nI (ftL td k).length ∧ gI S m 46 = orL (ftL td k) 0 ∧ gI S m 47 = andL (ftL td k) (nI (2 ^ td.2.2.1.length) - 1) ∧ ∀ u, u < td.2.2.1.length → gI S (m + 26) u = nI (cntL u (ftL td k))
theorem MH.c {H : Nat → List Lot} {k : Nat} {x : Int32} (h : MH S m H) : MH (uI S (m + 26) k x) m H := h.fm (lo := 26) (hi := 27) (u := 41) (v := 41) (Fm.rf.uI (by omega)) (by omega)
set_option maxRecDepth 20000 in
set_option maxHeartbeats 2000000 in
theorem cm_fitting {i : Int32} {td : Tld} {f : Int32 → qS → Prop} (h : MAt A S m V) (hv : vOk V) (hL : vLed V = some td) (hf : ∀ S', MAt A S' m V → Fk S S' m → gI S' m 45 = nI (allS td).length → gI S' m 46 = orL (allS td) 0 → gI S' m 47 = evI td → (∀ u, u < td.2.2.1.length → gI S' (m + 26) u = nI (cntL u (allS td))) → f (fndG td i (2 ^ td.2.2.1.length)) S') : Run (d + 11) 238 [.ref m, .int i] A S (kI A f) := by
  refine Run.i (C := mX11_fitting) rfl rfl rfl fun J hJ => ?_
  have hvt := hv.1 td hL
  have hl4 := hvt.2.2.2.1
  have hL1 := h.2.2.2
  rw [hL] at hL1
  obtain ⟨q, e3, hq, hLg⟩ := hL1
  have hsh := shl1 hl4
  have hp16 : 2 ^ td.2.2.1.length ≤ 16 := by
    rcases (show td.2.2.1.length = 0 ∨ td.2.2.1.length = 1 ∨ td.2.2.1.length = 2 ∨ td.2.2.1.length = 3 ∨ td.2.2.1.length = 4 by omega) with e | e | e | e | e <;> rw [e] <;> decide
  have hk0 := h.1.1.1
  have loop : ∀ n k (Sj : qS) (w4 : Option Value), k + n = 2 ^ td.2.2.1.length → MAt A Sj m V → Fk S Sj m → ctr Sj m td k → J 49 [some (.ref m), some (.int i), some (.int (fndG td i k)), some (.int (nI k)), w4] [] A Sj := by
    intro n
    induction n with
    | zero =>
      intro k Sj w4 hn hj hrj hc
      refine sX11_fitting_49 hJ ?_
      have ek : k = 2 ^ td.2.2.1.length := by omega
      rw [ek] at hc ⊢
      obtain ⟨a1, a2, a3, a4⟩ := hc
      have e3' : gR Sj m 3 = some q := (hrj.2 m 3).trans e3
      obtain ⟨⟨l0, -⟩, -, -, w2, -⟩ := hLg.fk hrj hq
      have hlen := ftL_len td (2 ^ td.2.2.1.length)
      simp only [hk0, e3', l0, w2, hsh, a1, nIle (show 2 ^ td.2.2.1.length ≤ 100000 by omega) (show 2 ^ td.2.2.1.length ≤ 100000 by omega), Nat.le_refl, not_true_eq_false, false_imp_iff, true_imp_iff, and_true, true_and, Option.some.injEq, Prod.mk.injEq, exists_eq_left', exists_eq_left, true_and, and_true, and_self, true_or, or_true, forall_const, exists_const, exists_and_left, wcat, Nat.zero_le, Nat.reduceLeDiff, Int32.lt_irrefl, not_false_eq_true, Nat.zero_add, forall_eq]
      rw [show (0 : Int32) = nI 0 from rfl, nIeq (by omega) (by omega)]
      refine ⟨fun z => kI_i (hf Sj hj hrj a1 a2 ?_ a4), fun z => kI_i (hf _ ?_ (hrj.uI (by unfold scr; omega)) ?_ ?_ ?_ (fun u hu => ?_))⟩
      · rw [evI, if_neg (show ¬ (allS td).length = 0 from z)]; exact a3
      · obtain ⟨Hj, hHj⟩ := hj.2.1
        exact hj.fk (Fk.rf.uI (by unfold scr; omega)) hHj.one
      · simp only [gI_uI, gL_uL, gR_uR, gI_uL, gI_uR, gL_uI, gL_uR, gR_uI, gR_uL, true_and, and_true, Nat.add_right_cancel_iff, Nat.add_left_cancel_iff, Nat.reduceEqDiff, Nat.left_eq_add, Nat.right_eq_add, Nat.add_eq_left, Nat.add_eq_right, Nat.reduceAdd, Nat.succ_ne_self, reduceCtorEq, false_and, and_false, if_false, if_true, ite_true, ite_false, ite_self, Nat.succ_ne_zero, Nat.add_one_ne_zero, not_false_eq_true, not_true_eq_false, Nat.one_ne_zero, Nat.zero_ne_one]; exact a1
      · simp only [gI_uI, gL_uL, gR_uR, gI_uL, gI_uR, gL_uI, gL_uR, gR_uI, gR_uL, true_and, and_true, Nat.add_right_cancel_iff, Nat.add_left_cancel_iff, Nat.reduceEqDiff, Nat.left_eq_add, Nat.right_eq_add, Nat.add_eq_left, Nat.add_eq_right, Nat.reduceAdd, Nat.succ_ne_self, reduceCtorEq, false_and, and_false, if_false, if_true, ite_true, ite_false, ite_self, Nat.succ_ne_zero, Nat.add_one_ne_zero, not_false_eq_true, not_true_eq_false, Nat.one_ne_zero, Nat.zero_ne_one]; exact a2
      · simp only [gI_uI, gL_uL, gR_uR, gI_uL, gI_uR, gL_uI, gL_uR, gR_uI, gR_uL, true_and, and_true, Nat.add_right_cancel_iff, Nat.add_left_cancel_iff, Nat.reduceEqDiff, Nat.left_eq_add, Nat.right_eq_add, Nat.add_eq_left, Nat.add_eq_right, Nat.reduceAdd, Nat.succ_ne_self, reduceCtorEq, false_and, and_false, if_false, if_true, ite_true, ite_false, ite_self, Nat.succ_ne_zero, Nat.add_one_ne_zero, not_false_eq_true, not_true_eq_false, Nat.one_ne_zero, Nat.zero_ne_one]; rw [evI, if_pos (show (allS td).length = 0 from z)]; rfl
      · simp only [gI_uI, gL_uL, gR_uR, gI_uL, gI_uR, gL_uI, gL_uR, gR_uI, gR_uL, true_and, and_true, Nat.add_right_cancel_iff, Nat.add_left_cancel_iff, Nat.reduceEqDiff, Nat.left_eq_add, Nat.right_eq_add, Nat.add_eq_left, Nat.add_eq_right, Nat.reduceAdd, Nat.succ_ne_self, reduceCtorEq, false_and, and_false, if_false, if_true, ite_true, ite_false, ite_self, Nat.succ_ne_zero, Nat.add_one_ne_zero, not_false_eq_true, not_true_eq_false, Nat.one_ne_zero, Nat.zero_ne_one]; exact a4 u hu
    | succ n ih =>
      intro k Sj w4 hn hj hrj hc
      refine sX11_fitting_49 hJ ?_
      have e3' : gR Sj m 3 = some q := (hrj.2 m 3).trans e3
      obtain ⟨⟨l0, -⟩, -, -, w2, -⟩ := hLg.fk hrj hq
      simp only [hk0, e3', l0, w2, hsh, nIle (show 2 ^ td.2.2.1.length ≤ 100000 by omega) (show k ≤ 100000 by omega), nI_1, Option.some.injEq, Prod.mk.injEq, exists_eq_left', exists_eq_left, true_and, and_true, and_self, true_or, or_true, forall_const, exists_const, exists_and_left, wcat, Nat.zero_le, Nat.reduceLeDiff, Int32.lt_irrefl, not_false_eq_true, Nat.zero_add, forall_eq]
      refine ⟨fun z => absurd z (by omega), fun _ => cm_fitsSet hj hv hL fun S2 h2 hr2 hx2 => ?_⟩
      have hc2 : ctr S2 m td k := ⟨(hx2.1 45 (by omega)).trans hc.1, (hx2.1 46 (by omega)).trans hc.2.1, (hx2.1 47 (by omega)).trans hc.2.2.1, fun u hu => (hx2.2 u).trans (hc.2.2.2 u hu)⟩
      have ihk := ih (k + 1)
      have hrk := hrj.trans hr2
      refine q_neb (fun z => ?_) (fun z => ?_)
      · obtain ⟨a1, a2, a3, a4⟩ := hc2
        have hlen := ftL_len td k
        -- the bits of the set are counted
        have inner : ∀ v n' u (Sk : qS), u + n' = td.2.2.1.length → v = fndG td i (k + 1) → MAt A Sk m V → Fk S Sk m → gI Sk m 45 = nI ((ftL td k).length + 1) → gI Sk m 46 = orL (ftL td k) 0 ||| nI k → gI Sk m 47 = andL (ftL td k) (nI (2 ^ td.2.2.1.length) - 1) &&& nI k → (∀ u', u' < td.2.2.1.length → gI Sk (m + 26) u' = nI (if u' < u then cntL u' (ftL td (k + 1)) else cntL u' (ftL td k))) → J 116 [some (.ref m), some (.int i), some (.int v), some (.int (nI k)), some (.int (nI u))] [] A Sk := by
          intro v n'
          induction n' with
          | zero =>
            intro u Sk hu hv' hj' hr' b1 b2 b3 b4
            refine sX11_fitting_116 hJ ?_
            have e3' : gR Sk m 3 = some q := (hr'.2 m 3).trans e3
            obtain ⟨⟨l0, -⟩, -, -, w2, -⟩ := hLg.fk hr' hq
            simp only [hk0, e3', l0, w2, nIle (show td.2.2.1.length ≤ 100000 by omega) (show u ≤ 100000 by omega), nI_1, Option.some.injEq, Prod.mk.injEq, exists_eq_left', exists_eq_left, true_and, and_true, and_self, true_or, or_true, forall_const, exists_const, exists_and_left, wcat, Nat.zero_le, Nat.reduceLeDiff, Int32.lt_irrefl, not_false_eq_true, Nat.zero_add, forall_eq]
            refine ⟨fun _ => ?_, fun y => absurd (by omega) y⟩
            rw [hv']
            refine ihk Sk _ (by omega) hj' hr' ⟨?_, ?_, ?_, fun u' hu' => ?_⟩
            · rw [ftL, if_pos z, List.length_append, List.length_singleton]; exact b1
            · rw [ftL, if_pos z, orL_app]; exact b2
            · rw [ftL, if_pos z, andL_app]; exact b3
            · have := b4 u' hu'
              rw [if_pos (by omega)] at this
              exact this
          | succ n' ihn =>
            intro u Sk hu hv' hj' hr' b1 b2 b3 b4
            refine sX11_fitting_116 hJ ?_
            have e3' : gR Sk m 3 = some q := (hr'.2 m 3).trans e3
            obtain ⟨⟨l0, -⟩, -, -, w2, -⟩ := hLg.fk hr' hq
            obtain ⟨⟨k0, k1, k2, k3, k4, k5, k6, k7, k8, k9, k10, k11, k12, k13, k14, k15, k16, k17, k18, k19, k20, k21, k22, k23, k24, k25, k26⟩, ⟨r5, r15, r16, r17, r18, r21, r22, r23, r24, r25, r26, r27, r28, r29, r30, r31, r32, r33, r34, r35, r36, r37, r38, r39, r40, r48⟩⟩ := hj'.1
            obtain ⟨Hk, hHk⟩ := hj'.2.1
            have b5 := b4 u (by omega)
            rw [if_neg (Nat.lt_irrefl _)] at b5
            simp only [k0, e3', l0, w2, k26, r48, cl_n (show u ≤ 100000 by omega), vp_n (show u < 4 by omega) (show 4 ≤ 100000 by omega), b5, nIle (show td.2.2.1.length ≤ 100000 by omega) (show u ≤ 100000 by omega), nI_1, Int32.add_zero, Option.some.injEq, Prod.mk.injEq, exists_eq_left', exists_eq_left, true_and, and_true, and_self, true_or, or_true, forall_const, exists_const, exists_and_left, wcat, Nat.zero_le, Nat.reduceLeDiff, Int32.lt_irrefl, not_false_eq_true, Nat.zero_add, forall_eq]
            refine ⟨fun y => absurd y (by omega), fun _ => cm_bit ?_⟩
            have go : ∀ x, x = nI (cntL u (ftL td (k + 1))) → J 116 [some (.ref m), some (.int i), some (.int v), some (.int (nI k)), some (.int (nI (u + 1)))] [] A (uI Sk (m + 26) u x) := by
              intro x ex
              refine ihn (u + 1) _ (by omega) hv' (hj'.fk (Fk.rf.uI (by unfold scr; omega)) hHk.c) (hr'.uI (by unfold scr; omega)) (by simp only [gI_uI, gL_uL, gR_uR, gI_uL, gI_uR, gL_uI, gL_uR, gR_uI, gR_uL, true_and, and_true, Nat.add_right_cancel_iff, Nat.add_left_cancel_iff, Nat.reduceEqDiff, Nat.left_eq_add, Nat.right_eq_add, Nat.add_eq_left, Nat.add_eq_right, Nat.reduceAdd, Nat.succ_ne_self, reduceCtorEq, false_and, and_false, if_false, if_true, ite_true, ite_false, ite_self, Nat.succ_ne_zero, Nat.add_one_ne_zero, not_false_eq_true, not_true_eq_false, Nat.one_ne_zero, Nat.zero_ne_one]; exact b1) (by simp only [gI_uI, gL_uL, gR_uR, gI_uL, gI_uR, gL_uI, gL_uR, gR_uI, gR_uL, true_and, and_true, Nat.add_right_cancel_iff, Nat.add_left_cancel_iff, Nat.reduceEqDiff, Nat.left_eq_add, Nat.right_eq_add, Nat.add_eq_left, Nat.add_eq_right, Nat.reduceAdd, Nat.succ_ne_self, reduceCtorEq, false_and, and_false, if_false, if_true, ite_true, ite_false, ite_self, Nat.succ_ne_zero, Nat.add_one_ne_zero, not_false_eq_true, not_true_eq_false, Nat.one_ne_zero, Nat.zero_ne_one]; exact b2) (by simp only [gI_uI, gL_uL, gR_uR, gI_uL, gI_uR, gL_uI, gL_uR, gR_uI, gR_uL, true_and, and_true, Nat.add_right_cancel_iff, Nat.add_left_cancel_iff, Nat.reduceEqDiff, Nat.left_eq_add, Nat.right_eq_add, Nat.add_eq_left, Nat.add_eq_right, Nat.reduceAdd, Nat.succ_ne_self, reduceCtorEq, false_and, and_false, if_false, if_true, ite_true, ite_false, ite_self, Nat.succ_ne_zero, Nat.add_one_ne_zero, not_false_eq_true, not_true_eq_false, Nat.one_ne_zero, Nat.zero_ne_one]; exact b3) (fun u' hu' => ?_)
              rw [gI_uI]
              by_cases e : u' = u
              · rw [if_pos ⟨rfl, e⟩, e, if_pos (by omega)]; exact ex
              · rw [if_neg (fun w => e w.2), b4 u' hu']
                by_cases e2 : u' < u
                · rw [if_pos e2, if_pos (by omega)]
                · rw [if_neg e2, if_neg (by omega)]
            have ec : cntL u (ftL td (k + 1)) = cntL u (ftL td k) + if bitB (nI k) (nI u) then 1 else 0 := by rw [ftL, if_pos z, cntL_app]
            refine q_eqb (fun y => ?_) (fun y => ?_)
            · rw [y] at ec
              have := go _ rfl
              rw [ec] at this
              exact this
            · rw [y] at ec
              have := go _ rfl
              rw [ec] at this
              exact this
        have start : ∀ v, v = fndG td i (k + 1) → J 116 [some (.ref m), some (.int i), some (.int v), some (.int (nI k)), some (.int 0)] [] A (uI (uI (uI S2 m 45 (nI ((ftL td k).length + 1))) m 46 (orL (ftL td k) 0 ||| nI k)) m 47 (andL (ftL td k) (nI (2 ^ td.2.2.1.length) - 1) &&& nI k)) := by
          intro v hv'
          obtain ⟨H2, hH2⟩ := h2.2.1
          have hFk : Fk S2 (uI (uI (uI S2 m 45 (nI ((ftL td k).length + 1))) m 46 (orL (ftL td k) 0 ||| nI k)) m 47 (andL (ftL td k) (nI (2 ^ td.2.2.1.length) - 1) &&& nI k)) m := ((Fk.rf.uI (by unfold scr; omega)).uI (by unfold scr; omega)).uI (by unfold scr; omega)
          refine inner v td.2.2.1.length 0 _ (by omega) hv' (h2.fk hFk hH2.one.one.one) (hrk.trans hFk) (by simp only [gI_uI, gL_uL, gR_uR, gI_uL, gI_uR, gL_uI, gL_uR, gR_uI, gR_uL, true_and, and_true, Nat.add_right_cancel_iff, Nat.add_left_cancel_iff, Nat.reduceEqDiff, Nat.left_eq_add, Nat.right_eq_add, Nat.add_eq_left, Nat.add_eq_right, Nat.reduceAdd, Nat.succ_ne_self, reduceCtorEq, false_and, and_false, if_false, if_true, ite_true, ite_false, ite_self, Nat.succ_ne_zero, Nat.add_one_ne_zero, not_false_eq_true, not_true_eq_false, Nat.one_ne_zero, Nat.zero_ne_one]) (by simp only [gI_uI, gL_uL, gR_uR, gI_uL, gI_uR, gL_uI, gL_uR, gR_uI, gR_uL, true_and, and_true, Nat.add_right_cancel_iff, Nat.add_left_cancel_iff, Nat.reduceEqDiff, Nat.left_eq_add, Nat.right_eq_add, Nat.add_eq_left, Nat.add_eq_right, Nat.reduceAdd, Nat.succ_ne_self, reduceCtorEq, false_and, and_false, if_false, if_true, ite_true, ite_false, ite_self, Nat.succ_ne_zero, Nat.add_one_ne_zero, not_false_eq_true, not_true_eq_false, Nat.one_ne_zero, Nat.zero_ne_one]) (by simp only [gI_uI, gL_uL, gR_uR, gI_uL, gI_uR, gL_uI, gL_uR, gR_uI, gR_uL, true_and, and_true, Nat.add_right_cancel_iff, Nat.add_left_cancel_iff, Nat.reduceEqDiff, Nat.left_eq_add, Nat.right_eq_add, Nat.add_eq_left, Nat.add_eq_right, Nat.reduceAdd, Nat.succ_ne_self, reduceCtorEq, false_and, and_false, if_false, if_true, ite_true, ite_false, ite_self, Nat.succ_ne_zero, Nat.add_one_ne_zero, not_false_eq_true, not_true_eq_false, Nat.one_ne_zero, Nat.zero_ne_one]) (fun u' hu' => ?_)
          simp only [gI_uI, gL_uL, gR_uR, gI_uL, gI_uR, gL_uI, gL_uR, gR_uI, gR_uL, true_and, and_true, Nat.add_right_cancel_iff, Nat.add_left_cancel_iff, Nat.reduceEqDiff, Nat.left_eq_add, Nat.right_eq_add, Nat.add_eq_left, Nat.add_eq_right, Nat.reduceAdd, Nat.succ_ne_self, reduceCtorEq, false_and, and_false, if_false, if_true, ite_true, ite_false, ite_self, Nat.succ_ne_zero, Nat.add_one_ne_zero, not_false_eq_true, not_true_eq_false, Nat.one_ne_zero, Nat.zero_ne_one]
          rw [if_neg (Nat.not_lt_zero _)]
          exact a4 u' hu'
        simp only [hk0, a1, a2, a3, nI_1, Option.some.injEq, Prod.mk.injEq, exists_eq_left', exists_eq_left, true_and, and_true, and_self, true_or, or_true, forall_const, exists_const, exists_and_left, wcat, Nat.zero_le, Nat.reduceLeDiff, Int32.lt_irrefl, not_false_eq_true, Nat.zero_add, forall_eq, gI_uI, gL_uL, gR_uR, gI_uL, gI_uR, gL_uI, gL_uR, gR_uI, gR_uL, true_and, and_true, Nat.add_right_cancel_iff, Nat.add_left_cancel_iff, Nat.reduceEqDiff, Nat.left_eq_add, Nat.right_eq_add, Nat.add_eq_left, Nat.add_eq_right, Nat.reduceAdd, Nat.succ_ne_self, reduceCtorEq, false_and, and_false, if_false, if_true, ite_true, ite_false, ite_self, Nat.succ_ne_zero, Nat.add_one_ne_zero, not_false_eq_true, not_true_eq_false, Nat.one_ne_zero, Nat.zero_ne_one]
        refine ⟨fun y => start _ ?_, fun y => start _ ?_⟩
        · rw [fndG, if_pos z, if_neg y]
        · rw [fndG, if_pos z, if_pos y]
      · have e1 : ftL td (k + 1) = ftL td k := by rw [ftL, if_neg (by rw [z]; decide)]
        have e2 : fndG td i (k + 1) = fndG td i k := by rw [fndG, if_neg (by rw [z]; decide)]
        rw [e2] at ihk
        refine ihk S2 _ (by omega) h2 hrk ?_
        unfold ctr
        rw [e1]
        exact hc2
  have zero : ∀ n k (Sj : qS) (w4 : Option Value), k + n = 4 → MAt A Sj m V → Fk S Sj m → gI Sj m 45 = 0 → gI Sj m 46 = 0 → gI Sj m 47 = nI (2 ^ td.2.2.1.length) - 1 → (∀ u, u < k → gI Sj (m + 26) u = 0) → J 29 [some (.ref m), some (.int i), some (.int (-1)), some (.int (nI k)), w4] [] A Sj := by
    intro n
    induction n with
    | zero =>
      intro k Sj w4 hn hj hrj b1 b2 b3 b4
      refine sX11_fitting_29 hJ ?_
      have ek : k = 4 := by omega
      subst ek
      have q4 : ((4 : Int32) ≤ nI 4) = True := by decide
      simp only [q4, not_true_eq_false, false_imp_iff, true_imp_iff, and_true]
      exact loop (2 ^ td.2.2.1.length) 0 Sj _ (by omega) hj hrj ⟨b1, b2, b3, fun u hu => b4 u (by omega)⟩
    | succ n ih =>
      intro k Sj w4 hn hj hrj b1 b2 b3 b4
      refine sX11_fitting_29 hJ ?_
      have q4 : ((4 : Int32) ≤ nI k) = False := by rw [show (4 : Int32) = nI 4 from rfl, nIle (by omega) (by omega)]; simp; omega
      obtain ⟨⟨k0, k1, k2, k3, k4, k5, k6, k7, k8, k9, k10, k11, k12, k13, k14, k15, k16, k17, k18, k19, k20, k21, k22, k23, k24, k25, k26⟩, ⟨r5, r15, r16, r17, r18, r21, r22, r23, r24, r25, r26, r27, r28, r29, r30, r31, r32, r33, r34, r35, r36, r37, r38, r39, r40, r48⟩⟩ := hj.1
      obtain ⟨Hk, hHk⟩ := hj.2.1
      simp only [q4, k0, k26, r48, cl_n (show k ≤ 100000 by omega), vp_n (show k < 4 by omega) (show 4 ≤ 100000 by omega), nI_1, not_false_eq_true, false_imp_iff, true_imp_iff, true_and, Option.some.injEq, Prod.mk.injEq, exists_eq_left', exists_eq_left, true_and, and_true, and_self, true_or, or_true, forall_const, exists_const, exists_and_left, wcat, Nat.zero_le, Nat.reduceLeDiff, Int32.lt_irrefl, not_false_eq_true, Nat.zero_add, forall_eq]
      refine ih (k + 1) _ _ (by omega) (hj.fk (Fk.rf.uI (by unfold scr; omega)) hHk.c) (hrj.uI (by unfold scr; omega)) (by simp only [gI_uI, gL_uL, gR_uR, gI_uL, gI_uR, gL_uI, gL_uR, gR_uI, gR_uL, true_and, and_true, Nat.add_right_cancel_iff, Nat.add_left_cancel_iff, Nat.reduceEqDiff, Nat.left_eq_add, Nat.right_eq_add, Nat.add_eq_left, Nat.add_eq_right, Nat.reduceAdd, Nat.succ_ne_self, reduceCtorEq, false_and, and_false, if_false, if_true, ite_true, ite_false, ite_self, Nat.succ_ne_zero, Nat.add_one_ne_zero, not_false_eq_true, not_true_eq_false, Nat.one_ne_zero, Nat.zero_ne_one]; exact b1) (by simp only [gI_uI, gL_uL, gR_uR, gI_uL, gI_uR, gL_uI, gL_uR, gR_uI, gR_uL, true_and, and_true, Nat.add_right_cancel_iff, Nat.add_left_cancel_iff, Nat.reduceEqDiff, Nat.left_eq_add, Nat.right_eq_add, Nat.add_eq_left, Nat.add_eq_right, Nat.reduceAdd, Nat.succ_ne_self, reduceCtorEq, false_and, and_false, if_false, if_true, ite_true, ite_false, ite_self, Nat.succ_ne_zero, Nat.add_one_ne_zero, not_false_eq_true, not_true_eq_false, Nat.one_ne_zero, Nat.zero_ne_one]; exact b2) (by simp only [gI_uI, gL_uL, gR_uR, gI_uL, gI_uR, gL_uI, gL_uR, gR_uI, gR_uL, true_and, and_true, Nat.add_right_cancel_iff, Nat.add_left_cancel_iff, Nat.reduceEqDiff, Nat.left_eq_add, Nat.right_eq_add, Nat.add_eq_left, Nat.add_eq_right, Nat.reduceAdd, Nat.succ_ne_self, reduceCtorEq, false_and, and_false, if_false, if_true, ite_true, ite_false, ite_self, Nat.succ_ne_zero, Nat.add_one_ne_zero, not_false_eq_true, not_true_eq_false, Nat.one_ne_zero, Nat.zero_ne_one]; exact b3) (fun u hu => ?_)
      rw [gI_uI]
      by_cases e : u = k
      · rw [if_pos ⟨rfl, e⟩]
      · rw [if_neg (fun w => e w.2)]; exact b4 u (by omega)
  refine sX11_fitting_0 hJ ?_
  obtain ⟨H, hH⟩ := h.2.1
  obtain ⟨⟨l0, -⟩, -, -, w2, -⟩ := hLg
  have eq1 : (q = m) = False := by simp only [eq_iff_iff, iff_false]; omega
  simp only [hk0, e3, l0, w2, hsh, eq1, Option.some.injEq, Prod.mk.injEq, exists_eq_left', exists_eq_left, true_and, and_true, and_self, true_or, or_true, forall_const, exists_const, exists_and_left, wcat, Nat.zero_le, Nat.reduceLeDiff, Int32.lt_irrefl, not_false_eq_true, Nat.zero_add, forall_eq, gI_uI, gL_uL, gR_uR, gI_uL, gI_uR, gL_uI, gL_uR, gR_uI, gR_uL, true_and, and_true, Nat.add_right_cancel_iff, Nat.add_left_cancel_iff, Nat.reduceEqDiff, Nat.left_eq_add, Nat.right_eq_add, Nat.add_eq_left, Nat.add_eq_right, Nat.reduceAdd, Nat.succ_ne_self, reduceCtorEq, false_and, and_false, if_false, if_true, ite_true, ite_false, ite_self, Nat.succ_ne_zero, Nat.add_one_ne_zero, not_false_eq_true, not_true_eq_false, Nat.one_ne_zero, Nat.zero_ne_one]
  have hFk : Fk S (uI (uI (uI S m 45 0) m 46 0) m 47 (nI (2 ^ td.2.2.1.length) - 1)) m := ((Fk.rf.uI (by unfold scr; omega)).uI (by unfold scr; omega)).uI (by unfold scr; omega)
  exact zero 4 0 _ _ (by omega) (h.fk hFk hH.one.one.one) hFk (by simp only [gI_uI, gL_uL, gR_uR, gI_uL, gI_uR, gL_uI, gL_uR, gR_uI, gR_uL, true_and, and_true, Nat.add_right_cancel_iff, Nat.add_left_cancel_iff, Nat.reduceEqDiff, Nat.left_eq_add, Nat.right_eq_add, Nat.add_eq_left, Nat.add_eq_right, Nat.reduceAdd, Nat.succ_ne_self, reduceCtorEq, false_and, and_false, if_false, if_true, ite_true, ite_false, ite_self, Nat.succ_ne_zero, Nat.add_one_ne_zero, not_false_eq_true, not_true_eq_false, Nat.one_ne_zero, Nat.zero_ne_one]) (by simp only [gI_uI, gL_uL, gR_uR, gI_uL, gI_uR, gL_uI, gL_uR, gR_uI, gR_uL, true_and, and_true, Nat.add_right_cancel_iff, Nat.add_left_cancel_iff, Nat.reduceEqDiff, Nat.left_eq_add, Nat.right_eq_add, Nat.add_eq_left, Nat.add_eq_right, Nat.reduceAdd, Nat.succ_ne_self, reduceCtorEq, false_and, and_false, if_false, if_true, ite_true, ite_false, ite_self, Nat.succ_ne_zero, Nat.add_one_ne_zero, not_false_eq_true, not_true_eq_false, Nat.one_ne_zero, Nat.zero_ne_one]) (by simp only [gI_uI, gL_uL, gR_uR, gI_uL, gI_uR, gL_uI, gL_uR, gR_uI, gR_uL, true_and, and_true, Nat.add_right_cancel_iff, Nat.add_left_cancel_iff, Nat.reduceEqDiff, Nat.left_eq_add, Nat.right_eq_add, Nat.add_eq_left, Nat.add_eq_right, Nat.reduceAdd, Nat.succ_ne_self, reduceCtorEq, false_and, and_false, if_false, if_true, ite_true, ite_false, ite_self, Nat.succ_ne_zero, Nat.add_one_ne_zero, not_false_eq_true, not_true_eq_false, Nat.one_ne_zero, Nat.zero_ne_one]) (fun u hu => absurd hu (Nat.not_lt_zero _))
end
