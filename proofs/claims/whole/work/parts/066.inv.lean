/-! the transformers of calls -/
section
variable {own : String} {cc : ByteArray} {nL : Nat} {hi : Prop} {pc : Nat}

theorem ok_ivI {index y n ci N : Nat} {C : String} {T : u_T} {ty : Nat → FieldType} (hd : decode cc pc = .ok (.invokevirtual index, 3)) (hC : ClsOk ci C T N ty) (hcls : (yN y).cls = C) (hw : cwKV own index y n) (hbud : bud y = (0, 0)) : Okn own cc nL hi RnOk pc (x_ivI ci y (n + 1)) := by
  intro p l e R s m args below meth c Q b0 H0 D cy ad adV c0 s0 cap K rn J' X _ hrok hJ ls st A S h g1 g2 g3 g4 H locs arr hH hS hl
  unfold x_ivI at h; split at h
  · rename_i a as rest hp
    obtain ⟨h1, h2, h3⟩ := h
    obtain ⟨xs, e1, e2, e3⟩ := popn_eq _ _ _ _ _ hp
    have e4 : xs = as.reverse ++ [.ref a] := by
      have := congrArg List.reverse e3
      simpa using this.symm
    have e5 : as.length = n := by rw [e4] at e1; simpa using e1
    rw [e2, e4, List.append_assoc]
    show W p l e R s m args below meth c H locs _ _ Q (F0 m pc arr (as.reverse ++ (.ref a :: rest)))
    have hrun := q_callV (cells := A.2.2.1 - c0) (slots := A.2.2.2 - s0) (locs := locs) (e := e) (below := below) X hrok hH (hl.2.1) hC hcls h1 hw e5 h2 hd h3 (by rw [hbud, X.2.2.2.2.2.2.1, X.2.2.2.2.2.2.2.1]; constructor <;> (show _ + 0 ≤ _; omega))
    rw [hbud] at hrun
    refine q_run (mb := (0, 0)) X hrun hS fun v A' S' H' locs' hK hc hs hH' hS' => ?_
    obtain ⟨hA', r, hv, hf⟩ := hK
    subst hA'; subst hv
    exact hJ _ _ _ _ _ hf g1 g2 g3 g4 H' locs' arr hH' hS' hl
  · exact h.elim
theorem ok_isI {index y n : Nat} (hd : decode cc pc = .ok (.invokestatic index, 3)) (hw : cwKS own index y n) (hbud : bud y = (0, 0)) : Okn own cc nL hi RnOk pc (x_isI y n) := by
  intro p l e R s m args below meth c Q b0 H0 D cy ad adV c0 s0 cap K rn J' X _ hrok hJ ls st A S h g1 g2 g3 g4 H locs arr hH hS hl
  unfold x_isI at h; split at h
  · rename_i as rest hp
    obtain ⟨h2, h3⟩ := h
    obtain ⟨xs, e1, e2, e3⟩ := popn_eq _ _ _ _ _ hp
    have e4 : xs = as.reverse := by
      have := congrArg List.reverse e3
      simpa using this.symm
    have e5 : as.length = n := by rw [e4] at e1; simpa using e1
    rw [e2, e4]
    have hrun := q_callS (cells := A.2.2.1 - c0) (slots := A.2.2.2 - s0) (locs := locs) (e := e) (below := below) X hrok hH (hl.2.1) hw e5 h2 hd h3 (by rw [hbud, X.2.2.2.2.2.2.1, X.2.2.2.2.2.2.2.1]; constructor <;> (show _ + 0 ≤ _; omega))
    rw [hbud] at hrun
    refine q_run (mb := (0, 0)) X hrun hS fun v A' S' H' locs' hK hc hs hH' hS' => ?_
    obtain ⟨hA', r, hv, hf⟩ := hK
    subst hA'; subst hv
    exact hJ _ _ _ _ _ hf g1 g2 g3 g4 H' locs' arr hH' hS' hl
  · exact h.elim
theorem ok_ivZ {index y n ci N : Nat} {C : String} {T : u_T} {ty : Nat → FieldType} (hd : decode cc pc = .ok (.invokevirtual index, 3)) (hC : ClsOk ci C T N ty) (hcls : (yN y).cls = C) (hw : cwKV own index y n) (hbud : bud y = (0, 0)) : Okn own cc nL hi RnOk pc (x_ivZ ci y (n + 1)) := by
  intro p l e R s m args below meth c Q b0 H0 D cy ad adV c0 s0 cap K rn J' X _ hrok hJ ls st A S h g1 g2 g3 g4 H locs arr hH hS hl
  unfold x_ivZ at h; split at h
  · rename_i a as rest hp
    obtain ⟨h1, h2, h3⟩ := h
    obtain ⟨xs, e1, e2, e3⟩ := popn_eq _ _ _ _ _ hp
    have e4 : xs = as.reverse ++ [.ref a] := by
      have := congrArg List.reverse e3
      simpa using this.symm
    have e5 : as.length = n := by rw [e4] at e1; simpa using e1
    rw [e2, e4, List.append_assoc]
    show W p l e R s m args below meth c H locs _ _ Q (F0 m pc arr (as.reverse ++ (.ref a :: rest)))
    have hrun := q_callV (cells := A.2.2.1 - c0) (slots := A.2.2.2 - s0) (locs := locs) (e := e) (below := below) X hrok hH (hl.2.1) hC hcls h1 hw e5 h2 hd h3 (by rw [hbud, X.2.2.2.2.2.2.1, X.2.2.2.2.2.2.2.1]; constructor <;> (show _ + 0 ≤ _; omega))
    rw [hbud] at hrun
    refine q_run (mb := (0, 0)) X hrun hS fun v A' S' H' locs' hK hc hs hH' hS' => ?_
    obtain ⟨hA', r, hv, hf⟩ := hK
    subst hA'; subst hv
    exact hJ _ _ _ _ _ hf g1 g2 g3 g4 H' locs' arr hH' hS' hl
  · exact h.elim
theorem ok_isZ {index y n : Nat} (hd : decode cc pc = .ok (.invokestatic index, 3)) (hw : cwKS own index y n) (hbud : bud y = (0, 0)) : Okn own cc nL hi RnOk pc (x_isZ y n) := by
  intro p l e R s m args below meth c Q b0 H0 D cy ad adV c0 s0 cap K rn J' X _ hrok hJ ls st A S h g1 g2 g3 g4 H locs arr hH hS hl
  unfold x_isZ at h; split at h
  · rename_i as rest hp
    obtain ⟨h2, h3⟩ := h
    obtain ⟨xs, e1, e2, e3⟩ := popn_eq _ _ _ _ _ hp
    have e4 : xs = as.reverse := by
      have := congrArg List.reverse e3
      simpa using this.symm
    have e5 : as.length = n := by rw [e4] at e1; simpa using e1
    rw [e2, e4]
    have hrun := q_callS (cells := A.2.2.1 - c0) (slots := A.2.2.2 - s0) (locs := locs) (e := e) (below := below) X hrok hH (hl.2.1) hw e5 h2 hd h3 (by rw [hbud, X.2.2.2.2.2.2.1, X.2.2.2.2.2.2.2.1]; constructor <;> (show _ + 0 ≤ _; omega))
    rw [hbud] at hrun
    refine q_run (mb := (0, 0)) X hrun hS fun v A' S' H' locs' hK hc hs hH' hS' => ?_
    obtain ⟨hA', r, hv, hf⟩ := hK
    subst hA'; subst hv
    exact hJ _ _ _ _ _ hf g1 g2 g3 g4 H' locs' arr hH' hS' hl
  · exact h.elim
theorem ok_ivL {index y n ci N : Nat} {C : String} {T : u_T} {ty : Nat → FieldType} (hd : decode cc pc = .ok (.invokevirtual index, 3)) (hC : ClsOk ci C T N ty) (hcls : (yN y).cls = C) (hw : cwKV own index y n) (hbud : bud y = (0, 0)) : Okn own cc nL hi RnOk pc (x_ivL ci y (n + 1)) := by
  intro p l e R s m args below meth c Q b0 H0 D cy ad adV c0 s0 cap K rn J' X _ hrok hJ ls st A S h g1 g2 g3 g4 H locs arr hH hS hl
  unfold x_ivL at h; split at h
  · rename_i a as rest hp
    obtain ⟨h1, h2, h3⟩ := h
    obtain ⟨xs, e1, e2, e3⟩ := popn_eq _ _ _ _ _ hp
    have e4 : xs = as.reverse ++ [.ref a] := by
      have := congrArg List.reverse e3
      simpa using this.symm
    have e5 : as.length = n := by rw [e4] at e1; simpa using e1
    rw [e2, e4, List.append_assoc]
    show W p l e R s m args below meth c H locs _ _ Q (F0 m pc arr (as.reverse ++ (.ref a :: rest)))
    have hrun := q_callV (cells := A.2.2.1 - c0) (slots := A.2.2.2 - s0) (locs := locs) (e := e) (below := below) X hrok hH (hl.2.1) hC hcls h1 hw e5 h2 hd h3 (by rw [hbud, X.2.2.2.2.2.2.1, X.2.2.2.2.2.2.2.1]; constructor <;> (show _ + 0 ≤ _; omega))
    rw [hbud] at hrun
    refine q_run (mb := (0, 0)) X hrun hS fun v A' S' H' locs' hK hc hs hH' hS' => ?_
    obtain ⟨hA', r, hv, hf⟩ := hK
    subst hA'; subst hv
    exact hJ _ _ _ _ _ hf g1 g2 g3 g4 H' locs' arr hH' hS' hl
  · exact h.elim
theorem ok_isL {index y n : Nat} (hd : decode cc pc = .ok (.invokestatic index, 3)) (hw : cwKS own index y n) (hbud : bud y = (0, 0)) : Okn own cc nL hi RnOk pc (x_isL y n) := by
  intro p l e R s m args below meth c Q b0 H0 D cy ad adV c0 s0 cap K rn J' X _ hrok hJ ls st A S h g1 g2 g3 g4 H locs arr hH hS hl
  unfold x_isL at h; split at h
  · rename_i as rest hp
    obtain ⟨h2, h3⟩ := h
    obtain ⟨xs, e1, e2, e3⟩ := popn_eq _ _ _ _ _ hp
    have e4 : xs = as.reverse := by
      have := congrArg List.reverse e3
      simpa using this.symm
    have e5 : as.length = n := by rw [e4] at e1; simpa using e1
    rw [e2, e4]
    have hrun := q_callS (cells := A.2.2.1 - c0) (slots := A.2.2.2 - s0) (locs := locs) (e := e) (below := below) X hrok hH (hl.2.1) hw e5 h2 hd h3 (by rw [hbud, X.2.2.2.2.2.2.1, X.2.2.2.2.2.2.2.1]; constructor <;> (show _ + 0 ≤ _; omega))
    rw [hbud] at hrun
    refine q_run (mb := (0, 0)) X hrun hS fun v A' S' H' locs' hK hc hs hH' hS' => ?_
    obtain ⟨hA', r, hv, hf⟩ := hK
    subst hA'; subst hv
    exact hJ _ _ _ _ _ hf g1 g2 g3 g4 H' locs' arr hH' hS' hl
  · exact h.elim
theorem ok_ivV {index y n ci N : Nat} {C : String} {T : u_T} {ty : Nat → FieldType} (hd : decode cc pc = .ok (.invokevirtual index, 3)) (hC : ClsOk ci C T N ty) (hcls : (yN y).cls = C) (hw : cwKV own index y n) (hbud : bud y = (0, 0)) : Okn own cc nL hi RnOk pc (x_ivV ci y (n + 1)) := by
  intro p l e R s m args below meth c Q b0 H0 D cy ad adV c0 s0 cap K rn J' X _ hrok hJ ls st A S h g1 g2 g3 g4 H locs arr hH hS hl
  unfold x_ivV at h; split at h
  · rename_i a as rest hp
    obtain ⟨h1, h2, h3⟩ := h
    obtain ⟨xs, e1, e2, e3⟩ := popn_eq _ _ _ _ _ hp
    have e4 : xs = as.reverse ++ [.ref a] := by
      have := congrArg List.reverse e3
      simpa using this.symm
    have e5 : as.length = n := by rw [e4] at e1; simpa using e1
    rw [e2, e4, List.append_assoc]
    show W p l e R s m args below meth c H locs _ _ Q (F0 m pc arr (as.reverse ++ (.ref a :: rest)))
    have hrun := q_callV (cells := A.2.2.1 - c0) (slots := A.2.2.2 - s0) (locs := locs) (e := e) (below := below) X hrok hH (hl.2.1) hC hcls h1 hw e5 h2 hd h3 (by rw [hbud, X.2.2.2.2.2.2.1, X.2.2.2.2.2.2.2.1]; constructor <;> (show _ + 0 ≤ _; omega))
    rw [hbud] at hrun
    refine q_run (mb := (0, 0)) X hrun hS fun v A' S' H' locs' hK hc hs hH' hS' => ?_
    obtain ⟨hA', hv, hf⟩ := hK
    subst hA'; subst hv
    exact hJ _ _ _ _ _ hf g1 g2 g3 g4 H' locs' arr hH' hS' hl
  · exact h.elim
theorem ok_isV {index y n : Nat} (hd : decode cc pc = .ok (.invokestatic index, 3)) (hw : cwKS own index y n) (hbud : bud y = (0, 0)) : Okn own cc nL hi RnOk pc (x_isV y n) := by
  intro p l e R s m args below meth c Q b0 H0 D cy ad adV c0 s0 cap K rn J' X _ hrok hJ ls st A S h g1 g2 g3 g4 H locs arr hH hS hl
  unfold x_isV at h; split at h
  · rename_i as rest hp
    obtain ⟨h2, h3⟩ := h
    obtain ⟨xs, e1, e2, e3⟩ := popn_eq _ _ _ _ _ hp
    have e4 : xs = as.reverse := by
      have := congrArg List.reverse e3
      simpa using this.symm
    have e5 : as.length = n := by rw [e4] at e1; simpa using e1
    rw [e2, e4]
    have hrun := q_callS (cells := A.2.2.1 - c0) (slots := A.2.2.2 - s0) (locs := locs) (e := e) (below := below) X hrok hH (hl.2.1) hw e5 h2 hd h3 (by rw [hbud, X.2.2.2.2.2.2.1, X.2.2.2.2.2.2.2.1]; constructor <;> (show _ + 0 ≤ _; omega))
    rw [hbud] at hrun
    refine q_run (mb := (0, 0)) X hrun hS fun v A' S' H' locs' hK hc hs hH' hS' => ?_
    obtain ⟨hA', hv, hf⟩ := hK
    subst hA'; subst hv
    exact hJ _ _ _ _ _ hf g1 g2 g3 g4 H' locs' arr hH' hS' hl
  · exact h.elim
theorem ok_ixV {index y n : Nat} (hd : decode cc pc = .ok (.invokespecial index, 3)) (hw : cwKI own index y n) (hbud : bud y = (0, 0)) : Okn own cc nL hi RnOk pc (x_ixV y (n + 1)) := by
  intro p l e R s m args below meth c Q b0 H0 D cy ad adV c0 s0 cap K rn J' X _ hrok hJ ls st A S h g1 g2 g3 g4 H locs arr hH hS hl
  unfold x_ixV at h; split at h
  · rename_i a as rest hp
    obtain ⟨xs, e1, e2, e3⟩ := popn_eq _ _ _ _ _ hp
    have e4 : xs = as.reverse ++ [.ref a] := by
      have := congrArg List.reverse e3
      simpa using this.symm
    have e5 : as.length = n := by rw [e4] at e1; simpa using e1
    rw [e2, e4, List.append_assoc]
    show W p l e R s m args below meth c H locs _ _ Q (F0 m pc arr (as.reverse ++ (.ref a :: rest)))
    obtain ⟨h2, h3⟩ := h
    have hrun := q_callI (cells := A.2.2.1 - c0) (slots := A.2.2.2 - s0) (locs := locs) (e := e) (below := below) X hrok hH (hl.2.1) hw e5 h2 hd h3 (by rw [hbud, X.2.2.2.2.2.2.1, X.2.2.2.2.2.2.2.1]; constructor <;> (show _ + 0 ≤ _; omega))
    rw [hbud] at hrun
    refine q_run (mb := (0, 0)) X hrun hS fun v A' S' H' locs' hK hc hs hH' hS' => ?_
    obtain ⟨hA', hv, hf⟩ := hK
    subst hA'; subst hv
    exact hJ _ _ _ _ _ hf g1 g2 g3 g4 H' locs' arr hH' hS' hl
  · exact h.elim
theorem ok_ixVa {index y n mc ms : Nat} (hd : decode cc pc = .ok (.invokespecial index, 3)) (hw : cwKI own index y n) (hbud : bud y = (mc, ms)) : Okn own cc nL hi RnOk pc (x_ixVa y (n + 1) mc ms) := by
  intro p l e R s m args below meth c Q b0 H0 D cy ad adV c0 s0 cap K rn J' X _ hrok hJ ls st A S h g1 g2 g3 g4 H locs arr hH hS hl
  unfold x_ixVa at h; split at h
  · rename_i a as rest hp
    obtain ⟨xs, e1, e2, e3⟩ := popn_eq _ _ _ _ _ hp
    have e4 : xs = as.reverse ++ [.ref a] := by
      have := congrArg List.reverse e3
      simpa using this.symm
    have e5 : as.length = n := by rw [e4] at e1; simpa using e1
    rw [e2, e4, List.append_assoc]
    show W p l e R s m args below meth c H locs _ _ Q (F0 m pc arr (as.reverse ++ (.ref a :: rest)))
    obtain ⟨h2, h6, h7, h3⟩ := h
    have hrun := q_callI (cells := A.2.2.1 - c0) (slots := A.2.2.2 - s0) (locs := locs) (e := e) (below := below) X hrok hH (hl.2.1) hw e5 h2 hd h3 (by rw [hbud, X.2.2.2.2.2.2.1, X.2.2.2.2.2.2.2.1]; constructor <;> (dsimp only; omega))
    rw [hbud] at hrun
    refine q_run (mb := (mc, ms)) X hrun hS fun v A' S' H' locs' hK hc hs hH' hS' => ?_
    obtain ⟨k1, k2, hv, hf⟩ := hK
    subst hv
    dsimp only at hc hs ⊢
    rw [show A.2.2.1 - c0 + mc = A'.2.2.1 - c0 by omega, show A.2.2.2 - s0 + ms = A'.2.2.2 - s0 by omega]
    exact hJ _ _ _ _ _ hf (by omega) (by omega) (by omega) (by omega) H' locs' arr hH' hS' hl
  · exact h.elim
theorem ok_ivIa {index y n mc ms ci N : Nat} {C : String} {T : u_T} {ty : Nat → FieldType} (hd : decode cc pc = .ok (.invokevirtual index, 3)) (hC : ClsOk ci C T N ty) (hcls : (yN y).cls = C) (hw : cwKV own index y n) (hbud : bud y = (mc, ms)) : Okn own cc nL hi RnOk pc (x_ivIa ci y (n + 1) mc ms) := by
  intro p l e R s m args below meth c Q b0 H0 D cy ad adV c0 s0 cap K rn J' X _ hrok hJ ls st A S h g1 g2 g3 g4 H locs arr hH hS hl
  unfold x_ivIa at h; split at h
  · rename_i a as rest hp
    obtain ⟨xs, e1, e2, e3⟩ := popn_eq _ _ _ _ _ hp
    have e4 : xs = as.reverse ++ [.ref a] := by
      have := congrArg List.reverse e3
      simpa using this.symm
    have e5 : as.length = n := by rw [e4] at e1; simpa using e1
    rw [e2, e4, List.append_assoc]
    show W p l e R s m args below meth c H locs _ _ Q (F0 m pc arr (as.reverse ++ (.ref a :: rest)))
    obtain ⟨h1, h2, h6, h7, h3⟩ := h
    have hrun := q_callV (cells := A.2.2.1 - c0) (slots := A.2.2.2 - s0) (locs := locs) (e := e) (below := below) X hrok hH (hl.2.1) hC hcls h1 hw e5 h2 hd h3 (by rw [hbud, X.2.2.2.2.2.2.1, X.2.2.2.2.2.2.2.1]; constructor <;> (dsimp only; omega))
    rw [hbud] at hrun
    refine q_run (mb := (mc, ms)) X hrun hS fun v A' S' H' locs' hK hc hs hH' hS' => ?_
    obtain ⟨k1, k2, r, hv, hf⟩ := hK
    subst hv
    dsimp only at hc hs ⊢
    rw [show A.2.2.1 - c0 + mc = A'.2.2.1 - c0 by omega, show A.2.2.2 - s0 + ms = A'.2.2.2 - s0 by omega]
    exact hJ _ _ _ _ _ hf (by omega) (by omega) (by omega) (by omega) H' locs' arr hH' hS' hl
  · exact h.elim
theorem ok_copy {rok : Launch → Room → Nat → Heap → va_G → (Nat → ClassId) → (Nat → Nat) → (Nat → Nat) → qR → Prop} {index : Nat} (hd : decode cc pc = .ok (.invokestatic index, 3)) (hw : Cond.methodLink own index arraycopyName ∈ wsA) (hw1 : Cond.native arraycopyName ∈ wsA) (hw2 : Cond.static arraycopyName ∈ wsA) (hw3 : Cond.initialized "java/lang/System" ∈ wsA) : Okn own cc nL hi rok pc x_copy := by
  intro p l e R s m args below meth c Q b0 H0 D cy ad adV c0 s0 cap K rn J' X _ hrok hJ ls st A S h g1 g2 g3 g4 H locs arr hH hS hl
  unfold x_copy at h; split at h
  · rename_i n j b i a st'
    obtain ⟨hcat, na, nb, ha, hb, h1, h2, h3, h4, h5, h6⟩ := h
    have hca := (hH.2.2.2.1 _ _ ha).2
    have hcb := hH.2.2.2.1 _ _ hb
    have nn : ∀ z : Int32, ¬ z < 0 → z.toInt = (z.toNatClampNeg : Int) := by
      intro z hz
      have hz0 : (0 : Int) ≤ z.toInt := by
        have := Int32.not_lt.mp hz
        simpa using Int32.le_iff_toInt_le.mp this
      show z.toInt = ((z.toInt.toNat : Nat) : Int)
      omega
    intro T0 hT X0
    obtain ⟨-, k0, hk0, cm0, hkk0⟩ := (X.2.2.2.2.2.1.1.2 1 _ rfl).1 na (fun q => .int (gI S a q))
    obtain ⟨-, k1, hk1, cm1, hkk1⟩ := (X.2.2.2.2.2.1.1.2 1 _ rfl).1 nb (fun q => .int (gI S b q))
    obtain ⟨vm', X', step⟩ := X0.arraycopy X.1 X.2.2.2.1 (X.2.2.2.2.1 _ hw) (X.2.2.2.2.1 _ hw1) (X.2.2.2.2.1 _ hw2) (X.2.2.2.2.1 _ hw3) (src := a) (dst := b) (cs := arrV (cy 13) na (fun q => .int (gI S a q))) (cd := arrV (cy 13) nb (fun q => .int (gI S b q))) (srcPos := i) (destPos := j) (n := n) (by rw [hT]; exact hca) (by rw [hT]; exact hcb.2)
      (fun _ h => by cases h) (fun _ h => by cases h) (fun h => by cases h) (fun h => by cases h) hk0 hk1 hkk0 hkk1 (by simp [refKind]) h1 h2 h3
      (by rw [nn i h1, nn n h3, arrV_size]; omega)
      (by rw [nn j h2, nn n h3, arrV_size]; omega)
      (fun vm₁ _ q hq => by
        have e : (arrV (cy 13) na (fun q => .int (gI S a q))).slots.getD (i.toNatClampNeg + q) .null = .int (gI S a (i.toNatClampNeg + q)) := by
          rw [Array.getD_eq_getD_getElem?, arrV_read _ _ (by omega)]
          rfl
        refine ⟨?_, ?_⟩
        · rw [e]; rfl
        · rw [e]; exact trivial)
      (g := F0 m pc arr (.int n :: .int j :: .ref b :: .int i :: .ref a :: st')) rfl hl.2.1 (rest := st') rfl (by rw [X.2.1]; exact hd) X.2.2.2.2.2.2.2.2.1 (by
        have := X.2.2.2.2.2.2.2.2.2.1
        show 2 * 0 + (st'.map fun v => v.category).sum + (7 + 11) ≤ _
        rw [wcat_eq]; omega)
    have e1 : copied (arrV (cy 13) na (fun q => .int (gI S a q))) (arrV (cy 13) nb (fun q => .int (gI S b q))) i j n = arrV (cy 13) nb (fun q => .int (va_cpy (gI S a) (gI S b) i.toNatClampNeg j.toNatClampNeg n.toNatClampNeg q)) := va_copied (fun z => .int z) (cy 13) (cy 13) (gI S a) (gI S b) h4
    rw [e1] at X' step
    have hlt : b < H.size := (Array.getElem?_eq_some_iff.mp hcb.2).1
    have hheap : ((T0.setVm vm').setCell b (arrV (cy 13) nb (fun q => .int (va_cpy (gI S a) (gI S b) i.toNatClampNeg j.toNatClampNeg n.toNatClampNeg q)))).heap = H.setIfInBounds b (arrV (cy 13) nb (fun q => .int (va_cpy (gI S a) (gI S b) i.toNatClampNeg j.toNatClampNeg n.toNatClampNeg q))) := by rw [← hT]; rfl
    have z : (H.setIfInBounds b (arrV (cy 13) nb (fun q => .int (va_cpy (gI S a) (gI S b) i.toNatClampNeg j.toNatClampNeg n.toNatClampNeg q)))).size = H.size := by simp
    have oq : ∀ q : Nat, q ≠ b → (H.setIfInBounds b (arrV (cy 13) nb (fun q => .int (va_cpy (gI S a) (gI S b) i.toNatClampNeg j.toNatClampNeg n.toNatClampNeg q))))[q]? = H[q]? := fun q hq => by simp [Array.getElem?_setIfInBounds, Ne.symm hq]
    have hH' := hH.put (S' := uC S a i.toNatClampNeg b j.toNatClampNeg n.toNatClampNeg) hcb.1 z oq hb ⟨hcb.1, by
        rw [show (H.setIfInBounds b (arrV (cy 13) nb (fun q => .int (va_cpy (gI S a) (gI S b) i.toNatClampNeg j.toNatClampNeg n.toNatClampNeg q))))[b]? = some (arrV (cy 13) nb (fun q => .int (va_cpy (gI S a) (gI S b) i.toNatClampNeg j.toNatClampNeg n.toNatClampNeg q))) by simp [Array.getElem?_setIfInBounds, hlt]]
        congr 2
        funext q
        rw [gI_uC]
        simp [va_cpy]⟩ (fun c k hc => by rw [gI_uC, if_neg (fun z => hc z.1)]) (fun _ _ _ => rfl) (fun _ _ _ => rfl)
    obtain ⟨t, a1, b1⟩ := hJ _ _ _ _ _ (h6 _ rfl) g1 g2 g3 g4 _ _ arr hH' ⟨by rw [z]; exact hS.1, fun q g1 g2 => by
        rw [oq q (fun e => g2 (by rw [e]; exact hcb.1))]
        exact hS.2.1 q g1 g2, fun q hq => by
        rcases List.mem_append.mp hq with h | h
        · exact hS.2.2 q h
        · obtain ⟨z, -, hz⟩ := List.mem_map.mp h
          rw [← hz]
          exact hcb.1⟩ hl _ hheap X'
    exact ⟨t, step t a1, b1⟩
  · exact h.elim
end
/-! returns: here the end that is asked for is the method's own -/
def Okr (own : String) (cc : ByteArray) (nL : Nat) (hi : Prop) (rok : Launch → Room → Nat → Heap → va_G → (Nat → ClassId) → (Nat → Nat) → (Nat → Nat) → qR → Prop) (ret : Option FieldType) (mb : Nat × Nat) (pc : Nat) (sm : qM) : Prop :=
  ∀ (p : Program) (l : Launch) (e : Env) (R : Room) (s : State) (m : MethodId) (args : Array Value) (below : List Frame) (meth : Method) (c : Code) (b0 : Nat) (H0 : Heap) (D : va_G) (cy : Nat → ClassId) (ad adV : Nat → Nat) (A0 : qA) (K : qK) (rn : qR) (J' : qJ),
    MX p R s m args meth c own cc nL b0 H0 D cy ad adV A0.2.2.1 A0.2.2.2 (A0.2.2.1 + mb.1, A0.2.2.2 + mb.2) → (hi → meth.name = "<init>") → meth.sig.returnType = ret → meth.locks = false → rok l R b0 H0 D cy ad adV rn →
    (∀ pc ls st A S, J' pc ls st A S → MJ p l e R s m args below meth c (MQ below (QcM b0 H0 D cy ad A0 mb K) args s mb.1 mb.2 (fun q => b0 ≤ q)) b0 H0 D cy ad A0.2.2.1 A0.2.2.2 (A0.2.2.1 + mb.1, A0.2.2.2 + mb.2) pc ls st A S) →
    ∀ ls st A S, sm rn K (A0.2.2.1 + mb.1, A0.2.2.2 + mb.2) pc ls st A S J' → MJ p l e R s m args below meth c (MQ below (QcM b0 H0 D cy ad A0 mb K) args s mb.1 mb.2 (fun q => b0 ≤ q)) b0 H0 D cy ad A0.2.2.1 A0.2.2.2 (A0.2.2.1 + mb.1, A0.2.2.2 + mb.2) pc ls st A S
section
variable {own : String} {cc : ByteArray} {nL : Nat} {hi : Prop} {pc : Nat} {ret : Option FieldType} {mb : Nat × Nat} {rok : Launch → Room → Nat → Heap → va_G → (Nat → ClassId) → (Nat → Nat) → (Nat → Nat) → qR → Prop}
theorem Okn.r {sm : qM} (h : Okn own cc nL hi rok pc sm) : Okr own cc nL hi rok ret mb pc sm := by
  intro p l e R s m args below meth c b0 H0 D cy ad adV A0 K rn J' X hm _ _ hrok hJ ls st A S hs
  exact h p l e R s m args below meth c _ b0 H0 D cy ad adV _ _ _ K rn J' X hm hrok hJ ls st A S hs
theorem ok_iret (hd : decode cc pc = .ok (.ireturn, 1)) (hret : ret = some .int) (hmb : mb = (0, 0)) : Okr own cc nL hi rok ret mb pc x_iret := by
  intro p l e R s m args below meth c b0 H0 D cy ad adV A0 K rn J' X hm hr hlk hrok hJ ls st A S h g1 g2 g3 g4 H locs arr hH hS hl
  subst hmb; subst hret
  dsimp only at g3 g4
  rw [show A.2.2.1 - A0.2.2.1 = 0 by omega, show A.2.2.2 - A0.2.2.2 = 0 by omega]
  unfold x_iret at h; split at h
  · exact W.iret X.1 X.2.1 hr (fun t ht hW => ⟨_, A, S, rfl, h, by dsimp only; omega, by dsimp only; omega, by rw [ht]; exact hH, by rw [ht]; exact hS.1⟩) (fun q hq => hS.2.2 q hq) hd hlk
  · exact h.elim
theorem ok_zret (hd : decode cc pc = .ok (.ireturn, 1)) (hret : ret = some .boolean) (hmb : mb = (0, 0)) : Okr own cc nL hi rok ret mb pc x_zret := by
  intro p l e R s m args below meth c b0 H0 D cy ad adV A0 K rn J' X hm hr hlk hrok hJ ls st A S h g1 g2 g3 g4 H locs arr hH hS hl
  subst hmb; subst hret
  dsimp only at g3 g4
  rw [show A.2.2.1 - A0.2.2.1 = 0 by omega, show A.2.2.2 - A0.2.2.2 = 0 by omega]
  unfold x_zret at h; split at h
  · exact W.zret X.1 X.2.1 hr (by rcases h.1 with rfl | rfl <;> rfl) (fun t ht hW => ⟨_, A, S, rfl, h.2, by dsimp only; omega, by dsimp only; omega, by rw [ht]; exact hH, by rw [ht]; exact hS.1⟩) (fun q hq => hS.2.2 q hq) hd hlk
  · exact h.elim
theorem ok_lret (hd : decode cc pc = .ok (.lreturn, 1)) (hret : ret = some .long) (hmb : mb = (0, 0)) : Okr own cc nL hi rok ret mb pc x_lret := by
  intro p l e R s m args below meth c b0 H0 D cy ad adV A0 K rn J' X hm hr hlk hrok hJ ls st A S h g1 g2 g3 g4 H locs arr hH hS hl
  subst hmb; subst hret
  dsimp only at g3 g4
  rw [show A.2.2.1 - A0.2.2.1 = 0 by omega, show A.2.2.2 - A0.2.2.2 = 0 by omega]
  unfold x_lret at h; split at h
  · exact W.lret X.1 X.2.1 hr (fun t ht hW => ⟨_, A, S, rfl, h, by dsimp only; omega, by dsimp only; omega, by rw [ht]; exact hH, by rw [ht]; exact hS.1⟩) (fun q hq => hS.2.2 q hq) hd hlk
  · exact h.elim
theorem ok_vret (hd : decode cc pc = .ok (.return_, 1)) (hret : ret = none) (hmb : mb = (0, 0)) : Okr own cc nL hi rok ret mb pc x_vret := by
  intro p l e R s m args below meth c b0 H0 D cy ad adV A0 K rn J' X hm hr hlk hrok hJ ls st A S h g1 g2 g3 g4 H locs arr hH hS hl
  subst hmb; subst hret
  dsimp only at g3 g4
  rw [show A.2.2.1 - A0.2.2.1 = 0 by omega, show A.2.2.2 - A0.2.2.2 = 0 by omega]
  unfold x_vret at h; split at h
  · exact W.vret X.1 X.2.1 hr (fun t ht hW => ⟨_, A, S, rfl, h, by dsimp only; omega, by dsimp only; omega, by rw [ht]; exact hH, by rw [ht]; exact hS.1⟩) (fun q hq => hS.2.2 q hq) hd hlk
  · exact h.elim
theorem ok_vreta (hd : decode cc pc = .ok (.return_, 1)) (hret : ret = none) : Okr own cc nL hi rok ret mb pc x_vreta := by
  intro p l e R s m args below meth c b0 H0 D cy ad adV A0 K rn J' X hm hr hlk hrok hJ ls st A S h g1 g2 g3 g4 H locs arr hH hS hl
  subst hret
  dsimp only at g3 g4
  refine W.widen (k := mb.1) (n := mb.2) (by omega) (by omega) ?_
  unfold x_vreta at h; split at h
  · exact W.vret X.1 X.2.1 hr (fun t ht hW => ⟨_, (A.1, A.2.1, A0.2.2.1 + mb.1, A0.2.2.2 + mb.2), S, rfl, h, rfl, rfl, by rw [ht]; exact hH, by rw [ht]; exact hS.1⟩) (fun q hq => hS.2.2 q hq) hd hlk
  · exact h.elim
theorem ok_ireta (hd : decode cc pc = .ok (.ireturn, 1)) (hret : ret = some .int) : Okr own cc nL hi rok ret mb pc x_ireta := by
  intro p l e R s m args below meth c b0 H0 D cy ad adV A0 K rn J' X hm hr hlk hrok hJ ls st A S h g1 g2 g3 g4 H locs arr hH hS hl
  subst hret
  dsimp only at g3 g4
  refine W.widen (k := mb.1) (n := mb.2) (by omega) (by omega) ?_
  unfold x_ireta at h; split at h
  · exact W.iret X.1 X.2.1 hr (fun t ht hW => ⟨_, (A.1, A.2.1, A0.2.2.1 + mb.1, A0.2.2.2 + mb.2), S, rfl, h, rfl, rfl, by rw [ht]; exact hH, by rw [ht]; exact hS.1⟩) (fun q hq => hS.2.2 q hq) hd hlk
  · exact h.elim
end
