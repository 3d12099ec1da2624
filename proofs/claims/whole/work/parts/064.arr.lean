/-! arrays, new cells, Object's constructor -/
section
variable {own : String} {cc : ByteArray} {nL : Nat} {hi : Prop} {rok : Launch → Room → Nat → Heap → va_G → (Nat → ClassId) → (Nat → Nat) → (Nat → Nat) → qR → Prop} {pc : Nat}
theorem vp_in_lt {i : Int32} {n : Nat} (h : vp_in i n) : i.toNatClampNeg < n := Nat.not_le.mp fun q => h (Or.inr q)
theorem ok_iald (hd : decode cc pc = .ok (.iaload, 1)) : Okn own cc nL hi rok pc (x_iald 13) := by
  intro p l e R s m args below meth c Q b0 H0 D cy ad adV c0 s0 cap K rn J' X _ _ hJ ls st A S h g1 g2 g3 g4 H locs arr hH hS hl
  unfold x_iald at h; split at h
  · rename_i i a st'
    obtain ⟨n, h1, h2, h3⟩ := h
    have hc := (hH.2.2.2.1 _ _ h1).2
    exact W.iald (v := .int (gI S a i.toNatClampNeg)) X.1 X.2.1 hc ((X.2.2.2.2.2.1.1.2 1 _ rfl).1 n _) (fun q => by cases q) (by rw [arrV_size]; exact h2) (by rw [arrV_read _ _ (vp_in_lt h2)]) rfl rfl hd (hJ _ _ _ _ _ h3 g1 g2 g3 g4 H locs arr hH hS hl)
  · exact h.elim
theorem ok_bald (hd : decode cc pc = .ok (.baload, 1)) : Okn own cc nL hi rok pc (x_iald 12) := by
  intro p l e R s m args below meth c Q b0 H0 D cy ad adV c0 s0 cap K rn J' X _ _ hJ ls st A S h g1 g2 g3 g4 H locs arr hH hS hl
  unfold x_iald at h; split at h
  · rename_i i a st'
    obtain ⟨n, h1, h2, h3⟩ := h
    have hc := (hH.2.2.2.1 _ _ h1).2
    exact W.bald (v := .int (gI S a i.toNatClampNeg)) X.1 X.2.1 hc ((X.2.2.2.2.2.1.1.2 0 _ rfl).1 n _) (fun q => by cases q) (by rw [arrV_size]; exact h2) (by rw [arrV_read _ _ (vp_in_lt h2)]) rfl rfl hd (hJ _ _ _ _ _ h3 g1 g2 g3 g4 H locs arr hH hS hl)
  · exact h.elim
theorem ok_zald (hd : decode cc pc = .ok (.baload, 1)) : Okn own cc nL hi rok pc (x_iald 15) := by
  intro p l e R s m args below meth c Q b0 H0 D cy ad adV c0 s0 cap K rn J' X _ _ hJ ls st A S h g1 g2 g3 g4 H locs arr hH hS hl
  unfold x_iald at h; split at h
  · rename_i i a st'
    obtain ⟨n, h1, h2, h3⟩ := h
    have hc := (hH.2.2.2.1 _ _ h1).2
    exact W.zald (v := .int (gI S a i.toNatClampNeg)) X.1 X.2.1 hc ((X.2.2.2.2.2.1.1.2 3 _ rfl).1 n _) (fun q => by cases q) (by rw [arrV_size]; exact h2) (by rw [arrV_read _ _ (vp_in_lt h2)]) rfl rfl hd (hJ _ _ _ _ _ h3 g1 g2 g3 g4 H locs arr hH hS hl)
  · exact h.elim
theorem ok_lald (hd : decode cc pc = .ok (.laload, 1)) : Okn own cc nL hi rok pc x_lald := by
  intro p l e R s m args below meth c Q b0 H0 D cy ad adV c0 s0 cap K rn J' X _ _ hJ ls st A S h g1 g2 g3 g4 H locs arr hH hS hl
  unfold x_lald at h; split at h
  · rename_i i a st'
    obtain ⟨n, h1, h2, h3⟩ := h
    have hc := (hH.2.2.2.1 _ _ h1).2
    exact W.lald (v := .long (gL S a i.toNatClampNeg)) X.1 X.2.1 hc ((X.2.2.2.2.2.1.1.2 2 _ rfl).1 n _) (fun q => by cases q) (by rw [arrV_size]; exact h2) (by rw [arrV_read _ _ (vp_in_lt h2)]) rfl rfl hd (hJ _ _ _ _ _ h3 g1 g2 g3 g4 H locs arr hH hS hl)
  · exact h.elim
/-- kinds of rows of references: the row of tysL, the class of what is in it -/
def refK (kd t0 kc : Nat) (C : String) : Prop := (kd = 16 ∧ t0 = 4 ∧ kc = 3 ∧ C = RX3) ∨ (kd = 17 ∧ t0 = 5 ∧ kc = 4 ∧ C = RX4) ∨ (kd = 18 ∧ t0 = 6 ∧ kc = 8 ∧ C = RX8)
theorem refK.cell {kd t0 kc : Nat} {C : String} (h : refK kd t0 kc C) {b0 : Nat} {D : va_G} {cy : Nat → ClassId} {ad : Nat → Nat} {S : qS} {H : Heap} {a n : Nat} : cOk b0 D cy ad S H a (kd, n) ↔ b0 ≤ a ∧ H[a]? = some (arrV (cy kd) n (fun j => va_rf (gR S a j))) := by
  rcases h with ⟨rfl, -⟩ | ⟨rfl, -⟩ | ⟨rfl, -⟩ <;> exact Iff.rfl
theorem refK.ty {kd t0 kc : Nat} {C : String} (h : refK kd t0 kc C) (cy : Nat → ClassId) : (tysL cy)[t0]? = some (cy kd, .object C) := by
  rcases h with ⟨rfl, rfl, -, rfl⟩ | ⟨rfl, rfl, -, rfl⟩ | ⟨rfl, rfl, -, rfl⟩ <;> rfl
theorem refK.cls {kd t0 kc : Nat} {C : String} (h : refK kd t0 kc C) : kc < 12 ∧ ∃ T N, vwCl[kc]? = some (C, T, N) := by
  rcases h with ⟨-, -, rfl, rfl⟩ | ⟨-, -, rfl, rfl⟩ | ⟨-, -, rfl, rfl⟩ <;> exact ⟨by decide, _, _, rfl⟩
theorem ok_aald {kd t0 kc : Nat} {C : String} (hk : refK kd t0 kc C) (hd : decode cc pc = .ok (.aaload, 1)) : Okn own cc nL hi rok pc (x_aald kd) := by
  intro p l e R s m args below meth c Q b0 H0 D cy ad adV c0 s0 cap K rn J' X _ _ hJ ls st A S h g1 g2 g3 g4 H locs arr hH hS hl
  unfold x_aald at h; split at h
  · rename_i i a st'
    obtain ⟨n, h1, h2, q, h3, h4⟩ := h
    have hc := (hk.cell.mp (hH.2.2.2.1 _ _ h1)).2
    refine W.aald (v := va_rf (gR S a i.toNatClampNeg)) (ty := .object C) X.1 X.2.1 hc ((X.2.2.2.2.2.1.1.2 t0 _ (hk.ty cy)).1 n _) rfl (fun q => by cases q) (by rw [arrV_size]; exact h2) (by rw [arrV_read _ _ (vp_in_lt h2)]) rfl rfl hd ?_
    rw [h3]
    exact hJ _ _ _ _ _ h4 g1 g2 g3 g4 H locs arr hH hS hl
  · exact h.elim
theorem updV_i {S : qS} {a k : Nat} {v : Int32} : updV (fun j => Value.int (gI S a j)) k (.int v) = fun j => .int (gI (uI S a k v) a j) := by
  funext j
  by_cases h : j = k
  · subst h; simp [updV, gI_uI]
  · simp [updV, gI_uI, h]
theorem updV_l {S : qS} {a k : Nat} {v : Int64} : updV (fun j => Value.long (gL S a j)) k (.long v) = fun j => .long (gL (uL S a k v) a j) := by
  funext j
  by_cases h : j = k
  · subst h; simp [updV, gL_uL]
  · simp [updV, gL_uL, h]
theorem updV_r {S : qS} {a k v : Nat} : updV (fun j => va_rf (gR S a j)) k (.ref v) = fun j => va_rf (gR (uR S a k (some v)) a j) := by
  funext j
  by_cases h : j = k
  · subst h; simp [updV, gR_uR, va_rf]
  · simp [updV, gR_uR, h]
theorem ok_iast (hd : decode cc pc = .ok (.iastore, 1)) : Okn own cc nL hi rok pc x_iast := by
  intro p l e R s m args below meth c Q b0 H0 D cy ad adV c0 s0 cap K rn J' X _ _ hJ ls st A S h g1 g2 g3 g4 H locs arr hH hS hl
  unfold x_iast at h; split at h
  · rename_i v i a st'
    obtain ⟨n, h1, h2, h3⟩ := h
    have hc := hH.2.2.2.1 _ _ h1
    refine W.iast X.1 X.2.1 hc.2 ((X.2.2.2.2.2.1.1.2 1 _ rfl).1 n _) (fun q => by cases q) (by rw [arrV_size]; exact h2) rfl rfl hd fun H1 e1 z oq => ?_
    rw [arrV_store, updV_i] at e1
    exact hJ _ _ _ _ _ (h3 _ rfl) g1 g2 g3 g4 H1 _ arr (hH.put hc.1 z oq h1 ⟨hc.1, e1⟩ (fun b k hb => by rw [gI_uI, if_neg (fun z => hb z.1)]) (fun _ _ _ => rfl) (fun _ _ _ => rfl)) (hS.put z oq hc.1) hl
  · exact h.elim
theorem ok_bast (hd : decode cc pc = .ok (.bastore, 1)) : Okn own cc nL hi rok pc x_bast := by
  intro p l e R s m args below meth c Q b0 H0 D cy ad adV c0 s0 cap K rn J' X _ _ hJ ls st A S h g1 g2 g3 g4 H locs arr hH hS hl
  unfold x_bast at h; split at h
  · rename_i v i a st'
    obtain ⟨n, h1, h2, h3⟩ := h
    have hc := hH.2.2.2.1 _ _ h1
    refine W.bast X.1 X.2.1 hc.2 ((X.2.2.2.2.2.1.1.2 0 _ rfl).1 n _) (fun q => by cases q) (by rw [arrV_size]; exact h2) rfl rfl hd fun H1 e1 z oq => ?_
    rw [show narrow .byte (.int v) = .int v.toInt8.toInt32 from rfl, arrV_store, updV_i] at e1
    exact hJ _ _ _ _ _ (h3 _ rfl) g1 g2 g3 g4 H1 _ arr (hH.put hc.1 z oq h1 ⟨hc.1, e1⟩ (fun b k hb => by rw [gI_uI, if_neg (fun z => hb z.1)]) (fun _ _ _ => rfl) (fun _ _ _ => rfl)) (hS.put z oq hc.1) hl
  · exact h.elim
theorem ok_zast (hd : decode cc pc = .ok (.bastore, 1)) : Okn own cc nL hi rok pc x_zast := by
  intro p l e R s m args below meth c Q b0 H0 D cy ad adV c0 s0 cap K rn J' X _ _ hJ ls st A S h g1 g2 g3 g4 H locs arr hH hS hl
  unfold x_zast at h; split at h
  · rename_i v i a st'
    obtain ⟨n, h1, h2, hv, h3⟩ := h
    have hc := hH.2.2.2.1 _ _ h1
    refine W.zast X.1 X.2.1 hc.2 ((X.2.2.2.2.2.1.1.2 3 _ rfl).1 n _) (fun q => by cases q) (by rw [arrV_size]; exact h2) rfl rfl hd fun H1 e1 z oq => ?_
    rw [show narrow .boolean (.int v) = .int v by rcases hv with rfl | rfl <;> rfl, arrV_store, updV_i] at e1
    exact hJ _ _ _ _ _ (h3 _ rfl) g1 g2 g3 g4 H1 _ arr (hH.put hc.1 z oq h1 ⟨hc.1, e1⟩ (fun b k hb => by rw [gI_uI, if_neg (fun z => hb z.1)]) (fun _ _ _ => rfl) (fun _ _ _ => rfl)) (hS.put z oq hc.1) hl
  · exact h.elim
theorem ok_last (hd : decode cc pc = .ok (.lastore, 1)) : Okn own cc nL hi rok pc x_last := by
  intro p l e R s m args below meth c Q b0 H0 D cy ad adV c0 s0 cap K rn J' X _ _ hJ ls st A S h g1 g2 g3 g4 H locs arr hH hS hl
  unfold x_last at h; split at h
  · rename_i v i a st'
    obtain ⟨n, h1, h2, h3⟩ := h
    have hc := hH.2.2.2.1 _ _ h1
    refine W.last X.1 X.2.1 hc.2 ((X.2.2.2.2.2.1.1.2 2 _ rfl).1 n _) (fun q => by cases q) (by rw [arrV_size]; exact h2) rfl rfl hd fun H1 e1 z oq => ?_
    rw [arrV_store, updV_l] at e1
    exact hJ _ _ _ _ _ (h3 _ rfl) g1 g2 g3 g4 H1 _ arr (hH.put hc.1 z oq h1 ⟨hc.1, e1⟩ (fun _ _ _ => rfl) (fun b k hb => by rw [gL_uL, if_neg (fun z => hb z.1)]) (fun _ _ _ => rfl)) (hS.put z oq hc.1) hl
  · exact h.elim
theorem ok_aast {kd t0 kc : Nat} {C : String} (hk : refK kd t0 kc C) (hd : decode cc pc = .ok (.aastore, 1)) : Okn own cc nL hi rok pc (x_aast kd kc) := by
  intro p l e R s m args below meth c Q b0 H0 D cy ad adV c0 s0 cap K rn J' X _ _ hJ ls st A S h g1 g2 g3 g4 H locs arr hH hS hl
  unfold x_aast at h; split at h
  · rename_i v i a st'
    obtain ⟨n, h1, h2, hv, h3⟩ := h
    have hc := hk.cell.mp (hH.2.2.2.1 _ _ h1)
    have hcv := hH.2.2.2.1 _ _ hv
    obtain ⟨hk12, T, N, hcl⟩ := hk.cls
    rw [cOk_o hk12] at hcv
    obtain ⟨-, -, r, hr, cellV, v1, v2, v3, -⟩ := hcv
    have hK := X.2.2.2.2.2.1.1
    have hcls := (hK.1 kc _ hcl).2
    obtain ⟨kA, comp, k1, k2, k3, -⟩ := (hK.2 t0 _ (hk.ty cy)).2
    have hcomp : comp = D.1 kc := Option.some.inj (k3.symm.trans hcls.1)
    subst hcomp
    obtain ⟨kC, hkC, -⟩ := hcls.2
    refine W.aast X.1 X.2.1 hc.2 (fun q h => by cases h) (fun h => by cases h) k1 k2 rfl hkC ⟨fun q => h2 (Or.inl q), by rw [arrV_size]; exact vp_in_lt h2⟩ v1 (fun q h => by rw [v3] at h; cases h) (by rw [v2]; exact hkC) (by rw [v2]; exact va_assign hcls) rfl rfl hd fun H1 e1 z oq => ?_
    rw [arrV_store, updV_r] at e1
    exact hJ _ _ _ _ _ (h3 _ rfl) g1 g2 g3 g4 H1 _ arr (hH.put hc.1 z oq h1 (hk.cell.mpr ⟨hc.1, e1⟩) (fun _ _ _ => rfl) (fun _ _ _ => rfl) (fun b k hb => by rw [gR_uR, if_neg (fun z => hb z.1)])) (hS.put z oq hc.1) hl
  · exact h.elim
/-- a cell more -/
theorem Hp.grow {b0 : Nat} {H0 : Heap} {D : va_G} {cy : Nat → ClassId} {ad : Nat → Nat} {A : qA} {S : qS} {H H' : Heap} {k n w : Nat} (h : Hp b0 H0 D cy ad A S H) (z : H'.size = H.size + 1) (o : ∀ q : Nat, q < H.size → H'[q]? = H[q]?) (hc : cOk b0 D cy ad (uZ S A.2.1) H' A.2.1 (k, n)) : Hp b0 H0 D cy ad (newA A k n w) (uZ S A.2.1) H' := by
  have e := h.1
  refine ⟨by show H'.size = A.2.1 + 1; omega, by have := h.2.1; omega, fun q hq => by rw [o q (by have := h.2.1; omega)]; exact h.2.2.1 q hq, fun b kn hb => ?_, fun i hi => ?_⟩
  · by_cases hb' : b = A.2.1
    · subst hb'
      have hb2 : (if A.2.1 = A.2.1 then some (k, n) else A.1 A.2.1) = some kn := hb
      rw [if_pos rfl] at hb2
      cases hb2
      exact hc
    · have hb2 : (if b = A.2.1 then some (k, n) else A.1 b) = some kn := hb
      rw [if_neg hb'] at hb2
      refine (h.2.2.2.1 b kn hb2).kept (fun hl => o b hl) (fun j => ?_) (fun j => ?_) (fun j => ?_)
      · rw [gI_uZ, if_neg hb']
      · rw [gL_uZ, if_neg hb']
      · rw [gR_uZ, if_neg hb']
  · obtain ⟨q1, q2⟩ := h.2.2.2.2 i hi
    refine ⟨?_, q2⟩
    show (if ad i = A.2.1 then some (k, n) else A.1 (ad i)) = _
    rw [if_neg (by have := h.2.1; omega)]
    exact q1
theorem va_S.grow {b0 : Nat} {Hs H H' : Heap} {locs : List Loc} (h : va_S (fun q => b0 ≤ q) Hs H locs) (z : H'.size = H.size + 1) (o : ∀ q : Nat, q < H.size → H'[q]? = H[q]?) : va_S (fun q => b0 ≤ q) Hs H' locs :=
  ⟨by have := h.1; omega, fun q h1 h2 => by rw [o q (Nat.lt_of_lt_of_le h1 h.1)]; exact h.2.1 q h1 h2, h.2.2⟩
theorem le100 {n : Int32} (h : n ≤ 100000) : n.toNatClampNeg ≤ 100000 := by
  have h1 : n.toInt ≤ 100000 := by simpa using Int32.le_iff_toInt_le.mp h
  have h2 : n.toNatClampNeg = n.toInt.toNat := rfl
  omega
/-- newarray: the kind, its row of tysL -/
def newK (at' : ArrayType) (kd t0 : Nat) : Prop := (at' = .byte ∧ kd = 12 ∧ t0 = 0) ∨ (at' = .int ∧ kd = 13 ∧ t0 = 1) ∨ (at' = .long ∧ kd = 14 ∧ t0 = 2) ∨ (at' = .boolean ∧ kd = 15 ∧ t0 = 3)
theorem ok_newa {at' : ArrayType} {kd t0 : Nat} (hk : newK at' kd t0) (hd : decode cc pc = .ok (.newarray at', 2)) (hw : Cond.arrayClass (newarray.typeOf at') ∈ wsA) : Okn own cc nL hi rok pc (x_newa kd) := by
  intro p l e R s m args below meth c Q b0 H0 D cy ad adV c0 s0 cap K rn J' X _ _ hJ ls st A S h g1 g2 g3 g4 H locs arr hH hS hl
  unfold x_newa at h; split at h
  · rename_i n st'
    obtain ⟨h1, h2, h3, h4, h5⟩ := h
    have h2' := le100 h2
    obtain ⟨-, -, -, -, -, -, hRc, hRs, -⟩ := id X
    refine va_newaK X.1 X.2.1 (X.2.2.2.2.1 _ hw) rfl hd rfl h1 rfl ?_ (by omega) (by omega) hH.1 fun H1 cA e1 z o1 hAr hNm => ?_
    · rcases hk with ⟨rfl, -⟩ | ⟨rfl, -⟩ | ⟨rfl, -⟩ | ⟨rfl, -⟩ <;> simp [newarray.typeOf, componentBytes] <;> omega
    · have hsz := hH.1
      rw [← hsz] at o1 z
      rw [show A.2.2.1 - c0 + 1 = A.2.2.1 + 1 - c0 by omega, show A.2.2.2 - s0 + n.toNatClampNeg = A.2.2.2 + n.toNatClampNeg - s0 by omega]
      have hT := (X.2.2.2.2.2.1.1.2 t0 (cy kd, newarray.typeOf at') (by rcases hk with ⟨rfl, rfl, rfl⟩ | ⟨rfl, rfl, rfl⟩ | ⟨rfl, rfl, rfl⟩ | ⟨rfl, rfl, rfl⟩ <;> rfl)).2
      have hcy : cA = cy kd := by
        rcases hk with ⟨rfl, rfl, rfl⟩ | ⟨rfl, rfl, rfl⟩ | ⟨rfl, rfl, rfl⟩ | ⟨rfl, rfl, rfl⟩ <;> exact Option.some.inj (hNm.symm.trans hT)
      subst hcy
      refine hJ _ _ _ _ _ (h5 _ _ rfl rfl) (by show c0 ≤ A.2.2.1 + 1; omega) (by show s0 ≤ A.2.2.2 + _; omega) h3 h4 H1 locs arr (hH.grow (w := n.toNatClampNeg) z o1 ?_) (hS.grow z o1) hl
      have hb0 := hH.2.1
      rcases hk with ⟨rfl, rfl, rfl⟩ | ⟨rfl, rfl, rfl⟩ | ⟨rfl, rfl, rfl⟩ | ⟨rfl, rfl, rfl⟩
      all_goals refine ⟨by omega, ?_⟩
      all_goals rw [e1]
      all_goals simp only [gI_uZ, gL_uZ, if_true]
      all_goals rfl
  · exact h.elim
theorem ok_newr {kd t0 kc index : Nat} {C : String} (hk : refK kd t0 kc C) (hd : decode cc pc = .ok (.anewarray index, 3)) (hw : Cond.classLink own index C ∈ wsA) : Okn own cc nL hi rok pc (x_newr kd) := by
  intro p l e R s m args below meth c Q b0 H0 D cy ad adV c0 s0 cap K rn J' X _ _ hJ ls st A S h g1 g2 g3 g4 H locs arr hH hS hl
  unfold x_newr at h; split at h
  · rename_i n st'
    obtain ⟨h1, h2, h3, h4, h5⟩ := h
    have h2' := le100 h2
    obtain ⟨-, -, -, -, -, -, hRc, hRs, -⟩ := id X
    have hAO : va_AO C s := X.2.2.2.2.2.1.2.2.1 C (by rcases hk with ⟨-, -, -, rfl⟩ | ⟨-, -, -, rfl⟩ | ⟨-, -, -, rfl⟩ <;> simp)
    refine W.anew X.1 X.2.1 X.2.2.2.1 (X.2.2.2.2.1 _ hw) (va_AO.use hAO) rfl hd rfl h1 (by omega) (by omega) (by omega) fun cA kA comp f1 f2 f3 f4 => ?_
    generalize hH1 : H.push ({ cls := cA, slots := Array.replicate n.toNatClampNeg .null, vm := .none } : Cell) = H1
    have z : H1.size = H.size + 1 := by rw [← hH1, Array.size_push]
    have e1 : H1[H.size]? = some (arrV cA n.toNatClampNeg (fun _ => .null)) := by rw [← hH1, Array.getElem?_push_size, ← arrV_new]
    have o1 : ∀ q : Nat, q < H.size → H1[q]? = H[q]? := fun q hq => by rw [← hH1, Array.getElem?_push, if_neg (Nat.ne_of_lt hq)]
    have hsz := hH.1
    rw [show A.2.2.1 - c0 + 1 = A.2.2.1 + 1 - c0 by omega, show A.2.2.2 - s0 + n.toNatClampNeg = A.2.2.2 + n.toNatClampNeg - s0 by omega]
    obtain ⟨kA', comp', r1, r2, r3, r4⟩ := (X.2.2.2.2.2.1.1.2 t0 _ (hk.ty cy)).2
    have hcy : cA = cy kd := by
      first
        | exact Option.some.inj (f1.symm.trans r4)
        | exact Option.some.inj (f4.symm.trans r4)
    subst hcy
    rw [hsz] at e1 ⊢
    refine hJ _ _ _ _ _ (h5 _ _ rfl rfl) (by show c0 ≤ A.2.2.1 + 1; omega) (by show s0 ≤ A.2.2.2 + _; omega) h3 h4 H1 locs arr (hH.grow (w := n.toNatClampNeg) z o1 ?_) (hS.grow z o1) hl
    have hb0 := hH.2.1
    refine hk.cell.mpr ⟨by omega, ?_⟩
    rw [e1]
    simp only [gR_uZ, if_true]
    rfl
  · exact h.elim
theorem fv_zero : ∀ c, c < 12 → ∀ k, k < (ftcL.getD c []).length → True := fun _ _ _ _ => trivial
theorem ok_new {index ci N : Nat} {C : String} {T : u_T} {ty : Nat → FieldType} (hd : decode cc pc = .ok (.new index, 3)) (hC : ClsOk ci C T N ty) (hw : Cond.classLink own index C ∈ wsA) (hi1 : Cond.instantiable C N ∈ wsA) (hi2 : Cond.initialized C ∈ wsA) (ht : ∀ k, k < N → (ftc ci k = 0 ∧ defaultValue (ty k) = .int 0) ∨ (ftc ci k = 1 ∧ defaultValue (ty k) = .long 0) ∨ (ftc ci k = 2 ∧ defaultValue (ty k) = .null)) : Okn own cc nL hi rok pc (x_new ci N) := by
  intro p l e R s m args below meth c Q b0 H0 D cy ad adV c0 s0 cap K rn J' X _ _ hJ ls st A S h g1 g2 g3 g4 H locs arr hH hS hl
  obtain ⟨h3, h4, h5⟩ := h
  obtain ⟨hx, hb, -, hown, hts, hamb, hRc, hRs, -⟩ := id X
  have hKn := hamb.1.1 ci _ hC.2.1
  have hsz := hH.1
  refine W.newcK hx hb hown (hts _ hw) (hts _ hi1) (hts _ hi2) rfl hd (by omega) (by omega) hKn.2.1 hsz fun H1 kC hkC e1 z o1 => ?_
  rw [← hsz] at o1 z
  rw [show A.2.2.1 - c0 + 1 = A.2.2.1 + 1 - c0 by omega, show A.2.2.2 - s0 + N = A.2.2.2 + N - s0 by omega]
  refine hJ _ _ _ _ _ (h5 _ _ rfl rfl) (by show c0 ≤ A.2.2.1 + 1; omega) (by show s0 ≤ A.2.2.2 + _; omega) h3 h4 H1 locs arr (hH.grow (w := N) z o1 ?_) (hS.grow z o1) hl
  rw [cOk_o hC.1]
  have hb0 := hH.2.1
  refine ⟨hC.1, by omega, _, hC.2.1, (u_born ty hts hC.2.2.1 hKn hkC e1 hC.2.2.2.1).to fun k hk => ?_⟩
  rcases ht k hk with ⟨t1, t2⟩ | ⟨t1, t2⟩ | ⟨t1, t2⟩ <;> rw [t1, t2] <;> simp [fval, gI_uZ, gL_uZ, gR_uZ, va_rf]
theorem ok_oinit {index : Nat} (hd : decode cc pc = .ok (.invokespecial index, 3)) (hw : Cond.methodLink own index Lib.objectInit ∈ wsA) (hw1 : Cond.instanceMethod Lib.objectInit ∈ wsA) (hw2 : Cond.code Lib.objectInit ⟨#[0xb1]⟩ 1 none ∈ wsA) : Okn own cc nL hi rok pc x_oinit := by
  intro p l e R s m args below meth c Q b0 H0 D cy ad adV c0 s0 cap K rn J' X _ _ hJ ls st A S h g1 g2 g3 g4 H locs arr hH hS hl
  unfold x_oinit at h; split at h
  · exact W.objInit X.1 X.2.1 X.2.2.2.1 (X.2.2.2.2.1 _ hw) (X.2.2.2.2.1 _ hw1) (X.2.2.2.2.1 _ hw2) rfl hl.2.1 rfl hd X.2.2.2.2.2.2.2.2.1 (by have := X.2.2.2.2.2.2.2.2.2.1; show 0 + 0 + 12 ≤ R.locals; omega) (hJ _ _ _ _ _ h g1 g2 g3 g4 H locs arr hH hS hl)
  · exact h.elim
end
