/-! the rows that read and write cells -/
def ClsOk (c : Nat) (C : String) (T : u_T) (N : Nat) (ty : Nat → FieldType) : Prop := c < 12 ∧ vwCl[c]? = some (C, T, N) ∧ (∀ w ∈ u_ws C T N, w ∈ wsA) ∧ (∀ k, k < N → parseFieldDescriptor (T k).2.2.1 = some (ty k)) ∧ (∀ a, a < N → ∀ b, b < N → a ≠ b → (T a).2.1 ≠ (T b).2.1)
theorem cOk_o {b0 : Nat} {D : va_G} {cy : Nat → ClassId} {ad : Nat → Nat} {S : qS} {H : Heap} {a c n : Nat} (hc : c < 12) : cOk b0 D cy ad S H a (c, n) = (c < 12 ∧ b0 ≤ a ∧ ∃ r : vw_C, vwCl[c]? = some r ∧ t_OB a (D.1 c) r.2.2 (D.2 c) H (fun k => fval (ftc c k) S a k)) := by
  rcases (by omega : c = 0 ∨ c = 1 ∨ c = 2 ∨ c = 3 ∨ c = 4 ∨ c = 5 ∨ c = 6 ∨ c = 7 ∨ c = 8 ∨ c = 9 ∨ c = 10 ∨ c = 11) with rfl | rfl | rfl | rfl | rfl | rfl | rfl | rfl | rfl | rfl | rfl | rfl <;> rfl
theorem cOk.kept {b0 : Nat} {D : va_G} {cy : Nat → ClassId} {ad : Nat → Nat} {S S' : qS} {H H' : Heap} {a : Nat} {kn : Nat × Nat} (h : cOk b0 D cy ad S H a kn) (e : a < H.size → H'[a]? = H[a]?) (hI : ∀ k, gI S' a k = gI S a k) (hL : ∀ k, gL S' a k = gL S a k) (hR : ∀ k, gR S' a k = gR S a k) : cOk b0 D cy ad S' H' a kn := by
  obtain ⟨c, n⟩ := kn
  have eI : (fun j => Value.int (gI S' a j)) = (fun j => Value.int (gI S a j)) := funext fun j => by rw [hI]
  have eL : (fun j => Value.long (gL S' a j)) = (fun j => Value.long (gL S a j)) := funext fun j => by rw [hL]
  have eR : (fun j => va_rf (gR S' a j)) = (fun j => va_rf (gR S a j)) := funext fun j => by rw [hR]
  unfold cOk at h ⊢
  dsimp only at h ⊢
  split at h
  all_goals try (rw [e ((Array.getElem?_eq_some_iff.mp h.2).1)]; first | rw [eI]; exact h | rw [eL]; exact h | rw [eR]; exact h)
  · exact h
  · obtain ⟨h0, h1, r, hr, hO⟩ := h
    refine ⟨h0, h1, r, hr, (hO.kept (e ?_)).to (fun k _ => ?_)⟩
    · obtain ⟨cell, q, -⟩ := hO
      exact (Array.getElem?_eq_some_iff.mp q).1
    · unfold fval
      split
      · rw [hI]
      · rw [hL]
      · rw [hR]
theorem cOk.lt {b0 : Nat} {H0 : Heap} {D : va_G} {cy : Nat → ClassId} {ad : Nat → Nat} {A : qA} {S : qS} {H : Heap} {a : Nat} {kn : Nat × Nat} (hH : Hp b0 H0 D cy ad A S H) (ha : A.1 a = some kn) : a < H.size := by
  have h := hH.2.2.2.1 a kn ha
  obtain ⟨c, n⟩ := kn
  unfold cOk at h
  dsimp only at h
  split at h
  all_goals try exact (Array.getElem?_eq_some_iff.mp h.2).1
  · have := (hH.2.2.2.2 n h.1).2
    have := hH.2.1
    omega
  · obtain ⟨_, _, r, hr, cell, q, -⟩ := h
    exact (Array.getElem?_eq_some_iff.mp q).1
/-- a write at a -/
theorem Hp.put {b0 : Nat} {H0 : Heap} {D : va_G} {cy : Nat → ClassId} {ad : Nat → Nat} {A : qA} {S S' : qS} {H H' : Heap} {a : Nat} {kn : Nat × Nat} (h : Hp b0 H0 D cy ad A S H) (hb : b0 ≤ a) (z : H'.size = H.size) (o : ∀ q : Nat, q ≠ a → H'[q]? = H[q]?) (ha : A.1 a = some kn) (hc : cOk b0 D cy ad S' H' a kn)
    (hI : ∀ b k, b ≠ a → gI S' b k = gI S b k) (hL : ∀ b k, b ≠ a → gL S' b k = gL S b k) (hR : ∀ b k, b ≠ a → gR S' b k = gR S b k) : Hp b0 H0 D cy ad A S' H' := by
  refine ⟨z.trans h.1, by rw [z]; exact h.2.1, fun q hq => by rw [o q (by omega)]; exact h.2.2.1 q hq, fun b kn' hb' => ?_, h.2.2.2.2⟩
  by_cases e : b = a
  · subst e
    cases ha.symm.trans hb'
    exact hc
  · exact (h.2.2.2.1 b kn' hb').kept (fun _ => o b e) (fun k => hI b k e) (fun k => hL b k e) (fun k => hR b k e)
section
variable {own : String} {cc : ByteArray} {nL : Nat} {hi : Prop} {rok : Launch → Room → Nat → Heap → va_G → (Nat → ClassId) → (Nat → Nat) → (Nat → Nat) → qR → Prop} {pc : Nat}
section
variable {p : Program} {l : Launch} {e : Env} {R : Room} {s : State} {m : MethodId} {args : Array Value} {below : List Frame} {meth : Method} {c : Code} {H : Heap} {locs : List Loc} {cells slots : Nat} {Q : State → Prop} {b0 : Nat} {H0 : Heap} {D : va_G} {cy : Nat → ClassId} {ad adV : Nat → Nat} {c0 s0 : Nat} {cap : Nat × Nat} {A : qA} {S : qS} {arr : Array Slot} {rest : List Value} {a : Nat}
theorem q_get {index ci k N : Nat} {C : String} {T : u_T} {ty : Nat → FieldType} (X : MX p R s m args meth c own cc nL b0 H0 D cy ad adV c0 s0 cap) (hH : Hp b0 H0 D cy ad A S H) (ha : A.1 a = some (ci, 0)) (hC : ClsOk ci C T N ty) (hk : k < N) (hl : Cond.fieldLink own index (T k).1 (T k).2.1 (T k).2.2.1 ∈ wsA ∨ ∃ host, Cond.fieldLinkNest own index (T k).1 (T k).2.1 (T k).2.2.1 host ∈ nestL) (hd : decode cc pc = .ok (.getfield index, 3))
    (kk : W p l e R s m args below meth c H locs cells slots Q (F0 m (pc + 3) arr (fval (ftc ci k) S a k :: rest))) : W p l e R s m args below meth c H locs cells slots Q (F0 m pc arr (.ref a :: rest)) := by
  obtain ⟨hx, hb, -, hown, hts, hamb, -⟩ := X
  have h := hH.2.2.2.1 a _ ha
  rw [cOk_o hC.1] at h
  obtain ⟨-, -, r, hr, cell, q1, q2, q3, q4⟩ := h
  cases hC.2.1.symm.trans hr
  obtain ⟨hS, hfc, kC, hkC, hkind⟩ := hamb.1.1 ci _ hC.2.1
  obtain ⟨cf, kf, fi, f, hi, hsl⟩ := hS k hk
  have hst := (u_facts hfc hkC (u_lays hts hC.2.2.1 hk) hi).1
  have hv : cell.slots[f.slot]? = some (fval (ftc ci k) S a k) := by rw [hsl, q4 k hk]
  rcases hl with hl | ⟨host, hl⟩
  · exact W.getf hx hb hown (hts _ hl) hi hst q1 (by rw [q3]; exact fun h => by cases h) hv rfl rfl hd kk
  · exact va_Wgetf hx hb hown ((hamb.2.1 _ hl).use (nest_on _ hl)) hi hst q1 (by rw [q3]; exact fun h => by cases h) hv rfl rfl hd kk
theorem q_put {index ci k N : Nat} {C : String} {T : u_T} {ty : Nat → FieldType} {v : Value} {S' : qS} (X : MX p R s m args meth c own cc nL b0 H0 D cy ad adV c0 s0 cap) (hH : Hp b0 H0 D cy ad A S H) (hS : va_S (fun q => b0 ≤ q) s.heap H locs) (ha : A.1 a = some (ci, 0)) (hC : ClsOk ci C T N ty) (hk : k < N)
    (hl : (Cond.fieldLink own index (T k).1 (T k).2.1 (T k).2.2.1 ∈ wsA ∧ ((T k).2.2.2 = false ∨ ((T k).2.2.2 = true ∧ (T k).1 = own ∧ meth.name = "<init>"))) ∨ ((T k).2.2.2 = false ∧ ∃ host, Cond.fieldLinkNest own index (T k).1 (T k).2.1 (T k).2.2.1 host ∈ nestL)) (hn : narrow (ty k) v = v) (hf : fits (ty k) v = true) (hd : decode cc pc = .ok (.putfield index, 3))
    (hv : fval (ftc ci k) S' a k = v) (hI : ∀ b j, ¬ (b = a ∧ j = k) → gI S' b j = gI S b j) (hL : ∀ b j, ¬ (b = a ∧ j = k) → gL S' b j = gL S b j) (hR : ∀ b j, ¬ (b = a ∧ j = k) → gR S' b j = gR S b j)
    (kk : ∀ (H' : Heap) (locs' : List Loc), Hp b0 H0 D cy ad A S' H' → va_S (fun q => b0 ≤ q) s.heap H' locs' → W p l e R s m args below meth c H' locs' cells slots Q (F0 m (pc + 3) arr rest)) : W p l e R s m args below meth c H locs cells slots Q (F0 m pc arr (v :: .ref a :: rest)) := by
  obtain ⟨hx, hb, -, hown, hts, hamb, -⟩ := X
  have h := hH.2.2.2.1 a _ ha
  rw [cOk_o hC.1] at h
  obtain ⟨-, hba, r, hr, cell, q1, q2, q3, q4⟩ := h
  cases hC.2.1.symm.trans hr
  have hK := hamb.1
  have hap := va_apart (own := own) hts hC.2.2.1 ty hC.2.2.2.1 hC.2.2.2.2 hK hC.2.1
  obtain ⟨hSl, hfc, kC, hkC, hkind⟩ := hK.1 ci _ hC.2.1
  obtain ⟨cf, kf, fi, f, hi, hsl⟩ := hSl k hk
  have hst := (u_facts hfc hkC (u_lays hts hC.2.2.1 hk) hi).1
  have hlay := hts _ (hC.2.2.1 _ (u_in_lay hk))
  have fin : ∀ H' : Heap, H'[a]? = some (cell.setSlot f.slot v) → H'.size = H.size → (∀ q, q ≠ a → H'[q]? = H[q]?) → W p l e R s m args below meth c H' (locs ++ [⟨a, f.slot⟩]) cells slots Q (F0 m (pc + 3) arr rest) := by
    intro H' e1 e2 e3
    refine kk H' _ (hH.put hba e2 e3 ha ?_ (fun b j hb => hI b j (fun z => hb z.1)) (fun b j hb => hL b j (fun z => hb z.1)) (fun b j hb => hR b j (fun z => hb z.1))) (hS.put e2 e3 hba)
    rw [cOk_o hC.1]
    rw [hsl] at e1
    refine ⟨hC.1, hba, _, hC.2.1, t_OB.to (V := updV (fun j => fval (ftc ci j) S a j) k v) ⟨_, e1, q2, q3, t_set q4 hap hk v⟩ (fun j _ => ?_)⟩
    by_cases hj : j = k
    · subst hj; simp [updV, hv]
    · have z : ¬ (a = a ∧ j = k) := fun z => hj z.2
      simp only [updV, if_neg hj, fval, hI a j z, hL a j z, hR a j z]
  have hlt : f.slot < cell.slots.size := by rw [hsl]; exact k2_hasslot (q4 k hk)
  rcases hl with ⟨hl, hfin | ⟨hfin, hdecl, hin⟩⟩ | ⟨hfin, host, hl⟩
  · unfold u_lay at hlay
    rw [if_neg (by rw [hfin]; decide)] at hlay
    have h6 := u_store hfc hkC hkind hlay hi (hC.2.2.2.1 k hk) hn hf
    exact W.putK hx hb (f := f) ⟨hown, hts _ hl, ⟨_, _, _, hi⟩, hst⟩ (by rw [q2]; exact h6) q1 q3 hlt rfl rfl hd fin
  · unfold u_lay at hlay
    rw [if_pos hfin] at hlay
    have hcf : m.cls = cf := by
      obtain ⟨_, _, c', _, _, _, -, -, hf', -, -, -, hown2, -⟩ := Cond.laysFinal_spec hlay
      have e1 : c' = cf := by have := hi.symm.trans hf'; simp at this; exact this.1.symm
      rw [hdecl] at hown2
      rw [← e1]; exact Option.some.inj (hown.symm.trans hown2)
    have h6 := u_fits hfc hkC hkind (Or.inr hlay) hi (hC.2.2.2.1 k hk) hn hf
    exact W.putFinK hx hb hown (hts _ hl) hi hst hcf hin (by rw [q2]; exact h6) q1 q3 hlt rfl rfl hd fin
  · unfold u_lay at hlay
    rw [if_neg (by rw [hfin]; decide)] at hlay
    have h6 := u_store hfc hkC hkind hlay hi (hC.2.2.2.1 k hk) hn hf
    exact va_WputK hx hb hown ((hamb.2.1 _ hl).use (nest_on _ hl)) hi hst (by rw [q2]; exact h6) q1 q3 hlt rfl rfl hd fin
end
section
variable {index ci k N : Nat} {C : String} {T : u_T} {ty : Nat → FieldType}
theorem ok_gfI (hd : decode cc pc = .ok (.getfield index, 3)) (hC : ClsOk ci C T N ty) (hk : k < N) (hl : Cond.fieldLink own index (T k).1 (T k).2.1 (T k).2.2.1 ∈ wsA ∨ ∃ host, Cond.fieldLinkNest own index (T k).1 (T k).2.1 (T k).2.2.1 host ∈ nestL) (ht : ftc ci k = 0) : Okn own cc nL hi rok pc (x_gfI ci k) := by
  intro p l e R s m args below meth c Q b0 H0 D cy ad adV c0 s0 cap K rn J' X _ _ hJ ls st A S h g1 g2 g3 g4 H locs arr hH hS hl'
  unfold x_gfI at h; split at h
  · refine q_get X hH h.1 hC hk hl hd ?_
    rw [ht]
    exact hJ _ _ _ _ _ h.2 g1 g2 g3 g4 H locs arr hH hS hl'
  · exact h.elim
theorem ok_gfL (hd : decode cc pc = .ok (.getfield index, 3)) (hC : ClsOk ci C T N ty) (hk : k < N) (hl : Cond.fieldLink own index (T k).1 (T k).2.1 (T k).2.2.1 ∈ wsA ∨ ∃ host, Cond.fieldLinkNest own index (T k).1 (T k).2.1 (T k).2.2.1 host ∈ nestL) (ht : ftc ci k = 1) : Okn own cc nL hi rok pc (x_gfL ci k) := by
  intro p l e R s m args below meth c Q b0 H0 D cy ad adV c0 s0 cap K rn J' X _ _ hJ ls st A S h g1 g2 g3 g4 H locs arr hH hS hl'
  unfold x_gfL at h; split at h
  · refine q_get X hH h.1 hC hk hl hd ?_
    rw [ht]
    exact hJ _ _ _ _ _ h.2 g1 g2 g3 g4 H locs arr hH hS hl'
  · exact h.elim
theorem ok_gfR (hd : decode cc pc = .ok (.getfield index, 3)) (hC : ClsOk ci C T N ty) (hk : k < N) (hl : Cond.fieldLink own index (T k).1 (T k).2.1 (T k).2.2.1 ∈ wsA ∨ ∃ host, Cond.fieldLinkNest own index (T k).1 (T k).2.1 (T k).2.2.1 host ∈ nestL) (ht : ftc ci k = 2) : Okn own cc nL hi rok pc (x_gfR ci k) := by
  intro p l e R s m args below meth c Q b0 H0 D cy ad adV c0 s0 cap K rn J' X _ _ hJ ls st A S h g1 g2 g3 g4 H locs arr hH hS hl'
  unfold x_gfR at h; split at h
  · obtain ⟨h1, q, h2, h3⟩ := h
    refine q_get X hH h1 hC hk hl hd ?_
    rw [ht]
    show W p l e R s m args below meth c H locs _ _ Q (F0 m (pc + 3) arr (va_rf (gR S _ k) :: _))
    rw [h2]
    exact hJ _ _ _ _ _ h3 g1 g2 g3 g4 H locs arr hH hS hl'
  · exact h.elim
theorem ok_gfN (hd : decode cc pc = .ok (.getfield index, 3)) (hC : ClsOk ci C T N ty) (hk : k < N) (hl : Cond.fieldLink own index (T k).1 (T k).2.1 (T k).2.2.1 ∈ wsA ∨ ∃ host, Cond.fieldLinkNest own index (T k).1 (T k).2.1 (T k).2.2.1 host ∈ nestL) (ht : ftc ci k = 2) : Okn own cc nL hi rok pc (x_gfN ci k) := by
  intro p l e R s m args below meth c Q b0 H0 D cy ad adV c0 s0 cap K rn J' X _ _ hJ ls st A S h g1 g2 g3 g4 H locs arr hH hS hl'
  unfold x_gfN at h; split at h
  · rename_i a st'
    obtain ⟨h1, h2, h3⟩ := h
    refine q_get X hH h1 hC hk hl hd ?_
    rw [ht]
    show W p l e R s m args below meth c H locs _ _ Q (F0 m (pc + 3) arr (va_rf (gR S a k) :: _))
    cases hq : gR S a k with
    | none => exact hJ _ _ _ _ _ (h2 hq) g1 g2 g3 g4 H locs arr hH hS hl'
    | some q => exact hJ _ _ _ _ _ (h3 q hq) g1 g2 g3 g4 H locs arr hH hS hl'
  · exact h.elim
/-- how a putfield is linked: an own or a nest mate's field; a final one in a constructor -/
def putL (own : String) (index : Nat) (T : u_T) (k : Nat) (hi : Prop) : Prop := (Cond.fieldLink own index (T k).1 (T k).2.1 (T k).2.2.1 ∈ wsA ∧ ((T k).2.2.2 = false ∨ ((T k).2.2.2 = true ∧ (T k).1 = own ∧ hi))) ∨ ((T k).2.2.2 = false ∧ ∃ host, Cond.fieldLinkNest own index (T k).1 (T k).2.1 (T k).2.2.1 host ∈ nestL)
theorem putL.at {own : String} {index : Nat} {T : u_T} {k : Nat} {hi : Prop} {meth : Method} (h : putL own index T k hi) (hm : hi → meth.name = "<init>") : (Cond.fieldLink own index (T k).1 (T k).2.1 (T k).2.2.1 ∈ wsA ∧ ((T k).2.2.2 = false ∨ ((T k).2.2.2 = true ∧ (T k).1 = own ∧ meth.name = "<init>"))) ∨ ((T k).2.2.2 = false ∧ ∃ host, Cond.fieldLinkNest own index (T k).1 (T k).2.1 (T k).2.2.1 host ∈ nestL) := by
  rcases h with ⟨h1, h2 | ⟨h2, h3, h4⟩⟩ | h
  · exact Or.inl ⟨h1, Or.inl h2⟩
  · exact Or.inl ⟨h1, Or.inr ⟨h2, h3, hm h4⟩⟩
  · exact Or.inr h
theorem ok_pfI (hd : decode cc pc = .ok (.putfield index, 3)) (hC : ClsOk ci C T N ty) (hk : k < N) (hl : putL own index T k hi) (ht : ftc ci k = 0) (hty : ty k = .int) : Okn own cc nL hi rok pc (x_pfI ci k) := by
  intro p l e R s m args below meth c Q b0 H0 D cy ad adV c0 s0 cap K rn J' X hm _ hJ ls st A S h g1 g2 g3 g4 H locs arr hH hS hl'
  unfold x_pfI at h; split at h
  · rename_i v a st'
    refine q_put (S' := uI S a k v) X hH hS h.1 hC hk (hl.at hm) (by rw [hty]; rfl) (by rw [hty]; rfl) hd (by rw [ht]; simp [fval, gI_uI]) (fun b j z => by rw [gI_uI, if_neg z]) (fun _ _ _ => rfl) (fun _ _ _ => rfl) fun H' locs' hH' hS' => ?_
    exact hJ _ _ _ _ _ (h.2 _ rfl) g1 g2 g3 g4 H' locs' arr hH' hS' hl'
  · exact h.elim
theorem ok_pfZ (hd : decode cc pc = .ok (.putfield index, 3)) (hC : ClsOk ci C T N ty) (hk : k < N) (hl : putL own index T k hi) (ht : ftc ci k = 0) (hty : ty k = .boolean) : Okn own cc nL hi rok pc (x_pfZ ci k) := by
  intro p l e R s m args below meth c Q b0 H0 D cy ad adV c0 s0 cap K rn J' X hm _ hJ ls st A S h g1 g2 g3 g4 H locs arr hH hS hl'
  unfold x_pfZ at h; split at h
  · rename_i v a st'
    obtain ⟨h1, h2, h3⟩ := h
    refine q_put (S' := uI S a k v) X hH hS h1 hC hk (hl.at hm) (by rw [hty]; rcases h2 with rfl | rfl <;> rfl) (by rw [hty]; rcases h2 with rfl | rfl <;> rfl) hd (by rw [ht]; simp [fval, gI_uI]) (fun b j z => by rw [gI_uI, if_neg z]) (fun _ _ _ => rfl) (fun _ _ _ => rfl) fun H' locs' hH' hS' => ?_
    exact hJ _ _ _ _ _ (h3 _ rfl) g1 g2 g3 g4 H' locs' arr hH' hS' hl'
  · exact h.elim
theorem ok_pfL (hd : decode cc pc = .ok (.putfield index, 3)) (hC : ClsOk ci C T N ty) (hk : k < N) (hl : putL own index T k hi) (ht : ftc ci k = 1) (hty : ty k = .long) : Okn own cc nL hi rok pc (x_pfL ci k) := by
  intro p l e R s m args below meth c Q b0 H0 D cy ad adV c0 s0 cap K rn J' X hm _ hJ ls st A S h g1 g2 g3 g4 H locs arr hH hS hl'
  unfold x_pfL at h; split at h
  · rename_i v a st'
    refine q_put (S' := uL S a k v) X hH hS h.1 hC hk (hl.at hm) (by rw [hty]; rfl) (by rw [hty]; rfl) hd (by rw [ht]; simp [fval, gL_uL]) (fun _ _ _ => rfl) (fun b j z => by rw [gL_uL, if_neg z]) (fun _ _ _ => rfl) fun H' locs' hH' hS' => ?_
    exact hJ _ _ _ _ _ (h.2 _ rfl) g1 g2 g3 g4 H' locs' arr hH' hS' hl'
  · exact h.elim
theorem ok_pfR (hd : decode cc pc = .ok (.putfield index, 3)) (hC : ClsOk ci C T N ty) (hk : k < N) (hl : putL own index T k hi) (ht : ftc ci k = 2) (hty : (ty k).isReference = true) : Okn own cc nL hi rok pc (x_pfR ci k) := by
  intro p l e R s m args below meth c Q b0 H0 D cy ad adV c0 s0 cap K rn J' X hm _ hJ ls st A S h g1 g2 g3 g4 H locs arr hH hS hl'
  unfold x_pfR at h; split at h
  · rename_i v a st'
    refine q_put (S' := uR S a k (some v)) X hH hS h.1 hC hk (hl.at hm) ?_ ?_ hd (by rw [ht]; simp [fval, gR_uR, va_rf]) (fun _ _ _ => rfl) (fun _ _ _ => rfl) (fun b j z => by rw [gR_uR, if_neg z]) fun H' locs' hH' hS' => ?_
    · cases hq : ty k <;> rw [hq] at hty <;> first | rfl | cases hty
    · cases hq : ty k <;> rw [hq] at hty <;> first | rfl | cases hty
    · exact hJ _ _ _ _ _ (h.2 _ rfl) g1 g2 g3 g4 H' locs' arr hH' hS' hl'
  · exact h.elim
end
end
