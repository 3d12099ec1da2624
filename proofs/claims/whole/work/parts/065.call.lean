/-! calls, returns, System.arraycopy -/
def ledId : Nat := 126
def MetY (l : Launch) (fr lo : Nat) (b0 : Nat) (H0 : Heap) (D : va_G) (cy : Nat → ClassId) (ad adV : Nat → Nat) (y : Nat) (args : List Value) (A : qA) (S : qS) (K : qK) : Prop :=
  Met l (yN y) (Cond.code (yN y) (cB y) (mLoc y) (rT y) :: wsA) { frames := fr, cells := (bud y).1, slots := (bud y).2, locals := lo } (PcM b0 H0 D cy ad adV A S args) (QcM b0 H0 D cy ad A (bud y) K) (bud y).1 (bud y).2 (fun q => b0 ≤ q)
/-- what the callees of a context keep -/
def RnOk (l : Launch) (R : Room) (b0 : Nat) (H0 : Heap) (D : va_G) (cy : Nat → ClassId) (ad adV : Nat → Nat) (rn : qR) : Prop :=
  ∀ y args A S K, rn y args A S K → y < 268 → y ≠ ledId → ∃ fr lo, fr + 1 ≤ R.frames ∧ 8 + (mLoc y + 11) + lo ≤ R.locals ∧ MetY l fr lo b0 H0 D cy ad adV y args A S K
theorem wcat_eq : ∀ st : List Value, (st.map fun v => v.category).sum = wcat st
  | [] => rfl
  | v :: t => by
    have ih := wcat_eq t
    rw [List.map_cons, List.sum_cons, ih]
    cases v <;> simp only [wcat, Value.category] <;> omega
theorem popn_eq : ∀ (n : Nat) (acc st as rest : List Value), popn n acc st = some (as, rest) → ∃ xs : List Value, xs.length = n ∧ st = xs ++ rest ∧ as = xs.reverse ++ acc
  | 0, acc, st, as, rest, h => by
    simp [popn] at h
    obtain ⟨rfl, rfl⟩ := h
    exact ⟨[], rfl, rfl, rfl⟩
  | n + 1, acc, [], as, rest, h => by simp [popn] at h
  | n + 1, acc, v :: st, as, rest, h => by
    obtain ⟨xs, h1, h2, h3⟩ := popn_eq n (v :: acc) st as rest h
    exact ⟨v :: xs, by simp [h1], by simp [h2], by simp [h3]⟩
section
variable {p : Program} {l : Launch} {e : Env} {R : Room} {s : State} {m : MethodId} {args : Array Value} {below : List Frame} {meth : Method} {c : Code} {H : Heap} {locs : List Loc} {cells slots : Nat} {Q : State → Prop} {b0 : Nat} {H0 : Heap} {D : va_G} {cy : Nat → ClassId} {ad adV : Nat → Nat} {c0 s0 : Nat} {cap : Nat × Nat} {A : qA} {S : qS} {arr : Array Slot} {rest st0 : List Value} {a : Nat} {own : String} {cc : ByteArray} {nL pc : Nat}
theorem q_run {mb : Nat × Nat} {K : qK} {av : Array Value} (X : MX p R s m args meth c own cc nL b0 H0 D cy ad adV c0 s0 cap) (hr : va_Run p l e R s m args below meth c H locs cells slots mb.1 mb.2 (F0 m pc arr st0) rest (QcM b0 H0 D cy ad A mb K av) (fun q => b0 ≤ q)) (hS : va_S (fun q => b0 ≤ q) s.heap H locs)
    (kk : ∀ (v : Option Value) (A' : qA) (S' : qS) (H' : Heap) (locs' : List Loc), K v A' S' → A'.2.2.1 = A.2.2.1 + mb.1 → A'.2.2.2 = A.2.2.2 + mb.2 → Hp b0 H0 D cy ad A' S' H' → va_S (fun q => b0 ≤ q) s.heap H' locs' → W p l e R s m args below meth c H' locs' (cells + mb.1) (slots + mb.2) Q (F0 m (pc + 3) arr (v.toList ++ rest))) : W p l e R s m args below meth c H locs cells slots Q (F0 m pc arr st0) := by
  intro T hT X0
  obtain ⟨v, st₀, t, T', L, h0, X', hL, e1, e2, ⟨v', A', S', hv, hK, hc, hs, hH', hz⟩, st⟩ := hr T hT X0
  cases hv
  obtain ⟨t2, a1, b1⟩ := kk v A' S' t.heap (locs ++ L) hK hc hs hH' ⟨Nat.le_trans hS.1 (by rw [← h0]; exact hz), fun q h1 h2 => by
      have hq : q < b0 := Nat.not_le.mp h2
      rw [hH'.2.2.1 q hq, X.2.2.2.2.2.2.2.2.2.2.2 q hq], fun q hq => by
      rcases List.mem_append.mp hq with h | h
      · exact hS.2.2 q h
      · exact hL q h⟩ T' e1 X'
  exact ⟨t2, st t2 a1, b1⟩
theorem PcM_blind {as : List Value} : FrameBlind (PcM b0 H0 D cy ad adV A S as) := fun a U g mk h => ⟨h.1, h.2.1, h.2.2.same rfl⟩
theorem wsA_in {y : Nat} (hc : Cond.code (yN y) (cB y) (mLoc y) (rT y) ∈ wsA) : GoodIn wsA (Cond.code (yN y) (cB y) (mLoc y) (rT y) :: wsA) := by
  intro w hw
  rcases List.mem_cons.mp hw with rfl | h
  · exact ⟨hc, wsA_good _ hc⟩
  · exact ⟨h, wsA_good _ h⟩
/-- what a callee's name must be: the words of a call of y from own by index -/
def cwB (own : String) (index y n : Nat) : Prop := Cond.code (yN y) (cB y) (mLoc y) (rT y) ∈ wsA ∧ (Cond.methodLink own index (yN y) ∈ wsA ∨ ∃ host, Cond.methodLinkNest own index (yN y) host ∈ nestL) ∧ Cond.initialized (yN y).cls ∈ wsA ∧ (yN y).cls ≠ "java/lang/invoke/MethodHandle" ∧ (yN y).cls ≠ "java/lang/invoke/VarHandle" ∧ (parseMethodDescriptor (yN y).desc).map (fun d => d.parameters.length) = some n ∧ y < 268 ∧ y ≠ ledId
def cwKV (own : String) (index y n : Nat) : Prop := cwB own index y n ∧ Cond.instanceMethod (yN y) ∈ wsA ∧ Cond.selects (yN y).cls (yN y) (yN y) ∈ wsA
def cwKS (own : String) (index y n : Nat) : Prop := cwB own index y n ∧ Cond.static (yN y) ∈ wsA
def cwKI (own : String) (index y n : Nat) : Prop := cwB own index y n ∧ Cond.instanceMethod (yN y) ∈ wsA ∧ (yN y).name = "<init>" ∧ rT y = none
theorem cwB.b {index y n fr lo : Nat} (h : cwB own index y n) (hl : Cond.methodLink own index (yN y) ∈ wsA) (X : MX p R s m args meth c own cc nL b0 H0 D cy ad adV c0 s0 cap) (h1 : fr + 1 ≤ R.frames) (h2 : 8 + (mLoc y + 11) + lo ≤ R.locals) : CallB R s args own index (yN y) (cB y) (mLoc y) (rT y) (Cond.code (yN y) (cB y) (mLoc y) (rT y) :: wsA) { frames := fr, cells := (bud y).1, slots := (bud y).2, locals := lo } (bud y).1 (bud y).2 n :=
  callB_of n X.2.2.2.2.1 (wsA_in h.1) rfl rfl rfl (X.2.2.2.2.1 _ h.2.2.1) (X.2.2.2.2.1 _ hl) ⟨h.2.2.2.1, h.2.2.2.2.1, h.2.2.2.2.2.1⟩ ⟨h1, h2⟩
theorem cwB.n {index y n fr lo : Nat} {host : String} (h : cwB own index y n) (hl : Cond.methodLinkNest own index (yN y) host ∈ nestL) (X : MX p R s m args meth c own cc nL b0 H0 D cy ad adV c0 s0 cap) (h1 : fr + 1 ≤ R.frames) (h2 : 8 + (mLoc y + 11) + lo ≤ R.locals) : va_CN R s args own index (yN y) host (cB y) (mLoc y) (rT y) (Cond.code (yN y) (cB y) (mLoc y) (rT y) :: wsA) { frames := fr, cells := (bud y).1, slots := (bud y).2, locals := lo } (bud y).1 (bud y).2 n :=
  va_cnB n X.2.2.2.2.1 (wsA_in h.1) rfl rfl rfl (X.2.2.2.2.2.1.2.1 _ hl) (X.2.2.2.2.1 _ h.2.2.1) ⟨h.2.2.2.1, h.2.2.2.2.1, h.2.2.2.2.2.1⟩ ⟨h1, h2⟩
theorem q_recv {ci : Nat} {C : String} {T : u_T} {N : Nat} {ty : Nat → FieldType} (X : MX p R s m args meth c own cc nL b0 H0 D cy ad adV c0 s0 cap) (hH : Hp b0 H0 D cy ad A S H) (ha : A.1 a = some (ci, 0)) (hC : ClsOk ci C T N ty) : ∃ cell : Cell, H[a]? = some cell ∧ cell.vm.isStatics = false ∧ s.vm.findClass C = some cell.cls := by
  have h := hH.2.2.2.1 a _ ha
  rw [cOk_o hC.1] at h
  obtain ⟨-, -, r, hr, cell, q1, q2, q3, -⟩ := h
  exact ⟨cell, q1, by rw [q3]; rfl, by rw [q2]; exact (X.2.2.2.2.2.1.1.1 ci _ hC.2.1).2.1⟩
/-- a call in every form: the callee's contract gives the run -/
theorem q_callV {index y n ci N : Nat} {C : String} {T : u_T} {ty : Nat → FieldType} {K : qK} {as : List Value} {rn : qR} (X : MX p R s m args meth c own cc nL b0 H0 D cy ad adV c0 s0 cap) (hrok : RnOk l R b0 H0 D cy ad adV rn) (hH : Hp b0 H0 D cy ad A S H) (hl : arr.size = c.maxLocals) (hC : ClsOk ci C T N ty) (hcls : (yN y).cls = C) (ha : A.1 a = some (ci, 0)) (hw : cwKV own index y n) (hn : as.length = n) (hcat : wcat rest ≤ 8) (hd : decode cc pc = .ok (.invokevirtual index, 3)) (hr : rn y (.ref a :: as) A S K)
    (hcap : cells + (bud y).1 ≤ R.cells ∧ slots + (bud y).2 ≤ R.slots) : va_Run p l e R s m args below meth c H locs cells slots (bud y).1 (bud y).2 (F0 m pc arr (as.reverse ++ .ref a :: rest)) rest (QcM b0 H0 D cy ad A (bud y) K (Value.ref a :: as).toArray) (fun q => b0 ≤ q) := by
  obtain ⟨fr, lo, f1, f2, hM⟩ := hrok y _ A S K hr hw.1.2.2.2.2.2.2.1 hw.1.2.2.2.2.2.2.2
  have hp : PreV s H C a (PcM b0 H0 D cy ad adV A S (.ref a :: as)) as := ⟨PcM_blind, q_recv X hH ha hC, fun U hU hW => ⟨rfl, by rw [hU]; exact hH, X.2.2.2.2.2.1.warm hW⟩⟩
  have hg : 2 * (F0 m pc arr (as.reverse ++ .ref a :: rest)).monitorRoom + (rest.map fun v => v.category).sum ≤ 8 := by rw [wcat_eq]; show 2 * 0 + _ ≤ 8; omega
  have F : CallFix p m c cc nL s args wsA own := ⟨X.1, X.2.1, X.2.2.1, X.2.2.2.1, X.2.2.2.2.1⟩
  rcases hw.1.2.1 with hk | ⟨host, hk⟩
  · exact va_runV F hM ⟨hw.1.b hk X f1 f2, X.2.2.2.2.1 _ hw.2.1, by rw [← hcls]; exact X.2.2.2.2.1 _ hw.2.2⟩ hp rfl hn (hl.trans X.2.2.1) rfl hg hd hcap
  · exact va_runVN F hM ⟨hw.1.n hk X f1 f2, X.2.2.2.2.1 _ hw.2.1, by rw [← hcls]; exact X.2.2.2.2.1 _ hw.2.2⟩ hp rfl hn (hl.trans X.2.2.1) rfl hg hd hcap
theorem q_callS {index y n : Nat} {K : qK} {as : List Value} {rn : qR} (X : MX p R s m args meth c own cc nL b0 H0 D cy ad adV c0 s0 cap) (hrok : RnOk l R b0 H0 D cy ad adV rn) (hH : Hp b0 H0 D cy ad A S H) (hl : arr.size = c.maxLocals) (hw : cwKS own index y n) (hn : as.length = n) (hcat : wcat rest ≤ 8) (hd : decode cc pc = .ok (.invokestatic index, 3)) (hr : rn y as A S K)
    (hcap : cells + (bud y).1 ≤ R.cells ∧ slots + (bud y).2 ≤ R.slots) : va_Run p l e R s m args below meth c H locs cells slots (bud y).1 (bud y).2 (F0 m pc arr (as.reverse ++ rest)) rest (QcM b0 H0 D cy ad A (bud y) K as.toArray) (fun q => b0 ≤ q) := by
  obtain ⟨fr, lo, f1, f2, hM⟩ := hrok y _ A S K hr hw.1.2.2.2.2.2.2.1 hw.1.2.2.2.2.2.2.2
  have hp : PreS s H (PcM b0 H0 D cy ad adV A S as) as := ⟨PcM_blind, fun U hU hW => ⟨rfl, by rw [hU]; exact hH, X.2.2.2.2.2.1.warm hW⟩⟩
  have hg : 2 * (F0 m pc arr (as.reverse ++ rest)).monitorRoom + (rest.map fun v => v.category).sum ≤ 8 := by rw [wcat_eq]; show 2 * 0 + _ ≤ 8; omega
  have F : CallFix p m c cc nL s args wsA own := ⟨X.1, X.2.1, X.2.2.1, X.2.2.2.1, X.2.2.2.2.1⟩
  rcases hw.1.2.1 with hk | ⟨host, hk⟩
  · exact va_runS F hM ⟨hw.1.b hk X f1 f2, X.2.2.2.2.1 _ hw.2⟩ hp rfl hn (hl.trans X.2.2.1) rfl hg hd hcap
  · exact va_runSN F hM ⟨hw.1.n hk X f1 f2, X.2.2.2.2.1 _ hw.2, trivial⟩ hp rfl hn (hl.trans X.2.2.1) rfl hg hd hcap
theorem q_callI {index y n : Nat} {K : qK} {as : List Value} {rn : qR} (X : MX p R s m args meth c own cc nL b0 H0 D cy ad adV c0 s0 cap) (hrok : RnOk l R b0 H0 D cy ad adV rn) (hH : Hp b0 H0 D cy ad A S H) (hl : arr.size = c.maxLocals) (hw : cwKI own index y n) (hn : as.length = n) (hcat : wcat rest ≤ 8) (hd : decode cc pc = .ok (.invokespecial index, 3)) (hr : rn y (.ref a :: as) A S K)
    (hcap : cells + (bud y).1 ≤ R.cells ∧ slots + (bud y).2 ≤ R.slots) : va_Run p l e R s m args below meth c H locs cells slots (bud y).1 (bud y).2 (F0 m pc arr (as.reverse ++ .ref a :: rest)) rest (QcM b0 H0 D cy ad A (bud y) K (Value.ref a :: as).toArray) (fun q => b0 ≤ q) := by
  obtain ⟨fr, lo, f1, f2, hM⟩ := hrok y _ A S K hr hw.1.2.2.2.2.2.2.1 hw.1.2.2.2.2.2.2.2
  have hp : PreS s H (PcM b0 H0 D cy ad adV A S (.ref a :: as)) (.ref a :: as) := ⟨PcM_blind, fun U hU hW => ⟨rfl, by rw [hU]; exact hH, X.2.2.2.2.2.1.warm hW⟩⟩
  have hg : 2 * (F0 m pc arr (as.reverse ++ .ref a :: rest)).monitorRoom + (rest.map fun v => v.category).sum ≤ 8 := by rw [wcat_eq]; show 2 * 0 + _ ≤ 8; omega
  have F : CallFix p m c cc nL s args wsA own := ⟨X.1, X.2.1, X.2.2.1, X.2.2.2.1, X.2.2.2.2.1⟩
  unfold MetY at hM
  rcases hw.1.2.1 with hk | ⟨host, hk⟩
  · have hb := hw.1.b hk X f1 f2
    rw [hw.2.2.2] at hb hM
    exact va_runI F hM ⟨hb, hw.2.2.1, X.2.2.2.2.1 _ hw.2.1⟩ hp rfl hn (hl.trans X.2.2.1) rfl hg hd hcap
  · have hb := hw.1.n hk X f1 f2
    rw [hw.2.2.2] at hb hM
    exact va_runIN F hM ⟨hb, hw.2.2.1, X.2.2.2.2.1 _ hw.2.1⟩ hp rfl hn (hl.trans X.2.2.1) rfl hg hd hcap
end
