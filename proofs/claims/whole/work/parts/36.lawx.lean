/-! THE LAW'S OWN CONTEXT: its transformers on the machine -/
section LawA
theorem w_fresh {p : Program} {l : Launch} {e : Env} {R : Room} {s : State} {m : MethodId} {args : Array Value} {below : List Frame} {meth : Method} {c : Code} {H : Heap} {locs : List Loc} {cells slots k n : Nat} {Q : State → Prop} {g : JFrame}
    (hf : ∀ z ∈ locs, s.heap.size ≤ z.base) (h1 : cells ≤ k) (h2 : slots ≤ n) (kk : W p l e R s m args below meth c H [] k n Q g) : W p l e R s m args below meth c H locs cells slots Q g :=
  fun T hT X => kk T hT { X with same := X.same.weaken (fun y hy hl => absurd hl (Nat.not_lt.mpr (hf y hy))) h1 h2 }
/-- the law's end: true -/
def kOne : qK := fun v _ _ => v = some (.int 1)
def LX (p : Program) (l : Launch) (s : State) (m : MethodId) (meth : Method) (c : Code) (b L : Nat) (xs : Nat → Int32) (D : va_G) (cy : Nat → ClassId) (ad adV : Nat → Nat) (sa : Nat) (rn : qR) : Prop :=
  MX p room_1 s m #[Value.ref b] meth c RL code 7 s.heap.size s.heap D cy ad adV 0 0 (601024, 7293034) ∧ meth.sig.returnType = ret ∧ meth.locks = false ∧ RnOk l room_1 s.heap.size s.heap D cy ad adV rn ∧ l.stackTraces = false ∧ AmK s.heap.size s.heap sa s ∧ va_X b L xs s s.heap ∧ b < s.heap.size
abbrev MJL (p : Program) (l : Launch) (e : Env) (s : State) (m : MethodId) (below : List Frame) (meth : Method) (c : Code) (b : Nat) (D : va_G) (cy : Nat → ClassId) (ad : Nat → Nat) : qJ := MJ p l e room_1 s m #[Value.ref b] below meth c (lw_Z below #[Value.ref b] s) s.heap.size s.heap D cy ad 0 0 (601024, 7293034)
def OkW (b L : Nat) (xs : Nat → Int32) (pc : Nat) (sm : qM) : Prop :=
  ∀ (p : Program) (l : Launch) (e : Env) (s : State) (m : MethodId) (below : List Frame) (meth : Method) (c : Code) (D : va_G) (cy : Nat → ClassId) (ad adV : Nat → Nat) (sa : Nat) (rn : qR) (J' : qJ), LX p l s m meth c b L xs D cy ad adV sa rn →
    (∀ pc ls st A S, J' pc ls st A S → MJL p l e s m below meth c b D cy ad pc ls st A S) →
    ∀ ls st A S, sm rn kOne (601024, 7293034) pc ls st A S J' → MJL p l e s m below meth c b D cy ad pc ls st A S
variable {b L pc : Nat} {xs : Nat → Int32}
theorem Okn.w {sm : qM} (h : Okn RL code 7 False RnOk pc sm) : OkW b L xs pc sm := by
  intro p l e s m below meth c D cy ad adV sa rn J' X hJ ls st A S hs
  exact h p l e room_1 s m _ below meth c _ _ _ D cy ad adV 0 0 _ kOne rn J' X.1 (fun z => z.elim) X.2.2.2.1 hJ ls st A S hs
theorem okw_scl (hd : decode code pc = .ok (.iaload, 1)) : OkW b L xs pc (x_scl b L xs) := by
  intro p l e s m below meth c D cy ad adV sa rn J' X hJ ls st A S h g1 g2 g3 g4 H locs arr hH hS hl
  obtain ⟨X1, -, -, -, -, -, X7, X8⟩ := X
  unfold x_scl at h; split at h
  · obtain ⟨h1, h2, h3⟩ := h
    rw [h1]
    exact va_sld X1.1 X1.2.1 X7 X8 (Nat.not_le.mpr X8) hS h2 hd (hJ _ _ _ _ _ h3 g1 g2 g3 g4 H locs arr hH hS hl)
  · exact h.elim
theorem okw_scn (hd : decode code pc = .ok (.arraylength, 1)) : OkW b L xs pc (x_scn b L) := by
  intro p l e s m below meth c D cy ad adV sa rn J' X hJ ls st A S h g1 g2 g3 g4 H locs arr hH hS hl
  obtain ⟨X1, -, -, -, -, -, X7, X8⟩ := X
  unfold x_scn at h; split at h
  · obtain ⟨h1, h3⟩ := h
    rw [h1]
    exact va_slen X1.1 X1.2.1 X7 X8 (Nat.not_le.mpr X8) hS hd (hJ _ _ _ _ _ h3 g1 g2 g3 g4 H locs arr hH hS hl)
  · exact h.elim
theorem okw_zret (hd : decode code pc = .ok (.ireturn, 1)) : OkW b L xs pc x_zret := by
  intro p l e s m below meth c D cy ad adV sa rn J' X hJ ls st A S h g1 g2 g3 g4 H locs arr hH hS hl
  obtain ⟨X1, X2, X3, -⟩ := X
  unfold x_zret at h; split at h
  · obtain ⟨-, hk⟩ := h
    cases hk
    exact w_fresh (fun z hz => hS.2.2 z hz) g3 g4 (lw_ret X1.1 X1.2.1 X2 X3 hd)
  · exact h.elim
theorem okw_lled (hd : decode code pc = .ok (.invokestatic 215, 3)) : OkW b L xs pc x_lled := by
  intro p l e s m below meth c D cy ad adV sa rn J' X hJ ls st A S h g1 g2 g3 g4 H locs arr hH hS hl
  obtain ⟨X1, X2, X3, X4, X5, X6, X7, X8⟩ := X
  unfold x_lled at h; split at h
  · rename_i o i a st
    obtain ⟨h1, h2, ⟨n, h3, h4⟩, h5, h6, h7⟩ := h
    dsimp only at h5 h6
    have F : CallFix p m c code 7 s #[Value.ref b] wsA RL := ⟨X1.1, X1.2.1, X1.2.2.1, X1.2.2.2.1, X1.2.2.2.2.1⟩
    have hG : GoodIn wsA (Cond.codeWith yL_led cL_led 4 (some .int) [(0, 9, 12, 13)] :: wsA) := fun w hw => by
      rcases List.mem_cons.mp hw with rfl | h9
      · exact ⟨llW (by simp), wsA_good _ (llW (by simp))⟩
      · exact ⟨h9, wsA_good _ h9⟩
    have cw : vx_CSW room_1 s #[Value.ref b] RL 215 yL_led cL_led 4 (some .int) [(0, 9, 12, 13)] (Cond.codeWith yL_led cL_led 4 (some .int) [(0, 9, 12, 13)] :: wsA) { frames := 14, cells := 1, slots := 8, locals := 560 } 1 8 3 := by
      refine ⟨⟨rfl, rfl, by decide, by decide, pay_in X1.2.2.2.2.1 hG, List.mem_cons_self⟩, X1.2.2.2.2.1 _ (llW (by simp)), X1.2.2.2.2.1 _ (show Cond.initialized RL ∈ wsA from llW (by simp)), ⟨by decide, by decide⟩, fun sig hs => ?_, X1.2.2.2.2.1 _ (llW (by simp)), X1.2.2.2.2.1 _ (llW (by simp))⟩
      have h9 : (parseMethodDescriptor yL_led.desc).map (fun d => d.parameters.length) = some 3 := by decide +kernel
      rw [hs] at h9
      exact (Option.some.inj h9).symm
    have hp : PreS s H (PcK s.heap.size s.heap D cy ad adV sa A S [.ref a, .int i, .ref o]) [.ref a, .int i, .ref o] := ⟨PcK_blind, fun U hU hW => ⟨⟨rfl, by rw [hU]; exact hH, X1.2.2.2.2.2.1.warm hW⟩, X6.warm hW⟩⟩
    have hrun := vx_runSW (e := e) (below := below) (meth := meth) (locs := locs) (cells := A.2.2.1 - 0) (slots := A.2.2.2 - 0) (g := F0 m pc arr (.ref o :: .int i :: .ref a :: st)) (rest := st) (As := [.ref a, .int i, .ref o]) F (lled_met X5 (P0 := fun A1 S1 => J' (pc + 3) ls (.int 0 :: st) A1 S1) (P1 := fun A1 S1 => J' (pc + 3) ls (.int 1 :: st) A1 S1) h1 h3 h4 h7) cw hp rfl rfl (hl.2.1.trans X1.2.2.1) rfl (by rw [wcat_eq]; show 2 * 0 + _ ≤ 8; omega) hd
      ⟨by show A.2.2.1 - 0 + 1 ≤ 601024; omega, by show A.2.2.2 - 0 + 8 ≤ 7293034; omega⟩
    refine q_run (mb := (1, 8)) X1 hrun hS fun v A' S' H' locs' hK hc hs hH' hS' => ?_
    dsimp only at hc hs
    have fin : ∀ w : Int32, v = some (.int w) → J' (pc + 3) ls (.int w :: st) A' S' → W p l e room_1 s m #[Value.ref b] below meth c H' locs' (A.2.2.1 - 0 + 1) (A.2.2.2 - 0 + 8) (lw_Z below #[Value.ref b] s) (F0 m (pc + 3) arr (v.toList ++ st)) := by
      intro w hv hj
      subst hv
      have := hJ _ _ _ _ _ hj (Nat.zero_le _) (Nat.zero_le _) (by show A'.2.2.1 ≤ 601024; omega) (by show A'.2.2.2 ≤ 7293034; omega) H' locs' arr hH' hS' hl
      rw [show A'.2.2.1 - 0 = A.2.2.1 - 0 + 1 by omega, show A'.2.2.2 - 0 = A.2.2.2 - 0 + 8 by omega] at this
      exact this
    rcases hK with ⟨hv, hj⟩ | ⟨hv, hj⟩
    · exact fin 0 hv hj
    · exact fin 1 hv hj
  · exact h.elim
theorem okw_at : ∀ {C : List (Nat × qM)}, (∀ q ∈ C, OkW b L xs q.1 q.2) → ∀ pc, OkW b L xs pc (cAt C pc)
  | [], _, pc => fun _ _ _ _ _ _ _ _ _ _ _ _ _ _ _ _ _ _ _ _ _ h => h.elim
  | (p, s) :: t, h, pc => by
    unfold cAt
    cases hq : Nat.beq p pc with
    | true =>
      have e : p = pc := Nat.eq_of_beq_eq_true hq
      subst e
      exact h (p, s) List.mem_cons_self
    | false => exact okw_at (fun q hq => h q (List.mem_cons_of_mem _ hq)) pc
end LawA
