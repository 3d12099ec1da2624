/-! LotLedger.led on the machine: it returns, or throws -/
def declL : List Cond := [.declares (Bundle.initS "java/lang/RuntimeException"), .declares (Bundle.initS "java/lang/Exception"), .declares (Bundle.initS Bundle.tN)]
/-- what led needs of the state besides -/
def AmL (b0 : Nat) (H0 : Heap) (sa : Nat) (U : State) : Prop := (∀ w ∈ declL, va_Nw w U) ∧ vk_R RX9 373 "no such sell with something deferred" sa U ∧ vx_Zq Bundle.tN "UNASSIGNED_STACK" Bundle.steD (fun q => b0 ≤ q) U H0 ∧ vx_Zq Bundle.tN "SUPPRESSED_SENTINEL" Bundle.listD (fun q => b0 ≤ q) U H0
theorem AmL.warm {b0 : Nat} {H0 : Heap} {sa : Nat} {s U : State} (h : AmL b0 H0 sa s) (hW : s.WarmedH U.vm) : AmL b0 H0 sa U := by
  obtain ⟨h1, h2, h3, h4⟩ := h
  refine ⟨fun w hw => ?_, h2.warm hW, h3.moved hW.alike, h4.moved hW.alike⟩
  have h := h1 w hw
  simp only [declL, List.mem_cons, List.not_mem_nil, or_false] at hw
  rcases hw with rfl | rfl | rfl
  all_goals exact va_Nw.warmD hW h
theorem AmL.same {b0 : Nat} {H0 : Heap} {sa : Nat} {s U : State} (h : AmL b0 H0 sa s) (hv : s.vm = U.vm) : AmL b0 H0 sa U := by
  obtain ⟨h1, h2, h3, h4⟩ := h
  have ha : s.vm.Alike U.vm := by rw [hv]; exact Vm.Alike.refl _
  refine ⟨fun w hw => (h1 w hw).same ?_ hv, h2.same hv.symm, h3.moved ha, h4.moved ha⟩
  simp only [declL, List.mem_cons, List.not_mem_nil, or_false] at hw
  rcases hw with rfl | rfl | rfl
  all_goals rfl
/-- a return of led: an int -/
def QcI (b0 : Nat) (H0 : Heap) (D : va_G) (cy : Nat → ClassId) (ad : Nat → Nat) (A : qA) (K : qK) : Array Value → State → Outcome → State → Prop := fun _ st o t => ∃ (r : Int32) (A' : qA) (S' : qS), o = .returned (some (.int r)) ∧ K (some (.int r)) A' S' ∧ A'.2.2.1 = A.2.2.1 + 1 ∧ A'.2.2.2 = A.2.2.2 + 8 ∧ Hp b0 H0 D cy ad A' S' t.heap ∧ st.heap.size ≤ t.heap.size
/-- a throw of led: the reference's end 'null' -/
def XcM (b0 : Nat) (H0 : Heap) (D : va_G) (cy : Nat → ClassId) (ad : Nat → Nat) (A : qA) (K : qK) : String → State → State → Prop := fun E st t => E = nseN ∧ ∃ (A' : qA) (S' : qS), K (some .null) A' S' ∧ A'.2.2.1 = A.2.2.1 + 1 ∧ A'.2.2.2 = A.2.2.2 + 8 ∧ Hp b0 H0 D cy ad A' S' t.heap ∧ st.heap.size ≤ t.heap.size
theorem Hp.more {b0 : Nat} {H0 : Heap} {D : va_G} {cy : Nat → ClassId} {ad : Nat → Nat} {A : qA} {S : qS} {H H' : Heap} {k n : Nat} (h : Hp b0 H0 D cy ad A S H) (z : H.size ≤ H'.size) (o : ∀ q : Nat, q < H.size → H'[q]? = H[q]?) : Hp b0 H0 D cy ad (A.1, H'.size, k, n) S H' :=
  ⟨rfl, Nat.le_trans h.2.1 z, fun q hq => by rw [o q (Nat.lt_of_lt_of_le hq h.2.1)]; exact h.2.2.1 q hq, fun a kn ha => (h.2.2.2.1 a kn ha).kept (o a) (fun _ => rfl) (fun _ => rfl) (fun _ => rfl), h.2.2.2.2⟩
/-- callees, with weaker ends too -/
def upR (rn : qR) : qR := fun y args A S K => ∃ K0 : qK, rn y args A S K0 ∧ ∀ v A' S', K0 v A' S' → K v A' S'
theorem RnOk.up {l : Launch} {R : Room} {b0 : Nat} {H0 : Heap} {D : va_G} {cy : Nat → ClassId} {ad adV : Nat → Nat} {rn : qR} (h : RnOk l R b0 H0 D cy ad adV rn) : RnOk l R b0 H0 D cy ad adV (upR rn) := by
  rintro y args A S K ⟨K0, h0, hk⟩ h1 h2
  obtain ⟨fr, lo, f1, f2, hM⟩ := h y args A S K0 h0 h1 h2
  refine ⟨fr, lo, f1, f2, fun p e ha hc hk' s m args' below hf happ hP _ => ?_⟩
  obtain ⟨n, o, q1, q2, q3, ⟨v, A', S', q4, q5, q6⟩, q7⟩ := hM p e ha hc hk' s m args' below hf happ hP trivial
  exact ⟨n, o, q1, q2, q3, ⟨v, A', S', q4, hk _ _ _ q5, q6⟩, q7⟩
/-- the transformer leaves the layout as it is -/
def Kp (sm : qM) : Prop := ∀ (rn : qR) (K : qK) (cap : Nat × Nat) (pc : Nat) (ls : qL) (st : List Value) (A : qA) (S : qS) (J : qJ), sm rn K cap pc ls st A S J → sm (upR rn) K cap pc ls st A S (fun pc' ls' st' A' S' => A' = A ∧ J pc' ls' st' A' S')
theorem kp_push {v : Value} {n : Nat} : Kp (x_push v n) := fun _ _ _ _ _ _ _ _ _ h => ⟨rfl, h⟩
theorem kp_goto {t : Nat} : Kp (x_goto t) := fun _ _ _ _ _ _ _ _ _ h => ⟨rfl, h⟩
theorem kp_ild {k n : Nat} : Kp (x_ild k n) := by
  intro rn K cap pc ls st A S J h
  unfold x_ild at h ⊢
  split at h
  · rename_i x hx
    exact ⟨rfl, h⟩
  · exact h.elim
theorem kp_ald {k n : Nat} : Kp (x_ald k n) := by
  intro rn K cap pc ls st A S J h
  unfold x_ald at h ⊢
  split at h
  · rename_i x hx
    exact ⟨rfl, h⟩
  · exact h.elim
theorem kp_iinc {k n : Nat} {c : Int32} : Kp (x_iinc k c n) := by
  intro rn K cap pc ls st A S J h
  unfold x_iinc at h ⊢
  split at h
  · rename_i x hx
    exact ⟨rfl, h⟩
  · exact h.elim
theorem kp_ist {k n : Nat} : Kp (x_ist k n) := by
  intro rn K cap pc ls st A S J h
  unfold x_ist at h ⊢
  split at h
  · exact ⟨rfl, h⟩
  · exact h.elim
theorem kp_gfR {c k : Nat} : Kp (x_gfR c k) := by
  intro rn K cap pc ls st A S J h
  unfold x_gfR at h ⊢
  split at h
  · obtain ⟨h1, q, h2, h3⟩ := h
    exact ⟨h1, q, h2, rfl, h3⟩
  · exact h.elim
theorem kp_gfI {c k : Nat} : Kp (x_gfI c k) := by
  intro rn K cap pc ls st A S J h
  unfold x_gfI at h ⊢
  split at h
  · exact ⟨h.1, rfl, h.2⟩
  · exact h.elim
theorem kp_lcmp : Kp x_lcmp := by
  intro rn K cap pc ls st A S J h
  unfold x_lcmp at h ⊢
  split at h
  · exact ⟨rfl, h⟩
  · exact h.elim
theorem kp_ic {c d : Int32 → Int32 → Prop} {t : Nat} : Kp (x_ic c d t) := by
  intro rn K cap pc ls st A S J h
  unfold x_ic at h ⊢
  split at h
  · exact ⟨fun z => ⟨rfl, h.1 z⟩, fun z => ⟨rfl, h.2 z⟩⟩
  · exact h.elim
theorem kp_if {c d : Int32 → Prop} {t : Nat} : Kp (x_if c d t) := by
  intro rn K cap pc ls st A S J h
  unfold x_if at h ⊢
  split at h
  · exact ⟨fun z => ⟨rfl, h.1 z⟩, fun z => ⟨rfl, h.2 z⟩⟩
  · exact h.elim
theorem kp_ivZ {c y n : Nat} : Kp (x_ivZ c y n) := by
  intro rn K cap pc ls st A S J h
  unfold x_ivZ at h ⊢
  split at h
  · rename_i a as st' hp
    exact ⟨h.1, h.2.1, _, h.2.2, fun v A' S' q => ⟨q.1, by obtain ⟨-, z, q2, q3⟩ := q; exact ⟨z, q2, rfl, q3⟩⟩⟩
  · exact h.elim
theorem kp_ivL {c y n : Nat} : Kp (x_ivL c y n) := by
  intro rn K cap pc ls st A S J h
  unfold x_ivL at h ⊢
  split at h
  · rename_i a as st' hp
    exact ⟨h.1, h.2.1, _, h.2.2, fun v A' S' q => ⟨q.1, by obtain ⟨-, z, q2, q3⟩ := q; exact ⟨z, q2, rfl, q3⟩⟩⟩
  · exact h.elim
/-- a transformer of led, at the layout's counts that led began with -/
def OkX (pc : Nat) (sm : qM) : Prop :=
  ∀ (p : Program) (l : Launch) (e : Env) (R : Room) (s : State) (m : MethodId) (args : Array Value) (below : List Frame) (meth : Method) (c : Code) (b0 : Nat) (H0 : Heap) (D : va_G) (cy : Nat → ClassId) (ad adV : Nat → Nat) (sa : Nat) (A0 : qA) (K : qK) (rn : qR) (J' : qJ),
    MX p R s m args meth c RX9 cX9_led 4 b0 H0 D cy ad adV A0.2.2.1 A0.2.2.2 (A0.2.2.1 + 1, A0.2.2.2 + 8) → meth.sig.returnType = some .int → meth.locks = false → RnOk l R b0 H0 D cy ad adV rn → l.stackTraces = false → AmL b0 H0 sa s → (∀ x ∈ c.exceptionTable.toList, False) → 6 ≤ R.frames → 90 ≤ R.locals →
    (∀ pc ls st A S, J' pc ls st A S → A.2.2 = A0.2.2 → MJ p l e R s m args below meth c (vx_MQ below (QcI b0 H0 D cy ad A0 K) (XcM b0 H0 D cy ad A0 K) args s 1 8 (fun q => b0 ≤ q)) b0 H0 D cy ad A0.2.2.1 A0.2.2.2 (A0.2.2.1 + 1, A0.2.2.2 + 8) pc ls st A S) →
    ∀ ls st A S, sm rn K (A0.2.2.1 + 1, A0.2.2.2 + 8) pc ls st A S J' → A.2.2 = A0.2.2 → MJ p l e R s m args below meth c (vx_MQ below (QcI b0 H0 D cy ad A0 K) (XcM b0 H0 D cy ad A0 K) args s 1 8 (fun q => b0 ≤ q)) b0 H0 D cy ad A0.2.2.1 A0.2.2.2 (A0.2.2.1 + 1, A0.2.2.2 + 8) pc ls st A S
theorem Okn.x {pc : Nat} {sm : qM} (h : Okn RX9 cX9_led 4 False RnOk pc sm) (hk : Kp sm) : OkX pc sm := by
  intro p l e R s m args below meth c b0 H0 D cy ad adV sa A0 K rn J' X _ _ hrok _ _ _ _ _ hJ ls st A S hs hA
  exact h p l e R s m args below meth c _ b0 H0 D cy ad adV _ _ _ K (upR rn) (fun pc' ls' st' A' S' => A' = A ∧ J' pc' ls' st' A' S') X (fun z => z.elim) hrok.up (fun pc ls st A1 S1 hj => hJ _ _ _ _ _ hj.2 (by rw [hj.1]; exact hA)) ls st A S (hk _ _ _ _ _ _ _ _ _ hs)
theorem okx_ireta {pc : Nat} (hd : decode cX9_led pc = .ok (.ireturn, 1)) (_ : True) : OkX pc x_ireta := by
  intro p l e R s m args below meth c b0 H0 D cy ad adV sa A0 K rn J' X hr hlk hrok _ _ _ _ _ hJ ls st A S h hA g1 g2 g3 g4 H locs arr hH hS hl
  dsimp only at g3 g4
  refine W.widen (k := 1) (n := 8) (by omega) (by omega) ?_
  unfold x_ireta at h; split at h
  · exact vx_ret (W.iret X.1 X.2.1 hr (fun t ht hW => ⟨_, (A.1, A.2.1, A0.2.2.1 + 1, A0.2.2.2 + 8), S, rfl, h, rfl, rfl, by rw [ht]; exact hH, by rw [ht]; exact hS.1⟩) (fun q hq => hS.2.2 q hq) hd hlk)
  · exact h.elim
set_option maxRecDepth 100000 in
theorem ledW_in : ∀ w ∈ ledW.filter goodWord, w ∈ lw_tbl := by decide +kernel
theorem ledW_no : ∀ w ∈ ledW.filter (fun w => !goodWord w), w ∈ declL := by decide +kernel
theorem ledW_at {args : Array Value} {s : State} {b0 : Nat} {H0 : Heap} {sa : Nat} (h : ∀ w ∈ wsA, w.before args s = true) (hA : AmL b0 H0 sa s) : ∀ w ∈ ledW, w.before args s = true := by
  refine vx_hat (B := declL) (fun w hw => h w (inA (ledW_in w hw) (List.mem_filter.mp hw).2)) ledW_no (fun w hw => ?_)
  have h1 := hA.1 w hw
  simp only [declL, List.mem_cons, List.not_mem_nil, or_false] at hw
  rcases hw with rfl | rfl | rfl
  all_goals exact va_tabs rfl rfl h1
theorem okx_throw : OkX 55 x_throw := by
  intro p l e R s m args below meth c b0 H0 D cy ad adV sa A0 K rn J' X hr hlk hrok hst hAm hex hfr hlo hJ ls st A S h hA g1 g2 g3 g4 H locs arr hH hS hl
  have e1 : A.2.2.1 = A0.2.2.1 := by rw [hA]
  have e2 : A.2.2.2 = A0.2.2.2 := by rw [hA]
  rw [e1, e2, Nat.sub_self, Nat.sub_self]
  have hRc := X.2.2.2.2.2.2.1
  have hRs := X.2.2.2.2.2.2.2.1
  dsimp only at hRc hRs
  have hold : ∀ a : Nat, a < H0.size → ¬ b0 ≤ a → s.heap[a]? = H0[a]? := fun a _ ha => X.2.2.2.2.2.2.2.2.2.2.2 a (Nat.not_le.mp ha)
  unfold x_throw at h; split at h
  · exact thr_new (own := RX9) (cls := nseN) (Y := "java/lang/RuntimeException") (names := ["java/lang/Exception"]) (ik := 371) (is := 373) (ic := 375) (ix := 13) (rx := prog_27_method_4_code) (sa := sa) (A := fun q => b0 ≤ q) X.1 X.2.1 hst
      (by decide +kernel) (by decide +kernel) (by decide +kernel) (by decide +kernel) X.2.2.2.1 (by decide) (by decide) (by decide) (ledW_at X.2.2.2.2.1 hAm) ledW_ot hAm.2.1 (hAm.2.2.1.kept hold) (hAm.2.2.2.kept hold) hS hl.2.1
      (by decide +kernel) (by decide +kernel) (by decide +kernel) (by decide +kernel) (by decide +kernel) (fun x hx => (hex x hx).elim) (by show 1 + 4 < R.frames; omega) (by show 0 + (13 * (1 + 2) + 43) ≤ R.locals; omega) (by omega) (by omega) hlk
      (fun t _ hz hq => ⟨rfl, (A.1, t.heap.size, A0.2.2.1 + 1, A0.2.2.2 + 8), S, h _ (by rw [← hH.1]; exact hz), rfl, rfl, hH.more hz hq, Nat.le_trans hS.1 hz⟩) (fun z hz => hS.2.2 z hz) (by omega) (by omega)
  · exact h.elim
set_option maxRecDepth 100000 in
theorem otX_led : ∀ q ∈ mX9_led, OkX q.1 q.2 :=
  List.forall_mem_cons.mpr ⟨Okn.x (ok_iconst (n := 0) (by decide +kernel) rfl) kp_push,
  List.forall_mem_cons.mpr ⟨Okn.x (ok_ist_n (k := 2) (by decide +kernel) rfl (by decide)) kp_ist,
  List.forall_mem_cons.mpr ⟨Okn.x (ok_iconst (n := 0) (by decide +kernel) rfl) kp_push,
  List.forall_mem_cons.mpr ⟨Okn.x (ok_ist_n (k := 3) (by decide +kernel) rfl (by decide)) kp_ist,
  List.forall_mem_cons.mpr ⟨Okn.x (ok_ild_n (k := 3) (by decide +kernel) rfl) kp_ild,
  List.forall_mem_cons.mpr ⟨Okn.x (ok_ald_n (k := 0) (by decide +kernel) rfl) kp_ald,
  List.forall_mem_cons.mpr ⟨Okn.x (ok_gfR (index := 35) (k := 6) (by decide +kernel) cls9 (by decide) (Or.inl kw_366) rfl) kp_gfR,
  List.forall_mem_cons.mpr ⟨Okn.x (ok_gfI (index := 114) (k := 7) (by decide +kernel) cls8 (by decide) (Or.inl kw_103) rfl) kp_gfI,
  List.forall_mem_cons.mpr ⟨Okn.x (ok_ic_ge (off := 43) (by decide +kernel) (by decide)) kp_ic,
  List.forall_mem_cons.mpr ⟨Okn.x (ok_ald_n (k := 0) (by decide +kernel) rfl) kp_ald,
  List.forall_mem_cons.mpr ⟨Okn.x (ok_gfR (index := 35) (k := 6) (by decide +kernel) cls9 (by decide) (Or.inl kw_366) rfl) kp_gfR,
  List.forall_mem_cons.mpr ⟨Okn.x (ok_ild_n (k := 3) (by decide +kernel) rfl) kp_ild,
  List.forall_mem_cons.mpr ⟨Okn.x (ok_ivZ (by decide +kernel) cls8 rfl cw_X9_230_60 rfl) kp_ivZ,
  List.forall_mem_cons.mpr ⟨Okn.x (ok_if_eq (off := 26) (by decide +kernel) (by decide)) kp_if,
  List.forall_mem_cons.mpr ⟨Okn.x (ok_ald_n (k := 0) (by decide +kernel) rfl) kp_ald,
  List.forall_mem_cons.mpr ⟨Okn.x (ok_gfR (index := 45) (k := 8) (by decide +kernel) cls9 (by decide) (Or.inl kw_368) rfl) kp_gfR,
  List.forall_mem_cons.mpr ⟨Okn.x (ok_ild_n (k := 3) (by decide +kernel) rfl) kp_ild,
  List.forall_mem_cons.mpr ⟨Okn.x (ok_ivL (by decide +kernel) cls0 rfl cw_X9_237_12 rfl) kp_ivL,
  List.forall_mem_cons.mpr ⟨Okn.x (ok_lconst (n := 0) (by decide +kernel) rfl) kp_push,
  List.forall_mem_cons.mpr ⟨Okn.x (ok_lcmp (by decide +kernel)) kp_lcmp,
  List.forall_mem_cons.mpr ⟨Okn.x (ok_if_le (off := 13) (by decide +kernel) (by decide)) kp_if,
  List.forall_mem_cons.mpr ⟨Okn.x (ok_ild_n (k := 2) (by decide +kernel) rfl) kp_ild,
  List.forall_mem_cons.mpr ⟨Okn.x (ok_ild_n (k := 1) (by decide +kernel) rfl) kp_ild,
  List.forall_mem_cons.mpr ⟨Okn.x (ok_ic_ne (off := 5) (by decide +kernel) (by decide)) kp_ic,
  List.forall_mem_cons.mpr ⟨Okn.x (ok_ild_n (k := 3) (by decide +kernel) rfl) kp_ild,
  List.forall_mem_cons.mpr ⟨okx_ireta (by decide +kernel) trivial,
  List.forall_mem_cons.mpr ⟨Okn.x (ok_iinc (n := 1) (by decide +kernel) rfl (by decide)) kp_iinc,
  List.forall_mem_cons.mpr ⟨Okn.x (ok_iinc (n := 1) (by decide +kernel) rfl (by decide)) kp_iinc,
  List.forall_mem_cons.mpr ⟨Okn.x (ok_goto (off := -48) (by decide +kernel) (by decide)) kp_goto,
  List.forall_mem_cons.mpr ⟨okx_throw,
  fun _ h => absurd h List.not_mem_nil⟩⟩⟩⟩⟩⟩⟩⟩⟩⟩⟩⟩⟩⟩⟩⟩⟩⟩⟩⟩⟩⟩⟩⟩⟩⟩⟩⟩⟩⟩
theorem okx_at : ∀ {C : List (Nat × qM)}, (∀ q ∈ C, OkX q.1 q.2) → ∀ pc, OkX pc (cAt C pc)
  | [], _, pc => fun _ _ _ _ _ _ _ _ _ _ _ _ _ _ _ _ _ _ _ _ _ _ _ _ _ _ _ _ _ _ _ _ _ _ _ h => h.elim
  | (p, s) :: t, h, pc => by
    unfold cAt
    cases hq : Nat.beq p pc with
    | true =>
      have e : p = pc := Nat.eq_of_beq_eq_true hq
      subst e
      exact h (p, s) List.mem_cons_self
    | false => exact okx_at (fun q hq => h q (List.mem_cons_of_mem _ hq)) pc
def PcL (b0 : Nat) (H0 : Heap) (D : va_G) (cy : Nat → ClassId) (ad adV : Nat → Nat) (sa : Nat) (A : qA) (S : qS) (args : List Value) : Array Value → State → Prop := fun a U => PcM b0 H0 D cy ad adV A S args a U ∧ AmL b0 H0 sa U
theorem PcL_blind {b0 : Nat} {H0 : Heap} {D : va_G} {cy : Nat → ClassId} {ad adV : Nat → Nat} {sa : Nat} {A : qA} {S : qS} {as : List Value} : FrameBlind (PcL b0 H0 D cy ad adV sa A S as) := fun a U g mk h => ⟨PcM_blind a U g mk h.1, h.2.same rfl⟩
/-- the contract of LotLedger.led -/
theorem led_met {l : Launch} (hst : l.stackTraces = false) {b0 : Nat} {H0 : Heap} {D : va_G} {cy : Nat → ClassId} {ad adV : Nat → Nat} {sa : Nat} {d : Nat} (hd : 5 ≤ d) {args : List Value} {A : qA} {S : qS} {K : qK} (h : Run (d + 1) ledId args A S K) :
    vx_Met l yX9_led (Cond.code yX9_led cX9_led 4 (some .int) :: wsA) { frames := d + 1, cells := 1, slots := 8, locals := 40 * (d + 1) } (PcL b0 H0 D cy ad adV sa A S args) (QcI b0 H0 D cy ad A K) (XcM b0 H0 D cy ad A K) 1 8 (fun q => b0 ≤ q) := by
  obtain ⟨hmin, hargs, h⟩ := h
  refine vx_ofW (cc := cX9_led) (maxL := 4) (ret := some .int) (by decide) rfl ?_
  intro p e s m args' below meth c s₁ B hml hex hv
  obtain ⟨⟨rfl, hH, hamb⟩, hAm⟩ := hv
  have hts0 := atoms_spec (ws := Cond.code yX9_led cX9_led 4 (some .int) :: wsA) B.pre
  have hX : MX p (headSpec (Cond.code yX9_led cX9_led 4 (some .int) :: wsA) { frames := d + 1, cells := 1, slots := 8, locals := 40 * (d + 1) }).room s m args.toArray meth c RX9 cX9_led 4 b0 H0 D cy ad adV A.2.2.1 A.2.2.2 (A.2.2.1 + 1, A.2.2.2 + 8) :=
    ⟨B.exec, B.bytes, hml, findClass_of_methodNamed B.named, fun w hw => hts0 w (List.mem_cons_of_mem _ hw), hamb, by show 1 = _; dsimp only; omega, by show 8 = _; dsimp only; omega, by show 1 ≤ d + 1; omega, by show 40 ≤ 40 * (d + 1); omega, hH.2.1, hH.2.2.1⟩
  have hrn : RnOk l (headSpec (Cond.code yX9_led cX9_led 4 (some .int) :: wsA) { frames := d + 1, cells := 1, slots := 8, locals := 40 * (d + 1) }).room b0 H0 D cy ad adV (Run d) := by
    intro y' as' A' S' K' hr' h1 h2
    have := mLoc_le y' h1
    exact ⟨d, 40 * d, by show d + 1 ≤ d + 1; omega, by show 8 + (mLoc y' + 11) + 40 * d ≤ 40 * (d + 1); omega, Run.sound l b0 H0 D cy ad adV d y' as' A' S' K' hr' h1 h2⟩
  have hall := okx_at otX_led
  have hJ := h (fun pc ls st A1 S1 => A1.2.2 = A.2.2 → MJ p l e (headSpec (Cond.code yX9_led cX9_led 4 (some .int) :: wsA) { frames := d + 1, cells := 1, slots := 8, locals := 40 * (d + 1) }).room s m args.toArray below meth c (vx_MQ below (QcI b0 H0 D cy ad A K) (XcM b0 H0 D cy ad A K) args.toArray s 1 8 (fun q => b0 ≤ q)) b0 H0 D cy ad A.2.2.1 A.2.2.2 (A.2.2.1 + 1, A.2.2.2 + 8) pc ls st A1 S1)
    (fun J' hJ' pc ls st A' S' hs => hall pc p l e _ s m args.toArray below meth c b0 H0 D cy ad adV sa A K (Run d) J' hX B.returns B.notSynchronized hrn hst hAm hex (by show 6 ≤ d + 1; omega) (by show 90 ≤ 40 * (d + 1); omega) hJ' ls st A' S' hs) rfl
  have hl := lv_entry args (n := 4) (by rw [lg_iniA]; exact hargs)
  have hw := hJ (Nat.le_refl _) (Nat.le_refl _) (Nat.le_add_right _ _) (Nat.le_add_right _ _) s.heap [] ((lg_sl args ++ List.replicate (4 - (lg_sl args).length) Slot.unset).toArray) hH va_S.rf ⟨by rw [hml]; exact pad_len _ _, by rw [hml]; exact hl.1, hl.2.1, fun k v hk => by
    have h1 := lget_iniA args 0 k v (lget_pad _ _ k v hk)
    rw [Nat.zero_add] at h1
    exact hl.2.2 _ h1⟩
  rw [Nat.sub_self, Nat.sub_self] at hw
  rw [lg_entry_eq]
  exact hw
