/-! 'throw new E(message)' where E's constructor hands the message to its superclass by a link of its own (index ix); no stack traces -/
section ThrA
theorem fit_plain {n : String} (h : Bundle.fit n = true) : plainName n = true := by
  simp only [Bundle.fit, Bool.and_eq_true] at h
  exact h.1.1
theorem fit_no {n : String} (h : Bundle.fit n = true) : n ≠ "java/lang/invoke/MethodHandle" ∧ n ≠ "java/lang/invoke/VarHandle" := by
  simp only [Bundle.fit, Bool.and_eq_true, bne_iff_ne] at h
  exact ⟨h.1.2, h.2⟩
def thrR (own : String) (ic : Nat) (X : String) : List Cond := [.methodLink own ic (Bundle.initS X), .instantiable X 6, .selects X Bundle.tFill0 Bundle.tFill0, .selects X Bundle.tFill Bundle.tFill,
  .lays X Bundle.tN "cause" "Ljava/lang/Throwable;", .lays X Bundle.tN "stackTrace" Bundle.steD, .lays X Bundle.tN "suppressedExceptions" Bundle.listD, .lays X Bundle.tN "detailMessage" "Ljava/lang/String;",
  .fieldLink Bundle.tN 198 Bundle.tN "backtrace" "Ljava/lang/Object;", .lays Bundle.tN Bundle.tN "backtrace" "Ljava/lang/Object;", .lays X Bundle.tN "backtrace" "Ljava/lang/Object;"]
variable {p : Program} {l : Launch} {e : Env} {R : Room} {s : State} {m : MethodId} {args : Array Value} {below : List Frame} {meth : Method} {c : Code} {T : State} {cells slots : Nat}
set_option maxHeartbeats 2000000 in
theorem thr_ctor (X : Stand p l e R s m args below meth c T [] cells slots) (hexec : p.tables.exec = Jvm.exec) (htr : e.platform.stackTraces = false) {own cls Y : String} {names : List String} {ic ix : Nat} {rx : ByteArray}
    (x0 : decode rx 0 = .ok (.aload_n 0, 1)) (x1 : decode rx 1 = .ok (.aload_n 1, 1)) (x2 : decode rx 2 = .ok (.invokespecial ix, 3)) (x5 : decode rx 5 = .ok (.return_, 1))
    (hown : s.vm.findClass own = some m.cls) (hcls : Bundle.fit cls = true) (hY : Bundle.fit Y = true) (hnames : ∀ n ∈ names, Bundle.fit n = true)
    (hT : ∀ w ∈ Bundle.throwableAtoms, w.before args s = true) (hTS : ∀ w ∈ Bundle.throwableSAtoms, w.before args s = true) (hP : ∀ w ∈ Bundle.passSAtoms cls Y ix rx, w.before args s = true) (hC : ∀ w ∈ Bundle.chainSAtoms Y names, w.before args s = true) (hR : ∀ w ∈ thrR own ic cls, w.before args s = true)
    (hU : (Cond.isRef (.static Bundle.tN "UNASSIGNED_STACK" Bundle.steD)).before args s = true) (hN : (Cond.isRef (.static Bundle.tN "SUPPRESSED_SENTINEL" Bundle.listD)).before args s = true)
    {a : Addr} {cX : ClassId} {kX : Class} (hfX : s.vm.findClass cls = some cX) (hkX : s.vm.classes[cX]? = some kX) (hcell : T.heap[a]? = some (freshCell cX kX)) (hnew : s.heap.size ≤ a) {msg : Value} (hmsg : msg.isRef = true)
    {g : JFrame} (hg : g.method = m) (hsize : g.locals.size = c.maxLocals) (hlocked : g.locked = none) (hentered : g.entered = []) {rest : List Value} (hstack : g.stack = msg :: .ref a :: .ref a :: rest)
    (hd6 : decode c.code g.pc = .ok (.invokespecial ic, 3)) (hd9 : decode c.code (g.pc + 3) = .ok (.athrow, 1)) (hout : ∀ x ∈ c.exceptionTable.toList, covers x (g.pc + 3) = false)
    (hfr : names.length + 4 < R.frames) (hlo : 2 * g.monitorRoom + ((Value.ref a :: rest).map fun v => v.category).sum + (13 * (names.length + 2) + 42) ≤ R.locals) (hlocks : meth.locks = false) :
    ∃ U : State, Steps p.tables e below (T.setTop g) U ∧ U.status = .running ∧ Ended U below (.threw a) ∧ s.WarmedH U.vm ∧ s.sameButNew ({ U with vm := s.vm } : State) [] cells slots ∧ ∃ ce, U.heap[a]? = some ce ∧ ce.cls = cX ∧ ce.vm = .none := by
  have hpl : e.platform.magicAccessors = ({} : Platform).magicAccessors := by rw [X.admits.platform]
  obtain ⟨B, Z0, L, -, Y0⟩ := ThrowableC.of_atoms (args := args) (by rw [X.admits.platform] : e.platform.frameOwnsMonitors = true) (by rw [X.admits.platform] : e.platform.finalization = false) hpl hT
  obtain ⟨Z, M, LZ, LM, hnZ⟩ := Init0T.ofS_atoms (args := args) hpl L Y0 hTS
  obtain ⟨P1, LP, hPm, hPs⟩ := PassC.ofS_atoms (args := args) (s := s) hpl (X := cls) (Y := Y) (fit_plain hcls) (fit_no hY) x0 x1 x2 x5 hP
  obtain ⟨P2, Ps, hlen, LP2, hLs, hP2m, hlk2, hlk⟩ := Bundle.chainS (args := args) hpl hnZ names Y hY hnames hC
  have lk1 : P1.sup = P2.m := Option.some.inj (hPs.symm.trans hP2m)
  have hf : s.vm.findClass cls = some P1.m.cls := findClass_of_methodNamed hPm
  cases Option.some.inj (hfX.symm.trans hf)
  obtain ⟨c1, k1, hc1, hk, hord, -, -, -⟩ := Cond.instantiable_spec (hR (.instantiable cls 6) (by simp [thrR]))
  cases Option.some.inj (hc1.symm.trans hf)
  cases Option.some.inj (hkX.symm.trans hk)
  have sel : ∀ (y : MethodName) (mi : MethodId), s.methodNamed? y = some mi → (y.cls ≠ "java/lang/invoke/MethodHandle" ∧ y.cls ≠ "java/lang/invoke/VarHandle") → (Cond.selects cls y y).before args s = true → selectMethod e.platform s.vm P1.m.cls mi = .method mi := by
    intro y mi hn hy hsel
    obtain ⟨c2, r2, m2, q1, q2, q3, q4, -⟩ := Cond.selects_spec hsel
    cases Option.some.inj (q1.symm.trans hf)
    cases Option.some.inj (q2.symm.trans (State.methodFound?_of_named hn hy))
    cases Option.some.inj (q3.symm.trans hn)
    rw [Launch.admits_selectMethod X.admits]; exact q4
  have sel0 := sel Bundle.tFill0 B.fill0 Y0.fill0 (by decide) (hR _ (by simp [thrR]))
  have selF := sel Bundle.tFill B.fill Y0.fill (by decide) (hR _ (by simp [thrR]))
  obtain ⟨cS, hcS, hiS⟩ := Y0.statics
  obtain ⟨u0, hu0⟩ := Cond.staticRefV Y0.unassigned L.unassignedStatic L.statics hcS hiS hU
  obtain ⟨sen, hsen⟩ := Cond.staticRefV Y0.sentinel L.sentinelStatic L.statics hcS hiS hN
  obtain ⟨ci, ii, fB, b1, b2, b3, b4, -, b5, b6, b7⟩ := Cond.ownField (t := .object "java/lang/Object") Y0.found L.cls (by decide +kernel) (hR (.fieldLink Bundle.tN 198 Bundle.tN "backtrace" "Ljava/lang/Object;") (by simp [thrR])) (hR (.lays Bundle.tN Bundle.tN "backtrace" "Ljava/lang/Object;") (by simp [thrR])) e.platform hpl
  obtain ⟨cT, hcT, heT, -, hkeep⟩ := X.same.2.2.2.2.2 B.aS cS hcS
  have hcT' : T.heap[B.aS]? = some cT := hcT
  have hno : cT.vm ≠ .unknown := by
    rw [heT]; intro hu
    rw [show cS.vm = .unknown from hu] at hiS
    cases hiS
  have hneS : B.aS ≠ a := Nat.ne_of_lt (Nat.lt_of_lt_of_le (Array.getElem?_eq_some_iff.mp hcS).1 hnew)
  obtain ⟨iM, hM⟩ := Y0.msg
  obtain ⟨tC, dC, gC, nC⟩ := Cond.laysAt hf hk Y0.cause (hR (.lays cls Bundle.tN "cause" "Ljava/lang/Throwable;") (by simp [thrR]))
  obtain ⟨tS, dS, gS, nS⟩ := Cond.laysAt hf hk Y0.stack (hR (.lays cls Bundle.tN "stackTrace" Bundle.steD) (by simp [thrR]))
  obtain ⟨tP, dP, gP, nP⟩ := Cond.laysAt hf hk Y0.supp (hR (.lays cls Bundle.tN "suppressedExceptions" Bundle.listD) (by simp [thrR]))
  obtain ⟨tM, dM, gM, nM⟩ := Cond.laysAt hf hk hM (hR (.lays cls Bundle.tN "detailMessage" "Ljava/lang/String;") (by simp [thrR]))
  obtain ⟨tB, dB, gB, nB⟩ := Cond.laysAt hf hk b7 (hR (.lays cls Bundle.tN "backtrace" "Ljava/lang/Object;") (by simp [thrR]))
  have aC := Cond.laysApart gB gC nB nC (by rw [b5, Y0.causeName]; decide)
  have aS := Cond.laysApart gB gS nB nS (by rw [b5, Y0.stackName]; decide)
  have aP := Cond.laysApart gB gP nB nP (by rw [b5, Y0.suppName]; decide)
  have skip : SkipFacts B e.platform s (fun u => u) u0 ((preparedCellV B.toThrowableT (freshCell P1.m.cls kX) a u0 sen).withEntry T.cur) :=
    ⟨{ ci198 := ci, i198 := ii, fBack := fB }, ⟨b1, b2, b3, b4⟩, by
      have := fresh_default (c := P1.m.cls) tB
      rw [b6] at this
      simpa [preparedCellV, Cell.setSlot, Cell.withEntry, Array.getElem?_setIfInBounds, aC, aS, aP, aC.symm, aS.symm, aP.symm, defaultValue] using this, fun _ _ => rfl⟩
  obtain ⟨tm, mC, cC, kC, vm1, hnC, -, -, -, -, -, -, -, hW1, st1⟩ := Steps.initColdS (tb := p.tables) (e := e) (below := below) (s := s) (U := T) X.here hexec X.warmed hpl hown (t := Bundle.initS cls) rfl rfl (fit_no hcls)
    (hR (.methodLink own ic (Bundle.initS cls)) (by simp [thrR])) (hP (.instanceMethod (Bundle.initS cls)) (by simp [Bundle.passSAtoms])) (bytes := rx) (maxL := 2) (hP (.code (Bundle.initS cls) rx 2 none) (by simp [Bundle.passSAtoms]))
    (f := g) hg (a := a) (msg := msg) (rest := .ref a :: rest) hstack hd6
  cases Option.some.inj (hnC.symm.trans hPm)
  obtain ⟨vm2, X2, st2⟩ := (X.noted hW1).ctorMessageOffV hexec (g := { g with stack := .ref a :: rest }) hg hsize B L Z LZ M LM (P1 :: P2 :: Ps)
    (fun P h => by
      rcases List.mem_cons.mp h with rfl | h
      · exact LP
      · rcases List.mem_cons.mp h with rfl | h
        · exact LP2
        · exact hLs P h) ⟨lk1, hlk2, hlk⟩ (u0 := u0) (sen := sen) (self := a) hmsg (cell := freshCell P1.m.cls kX) (cellS := cT)
    hcell (fun _ => by simp) (by simp) rfl rfl sel0 selF hcT' hneS hno (by rw [hkeep _ (fun h => nomatch h)]; exact hu0) (by rw [hkeep _ (fun h => nomatch h)]; exact hsen)
    (Takes.of_laid hk hord tC (by rw [Y0.causeType]; rfl)) (Takes.of_laid hk hord tS (by rw [Y0.stackType]; exact fits_refV_array _ u0)) (Takes.of_laid hk hord tP (by rw [Y0.suppType]; exact fits_refV_object _ sen))
    (Takes.of_laid hk hord tM (by rw [Y0.msgType]; exact fits_refV_object _ ⟨msg, hmsg⟩)) Y0.objLocals skip htr [] hd6
    (by simp only [List.length_cons, hlen]; omega) (by simp only [List.length_cons, hlen]; exact hlo)
  obtain ⟨w1, w2, w3, w4, w5⟩ := X2.athrowLeaves hexec (g := { g with stack := .ref a :: rest, pc := g.pc + 3 }) hg hlocked hentered hout (a := a) (rest := rest) rfl hd9
  have hlt : a < ((T.setVm vm1).setVm vm2).heap.size := (Array.getElem?_eq_some_iff.mp hcell).1
  refine ⟨_, st1 _ (fun acts => by rw [doInvoke_state]; exact st2 _ w1), w2, w3, w4, w5.weaken (fun y hy hl => ?_) (Nat.le_refl _) (Nat.le_refl _), _, heapAt_setCell_self (s := (T.setVm vm1).setVm vm2) (plainBareV B.toThrowableT (freshCell P1.m.cls kX) a u0 sen msg) hlt, rfl, rfl⟩
  exfalso
  have hb : y.base = a := by
    simp only [List.nil_append, List.mem_cons, List.not_mem_nil, or_false] at hy
    rcases hy with rfl | rfl | rfl | rfl | rfl <;> rfl
  rw [hb] at hl
  exact Nat.not_lt.mpr hnew hl
end ThrA
