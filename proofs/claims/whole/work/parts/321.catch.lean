section CatA
/-- the search in a table of one row that takes it -/
theorem cat_find {e : Env} {s : State} {f : JFrame} {a : Addr} {meth : Method} {c : Code} {x : ExceptionTableEntry} {k : ClassId} {ce : Cell} (hm : s.vm.method? f.method = some meth) (hc : meth.code = some c)
    (ht : c.exceptionTable.toList = [x]) (hx : covers x f.pc = true) (h0 : x.catchType ≠ 0) (hl : s.vm.ClassLinks e.platform f.method.cls x.catchType k) (hq : s.heap[a]? = some ce) (hv : ∀ z, ce.vm ≠ .statics z)
    (h1 : ∃ y, s.vm.classes[ce.cls]? = some y) (h2 : ∃ y, s.vm.classes[k]? = some y) (hf : s.vm.assignable ce.cls k = true) (Q : Handler → Pre) (E : CtlPost) (d : Bool) (acts : List Action) :
    wp (findHandler f a) Q E e d acts s ↔ Q (.found x.handlerPc) d acts (s.setVm (s.vm.noted f.method.cls x.catchType (.cls k))) := by
  rw [W.findHandler_eq hm hc, ht]
  have al : s.vm.Alike (s.vm.noted f.method.cls x.catchType (.cls k)) := (Vm.Alike.refl s.vm).noted _ _ _
  obtain ⟨r1, r2⟩ := (resolveClass_links e.toSetting hl).op (op := VmOp.resolveClass f.method.cls x.catchType) rfl
  obtain ⟨y1, z1⟩ := h1
  obtain ⟨y2, z2⟩ := h2
  obtain ⟨u1, w1, -⟩ := al.2.2 _ _ z1
  obtain ⟨u2, w2, -⟩ := al.2.2 _ _ z2
  have fit2 : (s.vm.noted f.method.cls x.catchType (.cls k)).assignable ce.cls k = true := by rw [al.assignable]; exact hf
  have cov := hx
  simp only [covers] at cov
  simp [findHandler.go, cov, h0, r1, r2, hq, hv, w1, w2, fit2, VmOp.dirties, VmOp.acts]
variable {p : Program} {l : Launch} {e : Env} {R : Room} {s : State} {m : MethodId} {args : Array Value} {below : List Frame} {meth : Method} {c : Code} {H : Heap} {locs : List Loc} {cells slots : Nat} {Q : State → Prop}
theorem cat_one {own name E : String} {ce : Cell} {q : Addr} {x : ExceptionTableEntry} {pc : Nat} {ls : Array Slot} {rest : List Value} (hown : s.vm.findClass own = some m.cls) (ht : c.exceptionTable.toList = [x]) (hx : covers x pc = true) (h0 : x.catchType ≠ 0)
    (hlink : (Cond.classLink own x.catchType name).before args s = true) (hcast : (Cond.castable E name).before args s = true) (hcell : H[q]? = some ce) (hv : ce.vm = .none) (hcl : s.vm.findClass E = some ce.cls)
    (kk : W p l e R s m args below meth c H locs cells slots Q (F0 m x.handlerPc ls [.ref q])) : vx_W p l e R s m args below meth c H locs cells slots Q (F0 m pc ls rest) q := by
  intro T hT X
  have hpl : e.platform.magicAccessors = ({} : Platform).magicAccessors := by rw [X.admits.platform]
  obtain ⟨k1, k2, e1, e2, hfit⟩ := Cond.castable_spec hcast
  cases Option.some.inj (e1.symm.trans hcl)
  obtain ⟨k3, e3, hln⟩ := Cond.classLink_spec hown hlink e.platform hpl
  cases Option.some.inj (e2.symm.trans e3)
  obtain ⟨dk, _, _, kt, hd, _, _, _, _, hkt, _, hopen⟩ := hln.here
  have al := X.warmed.alike
  obtain ⟨kt2, hkt2, -⟩ := al.2.2 _ _ hkt
  have fitT : T.vm.assignable ce.cls k2 = true := by rw [al.assignable]; exact hfit
  have hW := X.warmed.noted hd hopen (State.rightAt_cls hln)
  obtain ⟨t, a1, b1⟩ := kk (T.setVm (T.vm.noted m.cls x.catchType (.cls k2))) hT (X.noted hW)
  refine ⟨t, Steps.trans ?_ a1, b1⟩
  obtain ⟨hgo, hw⟩ := X.here.throwing (g := F0 m pc ls rest) q
  refine Steps.head hgo hw ?_
  rw [stepThread_throwing (frames_entered X.here.top _)]
  have hf := fun Q E d acts => cat_find (e := e) (s := (T.setTop (F0 m pc ls rest)).pushFrame (.throwing q)) (f := F0 m pc ls rest) (a := q) (meth := meth) (c := c) (x := x) (k := k2) (ce := ce) X.method' X.code ht hx h0 (X.warmed.classLinks hln) (show T.heap[q]? = some ce by rw [hT]; exact hcell)
    (fun z h => by rw [hv] at h; cases h) (Vm.classAt_of_assignable fitT ⟨kt2, hkt2⟩) ⟨kt2, hkt2⟩ fitT Q E d acts
  have hst : (stepThrowing e ((T.setTop (F0 m pc ls rest)).pushFrame (.throwing q)) q (.java (F0 m pc ls rest) :: T.frames.tail)).Is ((((T.setTop (F0 m pc ls rest)).pushFrame (.throwing q)).setVm (T.vm.noted m.cls x.catchType (.cls k2))).setFrames (.java { F0 m pc ls rest with pc := x.handlerPc, stack := [.ref q] } :: T.frames.tail)) [] := by
    simp only [stepThrowing, searchFrame, vmDo]
    generalize hr : Sem.go _ e false [] ((T.setTop (F0 m pc ls rest)).pushFrame (.throwing q)) = res
    obtain ⟨as, rfl, ha⟩ := Sem.eq_ok_of hr (a := Handler.found x.handlerPc) (s' := ((T.setTop (F0 m pc ls rest)).pushFrame (.throwing q)).setVm (T.vm.noted m.cls x.catchType (.cls k2))) (acts' := []) (by simp [hf]; rfl)
    exact ⟨rfl, ha⟩
  rw [hst.1]
  obtain ⟨g0, hg0⟩ := Option.isSome_iff_exists.mp X.here.top
  obtain ⟨r, hr⟩ := State.topJava?_eq_some.mp hg0
  have hr2 : (T.setVm (T.vm.noted m.cls x.catchType (.cls k2))).frames = .java g0 :: r := hr
  have mv : ∀ (u : State) (v : Vm) (F G : List Frame), ((u.setFrames F).setVm v).setFrames G = (u.setVm v).setFrames G := fun u v F G => by
    rw [show (u.setFrames F).setVm v = (u.setVm v).setFrames F from rfl, State.setFrames_setFrames]
  rw [State.pushFrame, mv, State.setTop_of_frames _ hr, mv, hr, List.tail_cons]
  have hend := State.setTop_of_frames (F0 m x.handlerPc ls [.ref q]) hr2
  rw [hend]
  exact Steps.refl _
end CatA
