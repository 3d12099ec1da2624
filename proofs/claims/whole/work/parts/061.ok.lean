/-! EACH TRANSFORMER IS SOUND: the contexts, and the rows that don't touch the heap. -/
def strN : List String := ["ledger", "unsure", "gain", "window", "down", "up", "buy", "sell", "split", "first", "last", "dearest", "cheapest"]
def strR : List (String × Nat × Nat) := [(RX6, 51, 0), (RX6, 81, 3), (RX6, 154, 6), (RX6, 156, 7), (RX6, 158, 8), (RX6, 64, 1), (RX6, 66, 2), (RX6, 160, 9), (RX6, 162, 10), (RX6, 164, 11), (RX6, 166, 12), (RX6, 137, 4), (RX6, 139, 5), (RX11, 233, 0), (RX11, 260, 3), (RX11, 238, 6), (RX11, 279, 9), (RX11, 281, 10), (RX11, 283, 11), (RX11, 285, 12), (RX11, 243, 7), (RX11, 245, 8), (RX11, 250, 1), (RX11, 255, 2), (RX11, 311, 4), (RX11, 313, 5)]
/-- what every state of the run has: classes and array classes, links of nest mates, String constants -/
def Amb (b0 : Nat) (H0 : Heap) (D : va_G) (cy : Nat → ClassId) (ad adV : Nat → Nat) (U : State) : Prop :=
  va_K D vwCl (tysL cy) U ∧ (∀ w ∈ nestL, va_Nw w U) ∧ (∀ C ∈ [RX3, RX4, RX8], va_AO C U) ∧ (∀ q ∈ strR, vk_R q.1 q.2.1 (strN.getD q.2.2 "") (ad q.2.2) U) ∧ vk_S 13 (strT.map List.length) strT ad adV (fun q => b0 ≤ q) U H0 ∧ va_Z "java/lang/String" "COMPACT_STRINGS" "Z" (.int 1) (fun q => b0 ≤ q) U H0 ∧ va_Zq "jdk/internal/util/Preconditions" "SIOOBE_FORMATTER" "Ljava/util/function/BiFunction;" (fun q => b0 ≤ q) U H0
theorem nest_on : ∀ w ∈ nestL, w.onTables = true := by decide +kernel
theorem Amb.warm {b0 : Nat} {H0 : Heap} {D : va_G} {cy : Nat → ClassId} {ad adV : Nat → Nat} {s U : State} (h : Amb b0 H0 D cy ad adV s) (hW : s.WarmedH U.vm) : Amb b0 H0 D cy ad adV U := by
  obtain ⟨h1, h2, h3, h4, h5, h6, h7⟩ := h
  refine ⟨h1.moved hW.alike, fun w hw => ?_, fun C hC => (h3 C hC).moved hW.alike, fun q hq => (h4 q hq).warm hW, h5.moved hW.alike, h6.moved hW.alike, h7.moved hW.alike⟩
  have h := h2 w hw
  simp only [nestL, List.mem_cons, List.not_mem_nil, or_false] at hw
  rcases hw with rfl | rfl | rfl | rfl | rfl | rfl | rfl | rfl | rfl | rfl | rfl | rfl | rfl | rfl | rfl | rfl
  all_goals first | exact h.warmM hW | exact h.warmF hW
theorem Amb.same {b0 : Nat} {H0 : Heap} {D : va_G} {cy : Nat → ClassId} {ad adV : Nat → Nat} {s U : State} (h : Amb b0 H0 D cy ad adV s) (hv : s.vm = U.vm) : Amb b0 H0 D cy ad adV U := by
  obtain ⟨h1, h2, h3, h4, h5, h6, h7⟩ := h
  have ha : s.vm.Alike U.vm := by rw [hv]; exact Vm.Alike.refl _
  exact ⟨h1.moved ha, fun w hw => (h2 w hw).same (nest_on w hw) hv, fun C hC => (h3 C hC).moved ha, fun q hq => (h4 q hq).same hv.symm, h5.moved ha, h6.moved ha, h7.moved ha⟩
def MJ (p : Program) (l : Launch) (e : Env) (R : Room) (s : State) (m : MethodId) (args : Array Value) (below : List Frame) (meth : Method) (c : Code) (Q : State → Prop) (b0 : Nat) (H0 : Heap) (D : va_G) (cy : Nat → ClassId) (ad : Nat → Nat) (c0 s0 : Nat) (cap : Nat × Nat) : qJ := fun pc ls st A S =>
  c0 ≤ A.2.2.1 → s0 ≤ A.2.2.2 → A.2.2.1 ≤ cap.1 → A.2.2.2 ≤ cap.2 → ∀ (H : Heap) (locs : List Loc) (arr : Array Slot), Hp b0 H0 D cy ad A S H → va_S (fun q => b0 ≤ q) s.heap H locs → lsOk arr c.maxLocals ls → W p l e R s m args below meth c H locs (A.2.2.1 - c0) (A.2.2.2 - s0) Q (F0 m pc arr st)
def MX (p : Program) (R : Room) (s : State) (m : MethodId) (args : Array Value) (meth : Method) (c : Code) (own : String) (cc : ByteArray) (nL : Nat) (b0 : Nat) (H0 : Heap) (D : va_G) (cy : Nat → ClassId) (ad adV : Nat → Nat) (c0 s0 : Nat) (cap : Nat × Nat) : Prop :=
  p.tables.exec = Jvm.exec ∧ c.code = cc ∧ c.maxLocals = nL ∧ s.vm.findClass own = some m.cls ∧ (∀ w ∈ wsA, w.before args s = true) ∧ Amb b0 H0 D cy ad adV s ∧ R.cells = cap.1 - c0 ∧ R.slots = cap.2 - s0 ∧ 1 ≤ R.frames ∧ 40 ≤ R.locals ∧ (b0 ≤ s.heap.size ∧ ∀ q : Nat, q < b0 → s.heap[q]? = H0[q]?)
def PcM (b0 : Nat) (H0 : Heap) (D : va_G) (cy : Nat → ClassId) (ad adV : Nat → Nat) (A : qA) (S : qS) (args : List Value) : Array Value → State → Prop := fun a U => a = args.toArray ∧ Hp b0 H0 D cy ad A S U.heap ∧ Amb b0 H0 D cy ad adV U
def QcM (b0 : Nat) (H0 : Heap) (D : va_G) (cy : Nat → ClassId) (ad : Nat → Nat) (A : qA) (mb : Nat × Nat) (K : qK) : Array Value → State → Outcome → State → Prop := fun _ st o t => ∃ (v : Option Value) (A' : qA) (S' : qS), o = .returned v ∧ K v A' S' ∧ A'.2.2.1 = A.2.2.1 + mb.1 ∧ A'.2.2.2 = A.2.2.2 + mb.2 ∧ Hp b0 H0 D cy ad A' S' t.heap ∧ st.heap.size ≤ t.heap.size
/-- a method's transformer at pc, in every context of its class and code -/
def Okn (own : String) (cc : ByteArray) (nL : Nat) (hi : Prop) (rok : Launch → Room → Nat → Heap → va_G → (Nat → ClassId) → (Nat → Nat) → (Nat → Nat) → qR → Prop) (pc : Nat) (sm : qM) : Prop :=
  ∀ (p : Program) (l : Launch) (e : Env) (R : Room) (s : State) (m : MethodId) (args : Array Value) (below : List Frame) (meth : Method) (c : Code) (Q : State → Prop) (b0 : Nat) (H0 : Heap) (D : va_G) (cy : Nat → ClassId) (ad adV : Nat → Nat) (c0 s0 : Nat) (cap : Nat × Nat) (K : qK) (rn : qR) (J' : qJ),
    MX p R s m args meth c own cc nL b0 H0 D cy ad adV c0 s0 cap → (hi → meth.name = "<init>") → rok l R b0 H0 D cy ad adV rn →
    (∀ pc ls st A S, J' pc ls st A S → MJ p l e R s m args below meth c Q b0 H0 D cy ad c0 s0 cap pc ls st A S) →
    ∀ ls st A S, sm rn K cap pc ls st A S J' → MJ p l e R s m args below meth c Q b0 H0 D cy ad c0 s0 cap pc ls st A S
section
variable {own : String} {cc : ByteArray} {nL : Nat} {hi : Prop} {rok : Launch → Room → Nat → Heap → va_G → (Nat → ClassId) → (Nat → Nat) → (Nat → Nat) → qR → Prop} {pc : Nat}
theorem ok_stuck : Okn own cc nL hi rok pc x_stuck := fun _ _ _ _ _ _ _ _ _ _ _ _ _ _ _ _ _ _ _ _ _ _ _ _ _ _ _ _ _ _ _ h => h.elim
theorem ok_iconst {n : Int} {v : Int32} (hd : decode cc pc = .ok (.iconst n, 1)) (hv : Int32.ofInt n = v) : Okn own cc nL hi rok pc (x_push (.int v) 1) := by
  intro p l e R s m args below meth c Q b0 H0 D cy ad adV c0 s0 cap K rn J' X _ _ hJ ls st A S h g1 g2 g3 g4 H locs arr hH hS hl
  exact lv_iconst X.1 X.2.1 hd hv (hJ _ _ _ _ _ h g1 g2 g3 g4 H locs arr hH hS hl)
theorem ok_bipush {n : Int} {v : Int32} (hd : decode cc pc = .ok (.bipush n, 2)) (hv : (Int8.ofInt n).toInt32 = v) : Okn own cc nL hi rok pc (x_push (.int v) 2) := by
  intro p l e R s m args below meth c Q b0 H0 D cy ad adV c0 s0 cap K rn J' X _ _ hJ ls st A S h g1 g2 g3 g4 H locs arr hH hS hl
  exact lv_bipush X.1 X.2.1 hd hv (hJ _ _ _ _ _ h g1 g2 g3 g4 H locs arr hH hS hl)
theorem ok_sipush {n : Int} {v : Int32} (hd : decode cc pc = .ok (.sipush n, 3)) (hv : (Int16.ofInt n).toInt32 = v) : Okn own cc nL hi rok pc (x_push (.int v) 3) := by
  intro p l e R s m args below meth c Q b0 H0 D cy ad adV c0 s0 cap K rn J' X _ _ hJ ls st A S h g1 g2 g3 g4 H locs arr hH hS hl
  exact lv_sipush X.1 X.2.1 hd hv (hJ _ _ _ _ _ h g1 g2 g3 g4 H locs arr hH hS hl)
theorem ok_lconst {n : Fin 2} {v : Int64} (hd : decode cc pc = .ok (.lconst n, 1)) (hv : Int64.ofNat (n : Nat) = v) : Okn own cc nL hi rok pc (x_push (.long v) 1) := by
  intro p l e R s m args below meth c Q b0 H0 D cy ad adV c0 s0 cap K rn J' X _ _ hJ ls st A S h g1 g2 g3 g4 H locs arr hH hS hl
  exact lv_lconst X.1 X.2.1 hd hv (hJ _ _ _ _ _ h g1 g2 g3 g4 H locs arr hH hS hl)
theorem ok_ldc {index : Nat} {v : Int32} (hd : decode cc pc = .ok (.ldc index, 2)) (hc : Cond.constant own index v ∈ wsA) : Okn own cc nL hi rok pc (x_push (.int v) 2) := by
  intro p l e R s m args below meth c Q b0 H0 D cy ad adV c0 s0 cap K rn J' X _ _ hJ ls st A S h g1 g2 g3 g4 H locs arr hH hS hl
  exact lv_ldc X.1 X.2.1 X.2.2.2.1 (X.2.2.2.2.1 _ hc) hd (hJ _ _ _ _ _ h g1 g2 g3 g4 H locs arr hH hS hl)
theorem ok_ldcw {index : Nat} {v : Int32} (hd : decode cc pc = .ok (.ldc_w index, 3)) (hc : Cond.constant own index v ∈ wsA) : Okn own cc nL hi rok pc (x_push (.int v) 3) := by
  intro p l e R s m args below meth c Q b0 H0 D cy ad adV c0 s0 cap K rn J' X _ _ hJ ls st A S h g1 g2 g3 g4 H locs arr hH hS hl
  exact lv_ldcw X.1 X.2.1 X.2.2.2.1 (X.2.2.2.2.1 _ hc) hd (hJ _ _ _ _ _ h g1 g2 g3 g4 H locs arr hH hS hl)
theorem ok_ldc2 {index : Nat} {v : Int64} (hd : decode cc pc = .ok (.ldc2_w index, 3)) (hc : Cond.constantLong own index v ∈ wsA) : Okn own cc nL hi rok pc (x_push (.long v) 3) := by
  intro p l e R s m args below meth c Q b0 H0 D cy ad adV c0 s0 cap K rn J' X _ _ hJ ls st A S h g1 g2 g3 g4 H locs arr hH hS hl
  exact lv_ldc2 X.1 X.2.1 X.2.2.2.1 (X.2.2.2.2.1 _ hc) hd (hJ _ _ _ _ _ h g1 g2 g3 g4 H locs arr hH hS hl)
theorem ok_ild_n {k : Fin 4} {i : Nat} (hd : decode cc pc = .ok (.iload_n k, 1)) (hi' : (k : Nat) = i) : Okn own cc nL hi rok pc (x_ild i 1) := by
  intro p l e R s m args below meth c Q b0 H0 D cy ad adV c0 s0 cap K rn J' X _ _ hJ ls st A S h g1 g2 g3 g4 H locs arr hH hS hl
  unfold x_ild at h; split at h
  · rename_i x hx
    exact lv_iload_n X.1 X.2.1 hd hi' (hl.2.2.2 _ _ hx) (hJ _ _ _ _ _ h g1 g2 g3 g4 H locs arr hH hS hl)
  · exact h.elim
theorem ok_ild {i : Nat} (hd : decode cc pc = .ok (.iload i, 2)) : Okn own cc nL hi rok pc (x_ild i 2) := by
  intro p l e R s m args below meth c Q b0 H0 D cy ad adV c0 s0 cap K rn J' X _ _ hJ ls st A S h g1 g2 g3 g4 H locs arr hH hS hl
  unfold x_ild at h; split at h
  · rename_i x hx
    exact lv_iload X.1 X.2.1 hd (hl.2.2.2 _ _ hx) (hJ _ _ _ _ _ h g1 g2 g3 g4 H locs arr hH hS hl)
  · exact h.elim
theorem ok_lld_n {k : Fin 4} {i : Nat} (hd : decode cc pc = .ok (.lload_n k, 1)) (hi' : (k : Nat) = i) : Okn own cc nL hi rok pc (x_lld i 1) := by
  intro p l e R s m args below meth c Q b0 H0 D cy ad adV c0 s0 cap K rn J' X _ _ hJ ls st A S h g1 g2 g3 g4 H locs arr hH hS hl
  unfold x_lld at h; split at h
  · rename_i x hx
    exact lv_lload_n X.1 X.2.1 hd hi' (hl.2.2.2 _ _ hx) (hJ _ _ _ _ _ h g1 g2 g3 g4 H locs arr hH hS hl)
  · exact h.elim
theorem ok_lld {i : Nat} (hd : decode cc pc = .ok (.lload i, 2)) : Okn own cc nL hi rok pc (x_lld i 2) := by
  intro p l e R s m args below meth c Q b0 H0 D cy ad adV c0 s0 cap K rn J' X _ _ hJ ls st A S h g1 g2 g3 g4 H locs arr hH hS hl
  unfold x_lld at h; split at h
  · rename_i x hx
    exact lv_lload X.1 X.2.1 hd (hl.2.2.2 _ _ hx) (hJ _ _ _ _ _ h g1 g2 g3 g4 H locs arr hH hS hl)
  · exact h.elim
theorem ok_ald_n {k : Fin 4} {i : Nat} (hd : decode cc pc = .ok (.aload_n k, 1)) (hi' : (k : Nat) = i) : Okn own cc nL hi rok pc (x_ald i 1) := by
  intro p l e R s m args below meth c Q b0 H0 D cy ad adV c0 s0 cap K rn J' X _ _ hJ ls st A S h g1 g2 g3 g4 H locs arr hH hS hl
  unfold x_ald at h; split at h
  · rename_i x hx
    exact lv_aload_n X.1 X.2.1 hd hi' (hl.2.2.2 _ _ hx) (hJ _ _ _ _ _ h g1 g2 g3 g4 H locs arr hH hS hl)
  · exact h.elim
theorem ok_ald {i : Nat} (hd : decode cc pc = .ok (.aload i, 2)) : Okn own cc nL hi rok pc (x_ald i 2) := by
  intro p l e R s m args below meth c Q b0 H0 D cy ad adV c0 s0 cap K rn J' X _ _ hJ ls st A S h g1 g2 g3 g4 H locs arr hH hS hl
  unfold x_ald at h; split at h
  · rename_i x hx
    exact lv_aload X.1 X.2.1 hd (hl.2.2.2 _ _ hx) (hJ _ _ _ _ _ h g1 g2 g3 g4 H locs arr hH hS hl)
  · exact h.elim
theorem ok_ist_n {k : Fin 4} {i : Nat} (hd : decode cc pc = .ok (.istore_n k, 1)) (hi' : (k : Nat) = i) (hn : i < nL) : Okn own cc nL hi rok pc (x_ist i 1) := by
  intro p l e R s m args below meth c Q b0 H0 D cy ad adV c0 s0 cap K rn J' X _ _ hJ ls st A S h g1 g2 g3 g4 H locs arr hH hS hl
  unfold x_ist at h; split at h
  · exact lv_istore_n X.1 X.2.1 hd hi' hl.has (by rw [X.2.2.1]; exact hn) rfl fun ls' hl' => hJ _ _ _ _ _ h g1 g2 g3 g4 H locs ls' hH hS (hl.set1 hl')
  · exact h.elim
theorem ok_ist {i : Nat} (hd : decode cc pc = .ok (.istore i, 2)) (hn : i < nL) : Okn own cc nL hi rok pc (x_ist i 2) := by
  intro p l e R s m args below meth c Q b0 H0 D cy ad adV c0 s0 cap K rn J' X _ _ hJ ls st A S h g1 g2 g3 g4 H locs arr hH hS hl
  unfold x_ist at h; split at h
  · exact lv_istore X.1 X.2.1 hd hl.has (by rw [X.2.2.1]; exact hn) rfl fun ls' hl' => hJ _ _ _ _ _ h g1 g2 g3 g4 H locs ls' hH hS (hl.set1 hl')
  · exact h.elim
theorem ok_ast_n {k : Fin 4} {i : Nat} (hd : decode cc pc = .ok (.astore_n k, 1)) (hi' : (k : Nat) = i) (hn : i < nL) : Okn own cc nL hi rok pc (x_ast i 1) := by
  intro p l e R s m args below meth c Q b0 H0 D cy ad adV c0 s0 cap K rn J' X _ _ hJ ls st A S h g1 g2 g3 g4 H locs arr hH hS hl
  unfold x_ast at h; split at h
  · exact lv_astore_n X.1 X.2.1 hd hi' hl.has (by rw [X.2.2.1]; exact hn) rfl fun ls' hl' => hJ _ _ _ _ _ h g1 g2 g3 g4 H locs ls' hH hS (hl.set1 hl')
  · exact h.elim
theorem ok_ast {i : Nat} (hd : decode cc pc = .ok (.astore i, 2)) (hn : i < nL) : Okn own cc nL hi rok pc (x_ast i 2) := by
  intro p l e R s m args below meth c Q b0 H0 D cy ad adV c0 s0 cap K rn J' X _ _ hJ ls st A S h g1 g2 g3 g4 H locs arr hH hS hl
  unfold x_ast at h; split at h
  · exact lv_astore X.1 X.2.1 hd hl.has (by rw [X.2.2.1]; exact hn) rfl fun ls' hl' => hJ _ _ _ _ _ h g1 g2 g3 g4 H locs ls' hH hS (hl.set1 hl')
  · exact h.elim
theorem ok_lst_n {k : Fin 4} {i : Nat} (hd : decode cc pc = .ok (.lstore_n k, 1)) (hi' : (k : Nat) = i) (hn : i + 1 < nL) : Okn own cc nL hi rok pc (x_lst i 1) := by
  intro p l e R s m args below meth c Q b0 H0 D cy ad adV c0 s0 cap K rn J' X _ _ hJ ls st A S h g1 g2 g3 g4 H locs arr hH hS hl
  unfold x_lst at h; split at h
  · exact lv_lstore_n X.1 X.2.1 hd hi' hl.has (by rw [X.2.2.1]; exact hn) rfl fun ls' hl' => hJ _ _ _ _ _ h g1 g2 g3 g4 H locs ls' hH hS (hl.set2 hl')
  · exact h.elim
theorem ok_lst {i : Nat} (hd : decode cc pc = .ok (.lstore i, 2)) (hn : i + 1 < nL) : Okn own cc nL hi rok pc (x_lst i 2) := by
  intro p l e R s m args below meth c Q b0 H0 D cy ad adV c0 s0 cap K rn J' X _ _ hJ ls st A S h g1 g2 g3 g4 H locs arr hH hS hl
  unfold x_lst at h; split at h
  · exact lv_lstore X.1 X.2.1 hd hl.has (by rw [X.2.2.1]; exact hn) rfl fun ls' hl' => hJ _ _ _ _ _ h g1 g2 g3 g4 H locs ls' hH hS (hl.set2 hl')
  · exact h.elim
theorem ok_iinc {i : Nat} {n : Int} {v : Int32} (hd : decode cc pc = .ok (.iinc i n, 3)) (hv : Int32.ofInt n = v) (hn : i < nL) : Okn own cc nL hi rok pc (x_iinc i v 3) := by
  intro p l e R s m args below meth c Q b0 H0 D cy ad adV c0 s0 cap K rn J' X _ _ hJ ls st A S h g1 g2 g3 g4 H locs arr hH hS hl
  unfold x_iinc at h; split at h
  · rename_i x hx
    obtain ⟨k, hk⟩ := List.mem_iff_getElem?.mp (mem_qAs.mpr hx)
    exact lv_iinc (v := x + v) X.1 X.2.1 hd hl.has hk (by rw [hv]) (by rw [X.2.2.1]; exact hn) rfl fun ls' hl' => hJ _ _ _ _ _ h g1 g2 g3 g4 H locs ls' hH hS (hl.set1 hl')
  · exact h.elim
end
