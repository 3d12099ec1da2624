/-! String constants: length and charAt over the machine, by the JDK's own code -/
def PcS (b0 : Nat) (H0 : Heap) (D : va_G) (cy : Nat → ClassId) (ad adV : Nat → Nat) (av : List Value) : Array Value → State → Prop := fun a U => a = av.toArray ∧ (b0 ≤ U.heap.size ∧ ∀ q : Nat, q < b0 → U.heap[q]? = H0[q]?) ∧ Amb b0 H0 D cy ad adV U
abbrev wsJ (y : MethodName) (c : ByteArray) (n : Nat) (r : Option FieldType) : List Cond := Cond.code y c n r :: wsA
theorem PcS_blind {b0 : Nat} {H0 : Heap} {D : va_G} {cy : Nat → ClassId} {ad adV : Nat → Nat} {av : List Value} : FrameBlind (PcS b0 H0 D cy ad adV av) := fun a U g mk h => ⟨h.1, h.2.1, h.2.2.same rfl⟩
theorem goodJ {y : MethodName} {c : ByteArray} {n : Nat} {r : Option FieldType} {y' : MethodName} {c' : ByteArray} {n' : Nat} {r' : Option FieldType} (h : Cond.code y c n r ∈ wsA) : GoodIn (wsJ y' c' n' r') (wsJ y c n r) := by
  intro w hw
  rcases List.mem_cons.mp hw with rfl | h'
  · exact ⟨List.mem_cons_of_mem _ h, wsA_good _ h⟩
  · exact ⟨List.mem_cons_of_mem _ h', wsA_good _ h'⟩
theorem js_coder : Cond.code yJ0_coder_7d493 cJ0_coder_7d493 1 (some .byte) ∈ wsA := inT (by decide +kernel) (by decide +kernel)
theorem js_length : Cond.code yJ0_length_8abf5 cJ0_length_8abf5 1 (some .int) ∈ wsA := inT (by decide +kernel) (by decide +kernel)
theorem js_latin : Cond.code yJ0_isLatin1_aae02 cJ0_isLatin1_aae02 1 (some .boolean) ∈ wsA := inT (by decide +kernel) (by decide +kernel)
theorem js_charAt : Cond.code yJ0_charAt_5068e cJ0_charAt_5068e 2 (some .char) ∈ wsA := inT (by decide +kernel) (by decide +kernel)
theorem js_chk : Cond.code yJ0_checkIndex_df160 cJ0_checkIndex_df160 2 none ∈ wsA := inT (by decide +kernel) (by decide +kernel)
theorem js_char1 : Cond.code yJ1_charAt_3b067 cJ1_charAt_3b067 2 (some .char) ∈ wsA := inT (by decide +kernel) (by decide +kernel)
theorem js_pre : Cond.code yJ3_checkIndex_8e157 cJ3_checkIndex_8e157 3 (some .int) ∈ wsA := inT (by decide +kernel) (by decide +kernel)
theorem jf_cs : Cond.fieldLink RJ0 38 "java/lang/String" "COMPACT_STRINGS" "Z" ∈ wsA := inT (by decide +kernel) (by decide +kernel)
theorem jf_co : Cond.fieldLink RJ0 15 "java/lang/String" "coder" "B" ∈ wsA := inT (by decide +kernel) (by decide +kernel)
theorem jf_va : Cond.fieldLink RJ0 9 "java/lang/String" "value" "[B" ∈ wsA := inT (by decide +kernel) (by decide +kernel)
theorem jf_fo : Cond.fieldLink RJ0 1053 "jdk/internal/util/Preconditions" "SIOOBE_FORMATTER" "Ljava/util/function/BiFunction;" ∈ wsA := inT (by decide +kernel) (by decide +kernel)
theorem jm_coder : Cond.methodLink RJ0 335 yJ0_coder_7d493 ∈ wsA := inT (by decide +kernel) (by decide +kernel)
theorem jm_latin : Cond.methodLink RJ0 492 yJ0_isLatin1_aae02 ∈ wsA := inT (by decide +kernel) (by decide +kernel)
theorem jm_char1 : Cond.methodLink RJ0 495 yJ1_charAt_3b067 ∈ wsA := inT (by decide +kernel) (by decide +kernel)
theorem jm_chk : Cond.methodLink RJ1 9 yJ0_checkIndex_df160 ∈ wsA := inT (by decide +kernel) (by decide +kernel)
theorem jm_pre : Cond.methodLink RJ0 1059 yJ3_checkIndex_8e157 ∈ wsA := inT (by decide +kernel) (by decide +kernel)
theorem ji_0 : Cond.initialized RJ0 ∈ wsA := inT (by decide +kernel) (by decide +kernel)
theorem ji_1 : Cond.initialized RJ1 ∈ wsA := inT (by decide +kernel) (by decide +kernel)
theorem ji_3 : Cond.initialized RJ3 ∈ wsA := inT (by decide +kernel) (by decide +kernel)
theorem jn_coder : Cond.instanceMethod yJ0_coder_7d493 ∈ wsA ∧ Cond.selects RJ0 yJ0_coder_7d493 yJ0_coder_7d493 ∈ wsA := ⟨inT (by decide +kernel) (by decide +kernel), inA (by decide +kernel) (by decide +kernel)⟩
theorem jn_latin : Cond.instanceMethod yJ0_isLatin1_aae02 ∈ wsA ∧ Cond.selects RJ0 yJ0_isLatin1_aae02 yJ0_isLatin1_aae02 ∈ wsA := ⟨inT (by decide +kernel) (by decide +kernel), inA (by decide +kernel) (by decide +kernel)⟩
theorem jn_length : Cond.instanceMethod yJ0_length_8abf5 ∈ wsA ∧ Cond.selects RJ0 yJ0_length_8abf5 yJ0_length_8abf5 ∈ wsA := ⟨inT (by decide +kernel) (by decide +kernel), inA (by decide +kernel) (by decide +kernel)⟩
theorem jn_charAt : Cond.instanceMethod yJ0_charAt_5068e ∈ wsA ∧ Cond.selects RJ0 yJ0_charAt_5068e yJ0_charAt_5068e ∈ wsA := ⟨inT (by decide +kernel) (by decide +kernel), inA (by decide +kernel) (by decide +kernel)⟩
theorem jt_char1 : Cond.static yJ1_charAt_3b067 ∈ wsA := inT (by decide +kernel) (by decide +kernel)
theorem jt_chk : Cond.static yJ0_checkIndex_df160 ∈ wsA := inT (by decide +kernel) (by decide +kernel)
theorem jt_pre : Cond.static yJ3_checkIndex_8e157 ∈ wsA := inT (by decide +kernel) (by decide +kernel)
def rmJ (n : Nat) : Room := { frames := n, cells := 0, slots := 0, locals := 30 * n }
section
variable {l : Launch} {b0 : Nat} {H0 : Heap} {D : va_G} {cy : Nat → ClassId} {ad adV : Nat → Nat} {i : Nat}
set_option maxHeartbeats 4000000 in
set_option maxRecDepth 100000 in
theorem c_coder (hi : i < 13) : Met l yJ0_coder_7d493 (wsJ yJ0_coder_7d493 cJ0_coder_7d493 1 (some .byte)) (rmJ 1) (PcS b0 H0 D cy ad adV [.ref (ad i)]) (k2_QcV (.int 0)) 0 0 (fun _ => False) := by
  refine Met.ofW (cc := cJ0_coder_7d493) (maxL := 1) (ret := some .byte) (by decide) rfl ?_
  intro p e s m args below meth c s₁ B hml hv
  obtain ⟨rfl, hold, hamb⟩ := hv
  have hx := B.exec
  have hb := B.bytes
  have hr := B.returns
  have hts := fun w hw => atoms_spec (ws := wsJ yJ0_coder_7d493 cJ0_coder_7d493 1 (some .byte)) B.pre w (List.mem_cons_of_mem _ hw)
  have hown : s.vm.findClass RJ0 = some m.cls := findClass_of_methodNamed B.named
  have hlocks := B.notSynchronized
  have hk : ∀ a : Nat, a < H0.size → ¬ b0 ≤ a → s.heap[a]? = H0[a]? := fun a _ h => hold.2 a (Nat.not_le.mp h)
  have hZ := hamb.2.2.2.2.2.1.kept hk
  have hE := ((hamb.2.2.2.2.1.1 i hi).2.1).kept hk
  have hS : va_S (fun q => b0 ≤ q) s.heap s.heap [] := va_S.rf
  have hl := lv_entry ([.ref (ad i)]) (n := 1) (Nat.le_of_ble_eq_true rfl)
  rw [lg_entry_eq]
  generalize (lg_sl ([.ref (ad i)]) ++ List.replicate (1 - (lg_sl ([.ref (ad i)])).length) Slot.unset).toArray = ls at hl ⊢
  have hl : lv_has ls 1 [(0, .ref (ad i))] := hl
  refine va_gets hx hb hZ hS hown (hts _ jf_cs) (fun _ h => h) (by decide +kernel) ?_
  refine lv_if_eq (off := 10) (tgt := 13) hx hb (by decide +kernel) (by decide) (fun h => absurd h (by decide)) (fun _ => ?_)
  refine lv_aload_n (k := 0) hx hb (by decide +kernel) rfl (lv_at hl 0 rfl) ?_
  refine vk_getf hx hb hE hS hown (hts _ jf_co) (fun _ h => h) (by decide +kernel) ?_
  refine lv_goto (off := 4) (tgt := 14) hx hb (by decide +kernel) (by decide) ?_
  exact W.zret hx hb hr rfl (fun t ht hW => ⟨rfl, ht⟩) (fun q h => by cases h) (by decide +kernel) hlocks
set_option maxHeartbeats 4000000 in
set_option maxRecDepth 100000 in
theorem c_latin (hi : i < 13) : Met l yJ0_isLatin1_aae02 (wsJ yJ0_isLatin1_aae02 cJ0_isLatin1_aae02 1 (some .boolean)) (rmJ 1) (PcS b0 H0 D cy ad adV [.ref (ad i)]) (k2_QcV (.int 1)) 0 0 (fun _ => False) := by
  refine Met.ofW (cc := cJ0_isLatin1_aae02) (maxL := 1) (ret := some .boolean) (by decide) rfl ?_
  intro p e s m args below meth c s₁ B hml hv
  obtain ⟨rfl, hold, hamb⟩ := hv
  have hx := B.exec
  have hb := B.bytes
  have hr := B.returns
  have hts := fun w hw => atoms_spec (ws := wsJ yJ0_isLatin1_aae02 cJ0_isLatin1_aae02 1 (some .boolean)) B.pre w (List.mem_cons_of_mem _ hw)
  have hown : s.vm.findClass RJ0 = some m.cls := findClass_of_methodNamed B.named
  have hlocks := B.notSynchronized
  have hk : ∀ a : Nat, a < H0.size → ¬ b0 ≤ a → s.heap[a]? = H0[a]? := fun a _ h => hold.2 a (Nat.not_le.mp h)
  have hZ := hamb.2.2.2.2.2.1.kept hk
  have hE := ((hamb.2.2.2.2.1.1 i hi).2.1).kept hk
  have hS : va_S (fun q => b0 ≤ q) s.heap s.heap [] := va_S.rf
  have hl := lv_entry ([.ref (ad i)]) (n := 1) (Nat.le_of_ble_eq_true rfl)
  rw [lg_entry_eq]
  generalize (lg_sl ([.ref (ad i)]) ++ List.replicate (1 - (lg_sl ([.ref (ad i)])).length) Slot.unset).toArray = ls at hl ⊢
  have hl : lv_has ls 1 [(0, .ref (ad i))] := hl
  refine va_gets hx hb hZ hS hown (hts _ jf_cs) (fun _ h => h) (by decide +kernel) ?_
  refine lv_if_eq (off := 14) (tgt := 17) hx hb (by decide +kernel) (by decide) (fun h => absurd h (by decide)) (fun _ => ?_)
  refine lv_aload_n (k := 0) hx hb (by decide +kernel) rfl (lv_at hl 0 rfl) ?_
  refine vk_getf hx hb hE hS hown (hts _ jf_co) (fun _ h => h) (by decide +kernel) ?_
  refine lv_if_ne (off := 7) (tgt := 17) hx hb (by decide +kernel) (by decide) (fun h => absurd rfl h) (fun _ => ?_)
  refine lv_iconst (n := 1) (v := 1) hx hb (by decide +kernel) rfl ?_
  refine lv_goto (off := 4) (tgt := 18) hx hb (by decide +kernel) (by decide) ?_
  exact W.zret hx hb hr rfl (fun t ht hW => ⟨rfl, ht⟩) (fun q h => by cases h) (by decide +kernel) hlocks
set_option maxHeartbeats 4000000 in
set_option maxRecDepth 100000 in
/-- Preconditions.checkIndex(k, n, formatter): k where it is within -/
theorem c_pre {k n : Int32} {f : Value} (hk0 : ¬ k < 0) (hkn : k < n) (hf : f = .null ∨ ∃ a, f = .ref a) : Met l yJ3_checkIndex_8e157 (wsJ yJ3_checkIndex_8e157 cJ3_checkIndex_8e157 3 (some .int)) (rmJ 1) (PcS b0 H0 D cy ad adV [.int k, .int n, f]) (k2_QcV (.int k)) 0 0 (fun _ => False) := by
  refine Met.ofW (cc := cJ3_checkIndex_8e157) (maxL := 3) (ret := some .int) (by decide) rfl ?_
  intro p e s m args below meth c s₁ B hml hv
  obtain ⟨rfl, hold, hamb⟩ := hv
  have hx := B.exec
  have hb := B.bytes
  have hr := B.returns
  have hlocks := B.notSynchronized
  have hl := lv_entry ([.int k, .int n, f]) (n := 3) (by rcases hf with rfl | ⟨a, rfl⟩ <;> exact Nat.le_of_ble_eq_true rfl)
  rw [lg_entry_eq]
  generalize (lg_sl ([.int k, .int n, f]) ++ List.replicate (3 - (lg_sl ([.int k, .int n, f])).length) Slot.unset).toArray = ls at hl ⊢
  have hl : lv_has ls 3 [(0, .int k), (1, .int n)] := lv_sub hl [0, 1] rfl
  refine lv_iload_n (k := 0) hx hb (by decide +kernel) rfl (lv_at hl 0 rfl) ?_
  refine lv_if_lt (off := 8) (tgt := 9) hx hb (by decide +kernel) (by decide) (fun h => absurd h hk0) (fun _ => ?_)
  refine lv_iload_n (k := 0) hx hb (by decide +kernel) rfl (lv_at hl 0 rfl) ?_
  refine lv_iload_n (k := 1) hx hb (by decide +kernel) rfl (lv_at hl 1 rfl) ?_
  refine lv_icmp_lt (off := 10) (tgt := 16) hx hb (by decide +kernel) (by decide) (fun _ => ?_) (fun h => absurd hkn h)
  refine lv_iload_n (k := 0) hx hb (by decide +kernel) rfl (lv_at hl 0 rfl) ?_
  exact W.iret hx hb hr (fun t ht hW => ⟨rfl, ht⟩) (fun q h => by cases h) (by decide +kernel) hlocks
end
