/-! String constants, on: calls among the JDK's methods; then the transformers of length and charAt -/
theorem dj1 : decode cJ0_checkIndex_df160 5 = .ok (.invokestatic 1059, 3) := by decide +kernel
theorem dj2 : decode cJ1_charAt_3b067 3 = .ok (.invokestatic 9, 3) := by decide +kernel
theorem dj3 : decode cJ0_length_8abf5 6 = .ok (.invokevirtual 335, 3) := by decide +kernel
theorem dj4 : decode cJ0_charAt_5068e 1 = .ok (.invokevirtual 492, 3) := by decide +kernel
theorem dj5 : decode cJ0_charAt_5068e 12 = .ok (.invokestatic 495, 3) := by decide +kernel
def QcU : Array Value → State → Outcome → State → Prop := fun _ st o t => o = .returned none ∧ t.heap = st.heap
section
variable {p : Program} {l : Launch} {e : Env} {R : Room} {s : State} {m : MethodId} {args : Array Value} {below : List Frame} {meth : Method} {c : Code} {H : Heap} {locs : List Loc} {cells slots : Nat} {Q : State → Prop} {arr : Array Slot} {rest st0 : List Value} {pc : Nat}
theorem q_runJ {r : Value} {av : Array Value} (hr : va_Run p l e R s m args below meth c H locs cells slots 0 0 (F0 m pc arr st0) rest (k2_QcV r av) (fun _ => False)) (kk : W p l e R s m args below meth c H locs cells slots Q (F0 m (pc + 3) arr (r :: rest))) : W p l e R s m args below meth c H locs cells slots Q (F0 m pc arr st0) := by
  intro T hT X0
  obtain ⟨v, st₀, t, T', L, h0, X', hL, e1, e2, ⟨hv, hq⟩, st⟩ := hr T hT X0
  cases hv
  have hL' : L = [] := by
    cases L with
    | nil => rfl
    | cons q L => exact (hL q List.mem_cons_self).elim
  subst hL'
  rw [List.append_nil] at X'
  obtain ⟨t2, a1, b1⟩ := kk T' (by rw [e1, hq, h0]) X'
  exact ⟨t2, st t2 a1, b1⟩
theorem q_runU {av : Array Value} (hr : va_Run p l e R s m args below meth c H locs cells slots 0 0 (F0 m pc arr st0) rest (QcU av) (fun _ => False)) (kk : W p l e R s m args below meth c H locs cells slots Q (F0 m (pc + 3) arr rest)) : W p l e R s m args below meth c H locs cells slots Q (F0 m pc arr st0) := by
  intro T hT X0
  obtain ⟨v, st₀, t, T', L, h0, X', hL, e1, e2, ⟨hv, hq⟩, st⟩ := hr T hT X0
  cases hv
  have hL' : L = [] := by
    cases L with
    | nil => rfl
    | cons q L => exact (hL q List.mem_cons_self).elim
  subst hL'
  rw [List.append_nil] at X'
  obtain ⟨t2, a1, b1⟩ := kk T' (by rw [e1, hq, h0]) X'
  exact ⟨t2, st t2 a1, b1⟩
end
section
variable {l : Launch} {b0 : Nat} {H0 : Heap} {D : va_G} {cy : Nat → ClassId} {ad adV : Nat → Nat} {i : Nat}
set_option maxHeartbeats 4000000 in
set_option maxRecDepth 100000 in
theorem c_chk {k n : Int32} (hk0 : ¬ k < 0) (hkn : k < n) : Met l yJ0_checkIndex_df160 (wsJ yJ0_checkIndex_df160 cJ0_checkIndex_df160 2 none) (rmJ 2) (PcS b0 H0 D cy ad adV [.int k, .int n]) QcU 0 0 (fun _ => False) := by
  refine Met.ofW (cc := cJ0_checkIndex_df160) (maxL := 2) (ret := none) (by decide) rfl ?_
  intro p e s m args below meth c s₁ B hml hv
  obtain ⟨rfl, hold, hamb⟩ := hv
  have hx := B.exec
  have hb := B.bytes
  have hr := B.returns
  have hts0 := atoms_spec (ws := wsJ yJ0_checkIndex_df160 cJ0_checkIndex_df160 2 none) B.pre
  have hts := fun w hw => hts0 w (List.mem_cons_of_mem _ hw)
  have hown : s.vm.findClass RJ0 = some m.cls := findClass_of_methodNamed B.named
  have hlocks := B.notSynchronized
  have hk : ∀ a : Nat, a < H0.size → ¬ b0 ≤ a → s.heap[a]? = H0[a]? := fun a _ h => hold.2 a (Nat.not_le.mp h)
  have hZ := hamb.2.2.2.2.2.2.kept hk
  have hS : va_S (fun q => b0 ≤ q) s.heap s.heap [] := va_S.rf
  have hl := lv_entry ([.int k, .int n]) (n := 2) (Nat.le_of_ble_eq_true rfl)
  rw [lg_entry_eq]
  generalize (lg_sl ([.int k, .int n]) ++ List.replicate (2 - (lg_sl ([.int k, .int n])).length) Slot.unset).toArray = ls at hl ⊢
  have hl : lv_has ls 2 [(0, .int k), (1, .int n)] := hl
  refine lv_iload_n (k := 0) hx hb (by decide +kernel) rfl (lv_at hl 0 rfl) ?_
  refine lv_iload_n (k := 1) hx hb (by decide +kernel) rfl (lv_at hl 1 rfl) ?_
  have go : ∀ f : Value, (f = .null ∨ ∃ a, f = .ref a) → W p l e (headSpec (wsJ yJ0_checkIndex_df160 cJ0_checkIndex_df160 2 none) (rmJ 2)).room s m #[.int k, .int n] below meth c s.heap [] 0 0 (MQ below QcU #[.int k, .int n] s 0 0 (fun _ => False)) (F0 m 5 ls [f, .int n, .int k]) := by
    intro f hf
    refine q_runJ (va_runS (As := [.int k, .int n, f]) (rest := []) ⟨hx, hb, hml, hown, hts0⟩ (c_pre (l := l) (b0 := b0) (H0 := H0) (D := D) (cy := cy) (ad := ad) (adV := adV) hk0 hkn hf) ⟨callB_of 3 hts0 (goodJ js_pre) rfl rfl rfl (hts _ ji_3) (hts _ jm_pre) (by decide +kernel) ⟨by decide, by decide⟩, hts _ jt_pre⟩ ⟨PcS_blind, fun U hU hW => ⟨rfl, by rw [hU]; exact hold, hamb.warm hW⟩⟩ rfl rfl hl.1 rfl (by show 2 * 0 + 0 ≤ 8; omega) dj1 ⟨by decide, by decide⟩) ?_
    refine lv_pop hx hb (by decide +kernel) rfl ?_
    exact W.vret hx hb hr (fun t ht hW => ⟨rfl, ht⟩) (fun q h => by cases h) (by decide +kernel) hlocks
  rcases hZ with hZ | ⟨t, hZ⟩
  · exact va_gets hx hb hZ hS hown (hts _ jf_fo) (fun _ h => h) (by decide +kernel) (go _ (Or.inl rfl))
  · exact va_gets hx hb hZ hS hown (hts _ jf_fo) (fun _ h => h) (by decide +kernel) (go _ (Or.inr ⟨t, rfl⟩))
theorem strT_len : ∀ i, i < 13 → (strT.map List.length).getD i 0 = slen i ∧ slen i < 100 := by decide +kernel
theorem strT_chr : ∀ i, i < 13 → ∀ k, k < slen i → (((strT.getD i []).getD k 0 &&& 255).toUInt32 % 65536).toInt32 = schr i k ∧ narrow .char (.int (schr i k)) = .int (schr i k) := by decide +kernel
set_option maxHeartbeats 4000000 in
set_option maxRecDepth 100000 in
theorem c_char1 (hi : i < 13) {k : Int32} (hin : vp_in k (slen i)) : Met l yJ1_charAt_3b067 (wsJ yJ1_charAt_3b067 cJ1_charAt_3b067 2 (some .char)) (rmJ 3) (PcS b0 H0 D cy ad adV [.ref (adV i), .int k]) (k2_QcV (.int (schr i k.toNatClampNeg))) 0 0 (fun _ => False) := by
  refine Met.ofW (cc := cJ1_charAt_3b067) (maxL := 2) (ret := some .char) (by decide) rfl ?_
  intro p e s m args below meth c s₁ B hml hv
  obtain ⟨rfl, hold, hamb⟩ := hv
  have hx := B.exec
  have hb := B.bytes
  have hr := B.returns
  have hts0 := atoms_spec (ws := wsJ yJ1_charAt_3b067 cJ1_charAt_3b067 2 (some .char)) B.pre
  have hts := fun w hw => hts0 w (List.mem_cons_of_mem _ hw)
  have hown : s.vm.findClass RJ1 = some m.cls := findClass_of_methodNamed B.named
  have hlocks := B.notSynchronized
  have hk : ∀ a : Nat, a < H0.size → ¬ b0 ≤ a → s.heap[a]? = H0[a]? := fun a _ h => hold.2 a (Nat.not_le.mp h)
  have hT := ((hamb.2.2.2.2.1.1 i hi).2.2.2).kept hk
  rw [(strT_len i hi).1] at hT
  have hS : va_S (fun q => b0 ≤ q) s.heap s.heap [] := va_S.rf
  have hl := lv_entry ([.ref (adV i), .int k]) (n := 2) (Nat.le_of_ble_eq_true rfl)
  rw [lg_entry_eq]
  generalize (lg_sl ([.ref (adV i), .int k]) ++ List.replicate (2 - (lg_sl ([.ref (adV i), .int k])).length) Slot.unset).toArray = ls at hl ⊢
  have hl : lv_has ls 2 [(0, .ref (adV i)), (1, .int k)] := hl
  have hb1 := (strT_len i hi).2
  obtain ⟨j, hj, rfl⟩ := vp_in_of hin (by omega)
  refine lv_iload_n (k := 1) hx hb (by decide +kernel) rfl (lv_at hl 1 rfl) ?_
  refine lv_aload_n (k := 0) hx hb (by decide +kernel) rfl (lv_at hl 0 rfl) ?_
  refine va_tlen (v := nI (slen i)) hx hb hT hS rfl (by decide +kernel) ?_
  refine q_runU (va_runS (As := [.int (nI j), .int (nI (slen i))]) (rest := []) ⟨hx, hb, hml, hown, hts0⟩ (c_chk (l := l) (b0 := b0) (H0 := H0) (D := D) (cy := cy) (ad := ad) (adV := adV) (nI_pos (by omega)) (nI_lt hj (by omega))) ⟨callB_of 2 hts0 (goodJ js_chk) rfl rfl rfl (hts _ ji_0) (hts _ jm_chk) (by decide +kernel) ⟨by decide, by decide⟩, hts _ jt_chk⟩ ⟨PcS_blind, fun U hU hW => ⟨rfl, by rw [hU]; exact hold, hamb.warm hW⟩⟩ rfl rfl hl.1 rfl (by show 2 * 0 + 0 ≤ 8; omega) dj2 ⟨by decide, by decide⟩) ?_
  refine lv_aload_n (k := 0) hx hb (by decide +kernel) rfl (lv_at hl 0 rfl) ?_
  refine lv_iload_n (k := 1) hx hb (by decide +kernel) rfl (lv_at hl 1 rfl) ?_
  refine va_tb hx hb hT hS hin rfl (by decide +kernel) ?_
  refine lv_sipush (n := 255) (v := 255) hx hb (by decide +kernel) rfl ?_
  refine lv_iand hx hb (by decide +kernel) ?_
  rw [nI_clamp (by omega)]
  obtain ⟨q1, q2⟩ := strT_chr i hi j hj
  refine lv_i2c (v := schr i j) hx hb (by decide +kernel) q1 ?_
  exact W.zret hx hb hr q2 (fun t ht hW => ⟨rfl, ht⟩) (fun q h => by cases h) (by decide +kernel) hlocks
set_option maxHeartbeats 4000000 in
set_option maxRecDepth 100000 in
theorem c_length (hi : i < 13) : Met l yJ0_length_8abf5 (wsJ yJ0_length_8abf5 cJ0_length_8abf5 1 (some .int)) (rmJ 2) (PcS b0 H0 D cy ad adV [.ref (ad i)]) (k2_QcV (.int (nI (slen i)))) 0 0 (fun _ => False) := by
  refine Met.ofW (cc := cJ0_length_8abf5) (maxL := 1) (ret := some .int) (by decide) rfl ?_
  intro p e s m args below meth c s₁ B hml hv
  obtain ⟨rfl, hold, hamb⟩ := hv
  have hx := B.exec
  have hb := B.bytes
  have hr := B.returns
  have hts0 := atoms_spec (ws := wsJ yJ0_length_8abf5 cJ0_length_8abf5 1 (some .int)) B.pre
  have hts := fun w hw => hts0 w (List.mem_cons_of_mem _ hw)
  have hown : s.vm.findClass RJ0 = some m.cls := findClass_of_methodNamed B.named
  have hlocks := B.notSynchronized
  have hk : ∀ a : Nat, a < H0.size → ¬ b0 ≤ a → s.heap[a]? = H0[a]? := fun a _ h => hold.2 a (Nat.not_le.mp h)
  have hV := ((hamb.2.2.2.2.1.1 i hi).2.2.1).kept hk
  have hT := ((hamb.2.2.2.2.1.1 i hi).2.2.2).kept hk
  have hO := ((hamb.2.2.2.2.1.1 i hi).1).kept hk
  rw [(strT_len i hi).1] at hT
  have hS : va_S (fun q => b0 ≤ q) s.heap s.heap [] := va_S.rf
  have hl := lv_entry ([.ref (ad i)]) (n := 1) (Nat.le_of_ble_eq_true rfl)
  rw [lg_entry_eq]
  generalize (lg_sl ([.ref (ad i)]) ++ List.replicate (1 - (lg_sl ([.ref (ad i)])).length) Slot.unset).toArray = ls at hl ⊢
  have hl : lv_has ls 1 [(0, .ref (ad i))] := hl
  have hb1 := (strT_len i hi).2
  refine lv_aload_n (k := 0) hx hb (by decide +kernel) rfl (lv_at hl 0 rfl) ?_
  refine vk_getf hx hb hV hS hown (hts _ jf_va) (fun _ h => h) (by decide +kernel) ?_
  refine va_tlen (v := nI (slen i)) hx hb hT hS rfl (by decide +kernel) ?_
  refine lv_aload_n (k := 0) hx hb (by decide +kernel) rfl (lv_at hl 0 rfl) ?_
  obtain ⟨cell, o1, o2, o3, -⟩ := hO
  refine q_runJ (va_runV (C := RJ0) (As := []) (rest := [.int (nI (slen i))]) ⟨hx, hb, hml, hown, hts0⟩ (c_coder (l := l) (b0 := b0) (H0 := H0) (D := D) (cy := cy) (ad := ad) (adV := adV) hi) ⟨callB_of 0 hts0 (goodJ js_coder) rfl rfl rfl (hts _ ji_0) (hts _ jm_coder) (by decide +kernel) ⟨by decide, by decide⟩, hts _ jn_coder.1, hts _ jn_coder.2⟩ ⟨PcS_blind, ⟨cell, o1, o2, o3⟩, fun U hU hW => ⟨rfl, by rw [hU]; exact hold, hamb.warm hW⟩⟩ rfl rfl hl.1 rfl (by show 2 * 0 + 1 ≤ 8; omega) dj3 ⟨by decide, by decide⟩) ?_
  refine lv_ishr hx hb (by decide +kernel) ?_
  rw [sc_shr0 (by omega)]
  exact W.iret hx hb hr (fun t ht hW => ⟨rfl, ht⟩) (fun q h => by cases h) (by decide +kernel) hlocks
set_option maxHeartbeats 4000000 in
set_option maxRecDepth 100000 in
theorem c_charAt (hi : i < 13) {k : Int32} (hin : vp_in k (slen i)) : Met l yJ0_charAt_5068e (wsJ yJ0_charAt_5068e cJ0_charAt_5068e 2 (some .char)) (rmJ 4) (PcS b0 H0 D cy ad adV [.ref (ad i), .int k]) (k2_QcV (.int (schr i k.toNatClampNeg))) 0 0 (fun _ => False) := by
  refine Met.ofW (cc := cJ0_charAt_5068e) (maxL := 2) (ret := some .char) (by decide) rfl ?_
  intro p e s m args below meth c s₁ B hml hv
  obtain ⟨rfl, hold, hamb⟩ := hv
  have hx := B.exec
  have hb := B.bytes
  have hr := B.returns
  have hts0 := atoms_spec (ws := wsJ yJ0_charAt_5068e cJ0_charAt_5068e 2 (some .char)) B.pre
  have hts := fun w hw => hts0 w (List.mem_cons_of_mem _ hw)
  have hown : s.vm.findClass RJ0 = some m.cls := findClass_of_methodNamed B.named
  have hlocks := B.notSynchronized
  have hk : ∀ a : Nat, a < H0.size → ¬ b0 ≤ a → s.heap[a]? = H0[a]? := fun a _ h => hold.2 a (Nat.not_le.mp h)
  have hV := ((hamb.2.2.2.2.1.1 i hi).2.2.1).kept hk
  have hO := ((hamb.2.2.2.2.1.1 i hi).1).kept hk
  have hS : va_S (fun q => b0 ≤ q) s.heap s.heap [] := va_S.rf
  have hl := lv_entry ([.ref (ad i), .int k]) (n := 2) (Nat.le_of_ble_eq_true rfl)
  rw [lg_entry_eq]
  generalize (lg_sl ([.ref (ad i), .int k]) ++ List.replicate (2 - (lg_sl ([.ref (ad i), .int k])).length) Slot.unset).toArray = ls at hl ⊢
  have hl : lv_has ls 2 [(0, .ref (ad i)), (1, .int k)] := hl
  have hb1 := (strT_len i hi).2
  obtain ⟨cell, o1, o2, o3, -⟩ := hO
  refine lv_aload_n (k := 0) hx hb (by decide +kernel) rfl (lv_at hl 0 rfl) ?_
  refine q_runJ (va_runV (C := RJ0) (As := []) (rest := []) ⟨hx, hb, hml, hown, hts0⟩ (c_latin (l := l) (b0 := b0) (H0 := H0) (D := D) (cy := cy) (ad := ad) (adV := adV) hi) ⟨callB_of 0 hts0 (goodJ js_latin) rfl rfl rfl (hts _ ji_0) (hts _ jm_latin) (by decide +kernel) ⟨by decide, by decide⟩, hts _ jn_latin.1, hts _ jn_latin.2⟩ ⟨PcS_blind, ⟨cell, o1, o2, o3⟩, fun U hU hW => ⟨rfl, by rw [hU]; exact hold, hamb.warm hW⟩⟩ rfl rfl hl.1 rfl (by show 2 * 0 + 0 ≤ 8; omega) dj4 ⟨by decide, by decide⟩) ?_
  refine lv_if_eq (off := 12) (tgt := 16) hx hb (by decide +kernel) (by decide) (fun h => absurd h (by decide)) (fun _ => ?_)
  refine lv_aload_n (k := 0) hx hb (by decide +kernel) rfl (lv_at hl 0 rfl) ?_
  refine vk_getf hx hb hV hS hown (hts _ jf_va) (fun _ h => h) (by decide +kernel) ?_
  refine lv_iload_n (k := 1) hx hb (by decide +kernel) rfl (lv_at hl 1 rfl) ?_
  refine q_runJ (va_runS (As := [.ref (adV i), .int k]) (rest := []) ⟨hx, hb, hml, hown, hts0⟩ (c_char1 (l := l) (b0 := b0) (H0 := H0) (D := D) (cy := cy) (ad := ad) (adV := adV) hi hin) ⟨callB_of 2 hts0 (goodJ js_char1) rfl rfl rfl (hts _ ji_1) (hts _ jm_char1) (by decide +kernel) ⟨by decide, by decide⟩, hts _ jt_char1⟩ ⟨PcS_blind, fun U hU hW => ⟨rfl, by rw [hU]; exact hold, hamb.warm hW⟩⟩ rfl rfl hl.1 rfl (by show 2 * 0 + 0 ≤ 8; omega) dj5 ⟨by decide, by decide⟩) ?_
  obtain ⟨j, hj, rfl⟩ := vp_in_of hin (by omega)
  obtain ⟨q1, q2⟩ := strT_chr i hi j hj
  rw [nI_clamp (by omega)]
  exact W.zret hx hb hr q2 (fun t ht hW => ⟨rfl, ht⟩) (fun q h => by cases h) (by decide +kernel) hlocks
end

section
variable {own : String} {cc : ByteArray} {nL : Nat} {hi : Prop} {pc : Nat} {rok : Launch → Room → Nat → Heap → va_G → (Nat → ClassId) → (Nat → Nat) → (Nat → Nat) → qR → Prop}
theorem ok_ldcS {index i : Nat} (hd : decode cc pc = .ok (.ldc index, 2)) (hs : (own, index, i) ∈ strR ∧ i < 13) : Okn own cc nL hi rok pc (x_ldcS i 2) := by
  intro p l e R s m args below meth c Q b0 H0 D cy ad adV c0 s0 cap K rn J' X _ _ hJ ls st A S h g1 g2 g3 g4 H locs arr hH hS hl
  exact va_ldcS X.1 X.2.1 X.2.2.2.1 (X.2.2.2.2.2.1.2.2.2.1 _ hs.1) hd (hJ _ _ _ _ _ (h _ (hH.2.2.2.2 i hs.2).1) g1 g2 g3 g4 H locs arr hH hS hl)
theorem ok_ldcSw {index i : Nat} (hd : decode cc pc = .ok (.ldc_w index, 3)) (hs : (own, index, i) ∈ strR ∧ i < 13) : Okn own cc nL hi rok pc (x_ldcS i 3) := by
  intro p l e R s m args below meth c Q b0 H0 D cy ad adV c0 s0 cap K rn J' X _ _ hJ ls st A S h g1 g2 g3 g4 H locs arr hH hS hl
  intro T hT X0
  obtain ⟨t, a1, b1⟩ := hJ _ _ _ _ _ (h _ (hH.2.2.2.2 i hs.2).1) g1 g2 g3 g4 H locs arr hH hS hl T hT X0
  have hZ := X.2.2.2.2.2.1.2.2.2.1 _ hs.1
  exact ⟨t, X0.ldcStringW X.1 X.2.2.2.1 (text := strN.getD i "") (a := ad i) hZ.1 hZ.2 (g := F0 m pc arr st) rfl (by rw [X.2.1]; exact hd) t a1, b1⟩
def RnOk5 (l : Launch) (R : Room) (b0 : Nat) (H0 : Heap) (D : va_G) (cy : Nat → ClassId) (ad adV : Nat → Nat) (rn : qR) : Prop := RnOk l R b0 H0 D cy ad adV rn ∧ 5 ≤ R.frames ∧ 141 ≤ R.locals
theorem ok_slen {index : Nat} (hd : decode cc pc = .ok (.invokevirtual index, 3)) (hw : Cond.methodLink own index yJ0_length_8abf5 ∈ wsA) : Okn own cc nL hi RnOk5 pc x_slen := by
  intro p l e R s m args below meth c Q b0 H0 D cy ad adV c0 s0 cap K rn J' X _ hrok hJ ls st A S h g1 g2 g3 g4 H locs arr hH hS hl
  unfold x_slen at h; split at h
  · rename_i q st'
    obtain ⟨i, h1, hcat, h2⟩ := h
    obtain ⟨hi13, rfl⟩ := hH.2.2.2.1 _ _ h1
    have hold : b0 ≤ H.size ∧ ∀ q : Nat, q < b0 → H[q]? = H0[q]? := ⟨hH.2.1, hH.2.2.1⟩
    obtain ⟨cell, o1, o2, o3, -⟩ := ((X.2.2.2.2.2.1.2.2.2.2.1.1 i hi13).1).kept (H1 := H) (fun a _ z => hold.2 a (Nat.not_le.mp z))
    refine q_runJ (va_runV (C := RJ0) (As := []) (rest := st') ⟨X.1, X.2.1, X.2.2.1, X.2.2.2.1, X.2.2.2.2.1⟩ (c_length (l := l) (b0 := b0) (H0 := H0) (D := D) (cy := cy) (ad := ad) (adV := adV) hi13) ⟨callB_of 0 X.2.2.2.2.1 (fun w hw' => ?_) rfl rfl rfl (X.2.2.2.2.1 _ ji_0) (X.2.2.2.2.1 _ hw) (by decide +kernel) ⟨?_, ?_⟩, X.2.2.2.2.1 _ jn_length.1, X.2.2.2.2.1 _ jn_length.2⟩ ⟨PcS_blind, ⟨cell, o1, o2, o3⟩, fun U hU hW => ⟨rfl, by rw [hU]; exact hold, X.2.2.2.2.2.1.warm hW⟩⟩ rfl rfl (hl.2.1.trans X.2.2.1) rfl (by rw [wcat_eq]; show 2 * 0 + _ ≤ 8; omega) hd ⟨?_, ?_⟩) (hJ _ _ _ _ _ h2 g1 g2 g3 g4 H locs arr hH hS hl)
    · rcases List.mem_cons.mp hw' with rfl | z
      · exact ⟨js_length, wsA_good _ js_length⟩
      · exact ⟨z, wsA_good _ z⟩
    · show 2 + 1 ≤ R.frames; have := hrok.2.1; omega
    · show 8 + (1 + 11) + 60 ≤ R.locals; have := hrok.2.2; omega
    · rw [X.2.2.2.2.2.2.1]; show _ + 0 ≤ _; omega
    · rw [X.2.2.2.2.2.2.2.1]; show _ + 0 ≤ _; omega
  · exact h.elim
theorem ok_schr {index : Nat} (hd : decode cc pc = .ok (.invokevirtual index, 3)) (hw : Cond.methodLink own index yJ0_charAt_5068e ∈ wsA) : Okn own cc nL hi RnOk5 pc x_schr := by
  intro p l e R s m args below meth c Q b0 H0 D cy ad adV c0 s0 cap K rn J' X _ hrok hJ ls st A S h g1 g2 g3 g4 H locs arr hH hS hl
  unfold x_schr at h; split at h
  · rename_i k q st'
    obtain ⟨i, h1, hin, hcat, h2⟩ := h
    obtain ⟨hi13, rfl⟩ := hH.2.2.2.1 _ _ h1
    have hold : b0 ≤ H.size ∧ ∀ q : Nat, q < b0 → H[q]? = H0[q]? := ⟨hH.2.1, hH.2.2.1⟩
    obtain ⟨cell, o1, o2, o3, -⟩ := ((X.2.2.2.2.2.1.2.2.2.2.1.1 i hi13).1).kept (H1 := H) (fun a _ z => hold.2 a (Nat.not_le.mp z))
    refine q_runJ (va_runV (C := RJ0) (As := [.int k]) (rest := st') ⟨X.1, X.2.1, X.2.2.1, X.2.2.2.1, X.2.2.2.2.1⟩ (c_charAt (l := l) (b0 := b0) (H0 := H0) (D := D) (cy := cy) (ad := ad) (adV := adV) hi13 hin) ⟨callB_of 1 X.2.2.2.2.1 (fun w hw' => ?_) rfl rfl rfl (X.2.2.2.2.1 _ ji_0) (X.2.2.2.2.1 _ hw) (by decide +kernel) ⟨?_, ?_⟩, X.2.2.2.2.1 _ jn_charAt.1, X.2.2.2.2.1 _ jn_charAt.2⟩ ⟨PcS_blind, ⟨cell, o1, o2, o3⟩, fun U hU hW => ⟨rfl, by rw [hU]; exact hold, X.2.2.2.2.2.1.warm hW⟩⟩ rfl rfl (hl.2.1.trans X.2.2.1) rfl (by rw [wcat_eq]; show 2 * 0 + _ ≤ 8; omega) hd ⟨?_, ?_⟩) (hJ _ _ _ _ _ h2 g1 g2 g3 g4 H locs arr hH hS hl)
    · rcases List.mem_cons.mp hw' with rfl | z
      · exact ⟨js_charAt, wsA_good _ js_charAt⟩
      · exact ⟨z, wsA_good _ z⟩
    · show 4 + 1 ≤ R.frames; have := hrok.2.1; omega
    · show 8 + (2 + 11) + 120 ≤ R.locals; have := hrok.2.2; omega
    · rw [X.2.2.2.2.2.2.1]; show _ + 0 ≤ _; omega
    · rw [X.2.2.2.2.2.2.2.1]; show _ + 0 ≤ _; omega
  · exact h.elim
end
section
variable {own : String} {cc : ByteArray} {nL : Nat} {hi : Prop} {pc : Nat} {rok : Launch → Room → Nat → Heap → va_G → (Nat → ClassId) → (Nat → Nat) → (Nat → Nat) → qR → Prop}
theorem ok_mmax {index : Nat} (hd : decode cc pc = .ok (.invokestatic index, 3)) (h1 : Cond.methodLink own index Lib.Math.max.name ∈ wsA) (h2 : Cond.static Lib.Math.max.name ∈ wsA) (h3 : Cond.initialized "java/lang/Math" ∈ wsA) (h4 : Cond.code Lib.Math.max.name Lib.Math.max.code 2 (some .int) ∈ wsA) : Okn own cc nL hi rok pc (x_mm (fun x y => if x < y then y else x)) := by
  intro p l e R s m args below meth c Q b0 H0 D cy ad adV c0 s0 cap K rn J' X _ _ hJ ls st A S h g1 g2 g3 g4 H locs arr hH hS hl
  unfold x_mm at h; split at h
  · exact va_mmax X.1 X.2.1 hl.2.1.symm X.2.2.2.1 (X.2.2.2.2.1 _ h1) (X.2.2.2.2.1 _ h2) (X.2.2.2.2.1 _ h3) (X.2.2.2.2.1 _ h4) X.2.2.2.2.2.2.2.2.1 (by rw [wcat_eq]; have := X.2.2.2.2.2.2.2.2.2.1; omega) (by rw [X.2.2.2.2.2.2.1]; omega) (by rw [X.2.2.2.2.2.2.2.1]; omega) hd (hJ _ _ _ _ _ h.2 g1 g2 g3 g4 H locs arr hH hS hl)
  · exact h.elim
theorem ok_mmin {index : Nat} (hd : decode cc pc = .ok (.invokestatic index, 3)) (h1 : Cond.methodLink own index Lib.Math.min.name ∈ wsA) (h2 : Cond.static Lib.Math.min.name ∈ wsA) (h3 : Cond.initialized "java/lang/Math" ∈ wsA) (h4 : Cond.code Lib.Math.min.name Lib.Math.min.code 2 (some .int) ∈ wsA) : Okn own cc nL hi rok pc (x_mm (fun x y => if y < x then y else x)) := by
  intro p l e R s m args below meth c Q b0 H0 D cy ad adV c0 s0 cap K rn J' X _ _ hJ ls st A S h g1 g2 g3 g4 H locs arr hH hS hl
  unfold x_mm at h; split at h
  · exact va_mmin X.1 X.2.1 hl.2.1.symm X.2.2.2.1 (X.2.2.2.2.1 _ h1) (X.2.2.2.2.1 _ h2) (X.2.2.2.2.1 _ h3) (X.2.2.2.2.1 _ h4) X.2.2.2.2.2.2.2.2.1 (by rw [wcat_eq]; have := X.2.2.2.2.2.2.2.2.2.1; omega) (by rw [X.2.2.2.2.2.2.1]; omega) (by rw [X.2.2.2.2.2.2.2.1]; omega) hd (hJ _ _ _ _ _ h.2 g1 g2 g3 g4 H locs arr hH hS hl)
  · exact h.elim
theorem ok_alen12 (hd : decode cc pc = .ok (.arraylength, 1)) : Okn own cc nL hi rok pc (x_alen 12) := by
  intro p l e R s m args below meth c Q b0 H0 D cy ad adV c0 s0 cap K rn J' X _ _ hJ ls st A S h g1 g2 g3 g4 H locs arr hH hS hl
  unfold x_alen at h; split at h
  · rename_i a st'
    obtain ⟨n, h1, h2⟩ := h
    have hc := (hH.2.2.2.1 _ _ h1).2
    exact W.alen (n := nI n) X.1 X.2.1 hc ((X.2.2.2.2.2.1.1.2 0 _ rfl).1 n _) (by rw [arrV_size]; rfl) rfl rfl hd (hJ _ _ _ _ _ h2 g1 g2 g3 g4 H locs arr hH hS hl)
  · exact h.elim
end
