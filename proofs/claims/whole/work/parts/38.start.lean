section StB
/-- the first layout: the String constants -/
def A0f (ad : Nat → Nat) : Nat → Option (Nat × Nat) := fun a => ((List.range 13).find? fun i => ad i == a).map fun i => (20, i)
theorem A0f_some {ad : Nat → Nat} {a : Nat} {kn : Nat × Nat} (h : A0f ad a = some kn) : ∃ i, i < 13 ∧ ad i = a ∧ kn = (20, i) := by
  unfold A0f at h
  cases hf : (List.range 13).find? fun i => ad i == a with
  | none => rw [hf] at h; cases h
  | some i =>
    rw [hf] at h
    cases h
    exact ⟨i, List.mem_range.mp (List.mem_of_find?_eq_some hf), by simpa using List.find?_some hf, rfl⟩
theorem A0f_at {ad : Nat → Nat} (hinj : ∀ i j : Nat, i < 13 → j < 13 → ad i = ad j → i = j) {i : Nat} (hi : i < 13) : A0f ad (ad i) = some (20, i) := by
  unfold A0f
  cases hf : (List.range 13).find? fun k => ad k == ad i with
  | none =>
    have := List.find?_eq_none.mp hf i (List.mem_range.mpr hi)
    simp at this
  | some j =>
    have h1 : j < 13 := List.mem_range.mp (List.mem_of_find?_eq_some hf)
    have h2 : ad j = ad i := by simpa using List.find?_some hf
    rw [hinj j i h1 hi h2]; rfl
set_option maxRecDepth 100000 in
theorem st_in1 : ∀ w ∈ nestL ++ declL, w ∈ lw_tbl ∧ w.onTables = true := by decide +kernel
set_option maxRecDepth 100000 in
theorem st_in2 : ∀ C ∈ [RX3, RX4, RX8], Cond.arrayOver (.object C) ∈ lw_tbl := by decide +kernel
set_option maxRecDepth 100000 in
theorem st_in3 : ∀ q ∈ strR, Cond.stringRef q.1 q.2.1 (strN.getD q.2.2 "") ∈ lw_tbl := by decide +kernel
set_option maxRecDepth 100000 in
theorem st_in4 : ∀ q ∈ strR, q.2.2 < 13 ∧ ((q.1 = RX6 ∧ q.2.1 = sk6 q.2.2) ∨ Cond.eq (.string RX6 (sk6 q.2.2)) (.string q.1 q.2.1) ∈ flatC (Cond.and given_1 narrow_1)) := by decide +kernel
def stWd : List Cond := [.laysStatic "java/lang/String" "COMPACT_STRINGS" "Z", .initialized "java/lang/String", .laysStatic "jdk/internal/util/Preconditions" "SIOOBE_FORMATTER" "Ljava/util/function/BiFunction;", .initialized "jdk/internal/util/Preconditions", .laysStatic Bundle.tN "UNASSIGNED_STACK" Bundle.steD, .laysStatic Bundle.tN "SUPPRESSED_SENTINEL" Bundle.listD, .initialized Bundle.tN, .castable nseN nseN, .stringRef RX9 373 "no such sell with something deferred"]
def stGv : List Cond := [.eq (.static "java/lang/String" "COMPACT_STRINGS" "Z") (.int 1), .isRef (.static "jdk/internal/util/Preconditions" "SIOOBE_FORMATTER" "Ljava/util/function/BiFunction;"), .isRef (.static Bundle.tN "UNASSIGNED_STACK" Bundle.steD), .isRef (.static Bundle.tN "SUPPRESSED_SENTINEL" Bundle.listD), .exactly (.string RX9 373) "java/lang/String"]
set_option maxRecDepth 100000 in
theorem st_in5 : ∀ w ∈ stWd, w ∈ lw_tbl := by decide +kernel
set_option maxRecDepth 100000 in
theorem st_in6 : ∀ w ∈ stGv, w ∈ flatC (Cond.and given_1 narrow_1) := by decide +kernel
theorem st_amb {args : Array Value} {s : State} (hts : ∀ w ∈ lw_tbl, w.before args s = true) (hg : ∀ w ∈ flatC (Cond.and given_1 narrow_1), w.before args s = true) : ∃ (D : va_G) (cy : Nat → ClassId) (ad adV : Nat → Nat) (sa : Nat), Amb s.heap.size s.heap D cy ad adV s ∧ AmK s.heap.size s.heap sa s := by
  have hA : ∀ a : Nat, a < s.heap.size → ¬ s.heap.size ≤ a := fun a h => Nat.not_le.mpr h
  have ht5 : ∀ w ∈ stWd, w.before args s = true := fun w hw => hts w (st_in5 w hw)
  have hg6 : ∀ w ∈ stGv, w.before args s = true := fun w hw => hg w (st_in6 w hw)
  have hao : ∀ C ∈ [RX3, RX4, RX8], va_AO C s := fun C hC => va_AO.of (hts _ (st_in2 C hC))
  obtain ⟨D, hD⟩ := st_cls (wsA_tbl hts)
  obtain ⟨cy, hcy⟩ := st_arr (wsA_tbl hts) hao
  obtain ⟨ad, adV, hS, hev⟩ := st_str hg
  obtain ⟨sa, c, cA, kA, q1, -⟩ := Cond.exactly_spec (args := args) (first := s) (o := none) (s := s) (idx := []) (t := .string RX9 373) (cls := "java/lang/String") (hg6 _ (by simp [stGv]))
  refine ⟨D, cy, ad, adV, sa, ⟨⟨hD, hcy⟩, fun w hw => ?_, hao, fun q hq => ?_, hS, va_Zof (ht5 _ (by simp [stWd])) (ht5 _ (by simp [stWd])) (va_eqi (hg6 _ (by simp [stGv]))) hA, va_Zqof (ht5 _ (by simp [stWd])) (ht5 _ (by simp [stWd])) (hg6 _ (by simp [stGv])) hA⟩,
    ⟨fun w hw => ?_, vk_R.of (ht5 _ (by simp [stWd])) q1, vx_Zqof (ht5 _ (by simp [stWd])) (ht5 _ (by simp [stWd])) (hg6 _ (by simp [stGv])) hA, vx_Zqof (ht5 _ (by simp [stWd])) (ht5 _ (by simp [stWd])) (hg6 _ (by simp [stGv])) hA⟩, ?_⟩
  · have h := st_in1 w (List.mem_append_left _ hw)
    exact va_tabs h.2 rfl (hts w h.1)
  · obtain ⟨h1, h2⟩ := st_in4 q hq
    refine vk_R.of (hts _ (st_in3 q hq)) ?_
    rcases h2 with ⟨e1, e2⟩ | h2
    · rw [e1, e2]; exact hev _ h1
    · exact va_eqR (hg _ h2) (hev _ h1)
  · have h := st_in1 w (List.mem_append_right _ hw)
    exact va_tabs h.2 rfl (hts w h.1)
  · exact va_tabs (by rfl) rfl (ht5 (.castable nseN nseN) (by simp [stWd]))
/-- from the entry, for every script of at most 3072 ints, the law comes to its end with true -/
theorem whole_start {p : Program} {e : Env} {s : State} {m : MethodId} {below : List Frame} {meth : Method} {c : Code} (l : Launch) (hst : l.stackTraces = false) {b L : Nat} {xs : Nat → Int32} (hL : L ≤ 3072) (C0 : lw_At p s m meth c b L xs) : W p l e room_1 s m #[Value.ref b] below meth c s.heap [] 0 0 (lw_Z below #[Value.ref b] s) (entryFrame m ([Value.ref b] : List Value).toArray 7) := by
  obtain ⟨hexec, hcode, hret, hml, hown, hts, hX, hbl, hlk, hgv⟩ := C0
  obtain ⟨D, cy, ad, adV, sa, hAmb, hAmK⟩ := st_amb hts (flat_of_before _ hgv)
  have hMX : MX p room_1 s m #[Value.ref b] meth c RL code 7 s.heap.size s.heap D cy ad adV 0 0 (601024, 7293034) := ⟨hexec, hcode, hml, hown, wsA_tbl hts, hAmb, rfl, rfl, by decide, by decide, Nat.le_refl _, fun _ _ => rfl⟩
  have hrn : RnOk l room_1 s.heap.size s.heap D cy ad adV (Run 14) := fun y as A S K hr h1 h2 => by
    have := mLoc_le y h1
    exact ⟨14, 40 * 14, by decide, by show 8 + (mLoc y + 11) + 560 ≤ 604; omega, Run.sound l _ _ D cy ad adV 14 y as A S K hr h1 h2⟩
  have hLX : LX p l s m meth c b L xs D cy ad adV sa (Run 14) := ⟨hMX, hret, hlk, hrn, hst, hAmK, hX, hbl⟩
  have hC : Cl (mL_law b L xs) (Run 14) kOne (601024, 7293034) (MJL p l e s m below meth c b D cy ad) := fun J' hJ' pc ls st A S hs => okw_at otL pc p l e s m below meth c D cy ad adV sa (Run 14) J' hLX hJ' ls st A S hs
  have hstr := hAmb.2.2.2.2.1
  have hlt : ∀ i, i < 13 → ad i < s.heap.size := fun i hi => by
    obtain ⟨⟨cell, -, -, -, h4⟩, -⟩ := hstr.1 i hi
    exact Nat.not_le.mp h4
  have hJ := law_pure (A := (A0f ad, s.heap.size, 0, 0)) (S := (fun _ _ => 0, fun _ _ => 0, fun _ _ => none)) hC hL (fun _ _ => rfl) (fun a z h => by
    obtain ⟨i, hi, h1, -⟩ := A0f_some h
    rw [← h1]; exact hlt i hi) rfl rfl
  have hHp : Hp s.heap.size s.heap D cy ad (A0f ad, s.heap.size, 0, 0) (fun _ _ => 0, fun _ _ => 0, fun _ _ => none) s.heap := ⟨rfl, Nat.le_refl _, fun _ _ => rfl, fun a kn h => by
    obtain ⟨i, hi, h1, rfl⟩ := A0f_some h
    exact ⟨hi, h1.symm⟩, fun i hi => ⟨A0f_at hstr.2 hi, hlt i hi⟩⟩
  have hl := lv_entry ([.ref b] : List Value) (n := 7) (by rw [lg_iniA]; exact Nat.le_of_ble_eq_true rfl)
  have hw := hJ (Nat.le_refl _) (Nat.le_refl _) (Nat.zero_le _) (Nat.zero_le _) s.heap [] ((lg_sl ([.ref b] : List Value) ++ List.replicate (7 - (lg_sl ([.ref b] : List Value)).length) Slot.unset).toArray) hHp va_S.rf ⟨by rw [hml]; rfl, by rw [hml]; exact hl.1, hl.2.1, fun k v hk => by
    have h1 := lget_iniA ([.ref b] : List Value) 0 k v (lget_pad 7 _ k v (show lget (pad 7 (iniA ([.ref b] : List Value))) k = some v from hk))
    rw [Nat.zero_add] at h1
    exact hl.2.2 _ h1⟩
  rw [lg_entry_eq]
  exact hw
end StB
