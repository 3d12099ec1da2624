/-! every transformer of these methods is sound -/
set_option maxRecDepth 100000 in
theorem otX10_init : ∀ q ∈ mX10_init, Okr RX10 cX10_init 1 (yX10_init.name = "<init>") RnOk none (5, 165) q.1 q.2 :=
  List.forall_mem_cons.mpr ⟨Okn.r (ok_ald_n (k := 0) (by decide +kernel) rfl),
  List.forall_mem_cons.mpr ⟨Okn.r (ok_oinit (by decide +kernel) kw_1243 kw_29 kw_30),
  List.forall_mem_cons.mpr ⟨Okn.r (ok_ald_n (k := 0) (by decide +kernel) rfl),
  List.forall_mem_cons.mpr ⟨Okn.r (ok_sipush (n := 145) (by decide +kernel) rfl),
  List.forall_mem_cons.mpr ⟨Okn.r (ok_newa (at' := .int) (Or.inr (Or.inl ⟨rfl, rfl, rfl⟩)) (by decide +kernel) kw_122),
  List.forall_mem_cons.mpr ⟨Okn.r (ok_pfR (k := 4) (by decide +kernel) cls10 (by decide) (Or.inl ⟨kw_1248, Or.inr ⟨rfl, rfl, rfl⟩⟩) rfl rfl),
  List.forall_mem_cons.mpr ⟨Okn.r (ok_ald_n (k := 0) (by decide +kernel) rfl),
  List.forall_mem_cons.mpr ⟨Okn.r (ok_iconst (n := 4) (by decide +kernel) rfl),
  List.forall_mem_cons.mpr ⟨Okn.r (ok_newa (at' := .int) (Or.inr (Or.inl ⟨rfl, rfl, rfl⟩)) (by decide +kernel) kw_122),
  List.forall_mem_cons.mpr ⟨Okn.r (ok_pfR (k := 5) (by decide +kernel) cls10 (by decide) (Or.inl ⟨kw_1250, Or.inr ⟨rfl, rfl, rfl⟩⟩) rfl rfl),
  List.forall_mem_cons.mpr ⟨Okn.r (ok_ald_n (k := 0) (by decide +kernel) rfl),
  List.forall_mem_cons.mpr ⟨Okn.r (ok_iconst (n := 4) (by decide +kernel) rfl),
  List.forall_mem_cons.mpr ⟨Okn.r (ok_newa (at' := .int) (Or.inr (Or.inl ⟨rfl, rfl, rfl⟩)) (by decide +kernel) kw_122),
  List.forall_mem_cons.mpr ⟨Okn.r (ok_pfR (k := 6) (by decide +kernel) cls10 (by decide) (Or.inl ⟨kw_1252, Or.inr ⟨rfl, rfl, rfl⟩⟩) rfl rfl),
  List.forall_mem_cons.mpr ⟨Okn.r (ok_ald_n (k := 0) (by decide +kernel) rfl),
  List.forall_mem_cons.mpr ⟨Okn.r (ok_bipush (n := 6) (by decide +kernel) rfl),
  List.forall_mem_cons.mpr ⟨Okn.r (ok_newa (at' := .int) (Or.inr (Or.inl ⟨rfl, rfl, rfl⟩)) (by decide +kernel) kw_122),
  List.forall_mem_cons.mpr ⟨Okn.r (ok_pfR (k := 7) (by decide +kernel) cls10 (by decide) (Or.inl ⟨kw_1254, Or.inr ⟨rfl, rfl, rfl⟩⟩) rfl rfl),
  List.forall_mem_cons.mpr ⟨Okn.r (ok_ald_n (k := 0) (by decide +kernel) rfl),
  List.forall_mem_cons.mpr ⟨Okn.r (ok_bipush (n := 6) (by decide +kernel) rfl),
  List.forall_mem_cons.mpr ⟨Okn.r (ok_newa (at' := .int) (Or.inr (Or.inl ⟨rfl, rfl, rfl⟩)) (by decide +kernel) kw_122),
  List.forall_mem_cons.mpr ⟨Okn.r (ok_pfR (k := 8) (by decide +kernel) cls10 (by decide) (Or.inl ⟨kw_1256, Or.inr ⟨rfl, rfl, rfl⟩⟩) rfl rfl),
  List.forall_mem_cons.mpr ⟨ok_vreta (by decide +kernel) rfl,
  fun _ h => absurd h List.not_mem_nil⟩⟩⟩⟩⟩⟩⟩⟩⟩⟩⟩⟩⟩⟩⟩⟩⟩⟩⟩⟩⟩⟩⟩

set_option maxRecDepth 100000 in
theorem otX10_stands : ∀ q ∈ mX10_stands, Okr RX10 cX10_stands 4 (yX10_stands.name = "<init>") RnOk (some .boolean) (0, 0) q.1 q.2 :=
  List.forall_mem_cons.mpr ⟨Okn.r (ok_iconst (n := 0) (by decide +kernel) rfl),
  List.forall_mem_cons.mpr ⟨Okn.r (ok_ist_n (k := 3) (by decide +kernel) rfl (by decide)),
  List.forall_mem_cons.mpr ⟨Okn.r (ok_ild_n (k := 3) (by decide +kernel) rfl),
  List.forall_mem_cons.mpr ⟨Okn.r (ok_ild_n (k := 1) (by decide +kernel) rfl),
  List.forall_mem_cons.mpr ⟨Okn.r (ok_ic_ge (off := 18) (by decide +kernel) (by decide)),
  List.forall_mem_cons.mpr ⟨Okn.r (ok_ald_n (k := 0) (by decide +kernel) rfl),
  List.forall_mem_cons.mpr ⟨Okn.r (ok_ild_n (k := 3) (by decide +kernel) rfl),
  List.forall_mem_cons.mpr ⟨Okn.r (ok_iald (by decide +kernel)),
  List.forall_mem_cons.mpr ⟨Okn.r (ok_ild_n (k := 2) (by decide +kernel) rfl),
  List.forall_mem_cons.mpr ⟨Okn.r (ok_ic_ne (off := 5) (by decide +kernel) (by decide)),
  List.forall_mem_cons.mpr ⟨Okn.r (ok_iconst (n := 1) (by decide +kernel) rfl),
  List.forall_mem_cons.mpr ⟨ok_zret (by decide +kernel) rfl rfl,
  List.forall_mem_cons.mpr ⟨Okn.r (ok_iinc (n := 1) (by decide +kernel) rfl (by decide)),
  List.forall_mem_cons.mpr ⟨Okn.r (ok_goto (off := -17) (by decide +kernel) (by decide)),
  List.forall_mem_cons.mpr ⟨Okn.r (ok_iconst (n := 0) (by decide +kernel) rfl),
  List.forall_mem_cons.mpr ⟨ok_zret (by decide +kernel) rfl rfl,
  fun _ h => absurd h List.not_mem_nil⟩⟩⟩⟩⟩⟩⟩⟩⟩⟩⟩⟩⟩⟩⟩⟩

set_option maxRecDepth 100000 in
theorem otJ9_max_7cf53 : ∀ q ∈ mJ9_max_7cf53, Okr RJ9 cJ9_max_7cf53 2 (yJ9_max_7cf53.name = "<init>") RnOk (some .int) (0, 0) q.1 q.2 :=
  List.forall_mem_cons.mpr ⟨Okn.r (ok_ild_n (k := 0) (by decide +kernel) rfl),
  List.forall_mem_cons.mpr ⟨Okn.r (ok_ild_n (k := 1) (by decide +kernel) rfl),
  List.forall_mem_cons.mpr ⟨Okn.r (ok_ic_lt (off := 7) (by decide +kernel) (by decide)),
  List.forall_mem_cons.mpr ⟨Okn.r (ok_ild_n (k := 0) (by decide +kernel) rfl),
  List.forall_mem_cons.mpr ⟨Okn.r (ok_goto (off := 4) (by decide +kernel) (by decide)),
  List.forall_mem_cons.mpr ⟨Okn.r (ok_ild_n (k := 1) (by decide +kernel) rfl),
  List.forall_mem_cons.mpr ⟨ok_iret (by decide +kernel) rfl rfl,
  fun _ h => absurd h List.not_mem_nil⟩⟩⟩⟩⟩⟩⟩

set_option maxRecDepth 100000 in
theorem otJ9_min_7cf53 : ∀ q ∈ mJ9_min_7cf53, Okr RJ9 cJ9_min_7cf53 2 (yJ9_min_7cf53.name = "<init>") RnOk (some .int) (0, 0) q.1 q.2 :=
  List.forall_mem_cons.mpr ⟨Okn.r (ok_ild_n (k := 0) (by decide +kernel) rfl),
  List.forall_mem_cons.mpr ⟨Okn.r (ok_ild_n (k := 1) (by decide +kernel) rfl),
  List.forall_mem_cons.mpr ⟨Okn.r (ok_ic_gt (off := 7) (by decide +kernel) (by decide)),
  List.forall_mem_cons.mpr ⟨Okn.r (ok_ild_n (k := 0) (by decide +kernel) rfl),
  List.forall_mem_cons.mpr ⟨Okn.r (ok_goto (off := 4) (by decide +kernel) (by decide)),
  List.forall_mem_cons.mpr ⟨Okn.r (ok_ild_n (k := 1) (by decide +kernel) rfl),
  List.forall_mem_cons.mpr ⟨ok_iret (by decide +kernel) rfl rfl,
  fun _ h => absurd h List.not_mem_nil⟩⟩⟩⟩⟩⟩⟩
