/-! the law's table in its pieces -/
set_option maxRecDepth 1000000 in
theorem mL_eq {b L : Nat} {xs : Nat → Int32} : mL_law b L xs = mL_0 b L xs ++ (mL_1 b L xs ++ (mL_2 b L xs ++ (mL_3 b L xs ++ (mL_4 b L xs ++ (mL_5 b L xs ++ (mL_6 b L xs ++ (mL_7 b L xs ++ (mL_8 b L xs)))))))) := rfl
theorem otL {b L : Nat} {xs : Nat → Int32} : ∀ q ∈ mL_law b L xs, OkW b L xs q.1 q.2 := by
  rw [mL_eq]
  exact List.forall_mem_append.mpr ⟨otL_0, List.forall_mem_append.mpr ⟨otL_1, List.forall_mem_append.mpr ⟨otL_2, List.forall_mem_append.mpr ⟨otL_3, List.forall_mem_append.mpr ⟨otL_4, List.forall_mem_append.mpr ⟨otL_5, List.forall_mem_append.mpr ⟨otL_6, List.forall_mem_append.mpr ⟨otL_7, otL_8⟩⟩⟩⟩⟩⟩⟩⟩
