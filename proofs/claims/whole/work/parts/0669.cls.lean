/-! the classes: names, fields, what a new object holds -/
theorem ly0 : ∀ w ∈ u_ws RX0 TX0 10, w ∈ tables_1 ∧ goodWord w = true := by decide +kernel
theorem cls0 : ClsOk 0 RX0 TX0 10 tyX0 := ⟨by decide, rfl, fun w h => inT (ly0 w h).1 (ly0 w h).2, tyX0_ok, nmX0⟩
theorem clz0 : ∀ k, k < 10 → (ftc 0 k = 0 ∧ defaultValue (tyX0 k) = .int 0) ∨ (ftc 0 k = 1 ∧ defaultValue (tyX0 k) = .long 0) ∨ (ftc 0 k = 2 ∧ defaultValue (tyX0 k) = .null) := by decide +kernel
theorem ly1 : ∀ w ∈ u_ws RX1 TX1 3, w ∈ tables_1 ∧ goodWord w = true := by decide +kernel
theorem cls1 : ClsOk 1 RX1 TX1 3 tyX1 := ⟨by decide, rfl, fun w h => inT (ly1 w h).1 (ly1 w h).2, tyX1_ok, nmX1⟩
theorem clz1 : ∀ k, k < 3 → (ftc 1 k = 0 ∧ defaultValue (tyX1 k) = .int 0) ∨ (ftc 1 k = 1 ∧ defaultValue (tyX1 k) = .long 0) ∨ (ftc 1 k = 2 ∧ defaultValue (tyX1 k) = .null) := by decide +kernel
theorem ly2 : ∀ w ∈ u_ws RX2 TX2 2, w ∈ tables_1 ∧ goodWord w = true := by decide +kernel
theorem cls2 : ClsOk 2 RX2 TX2 2 tyX2 := ⟨by decide, rfl, fun w h => inT (ly2 w h).1 (ly2 w h).2, tyX2_ok, nmX2⟩
theorem clz2 : ∀ k, k < 2 → (ftc 2 k = 0 ∧ defaultValue (tyX2 k) = .int 0) ∨ (ftc 2 k = 1 ∧ defaultValue (tyX2 k) = .long 0) ∨ (ftc 2 k = 2 ∧ defaultValue (tyX2 k) = .null) := by decide +kernel
theorem ly3 : ∀ w ∈ u_ws RX3 TX3 6, w ∈ tables_1 ∧ goodWord w = true := by decide +kernel
theorem cls3 : ClsOk 3 RX3 TX3 6 tyX3 := ⟨by decide, rfl, fun w h => inT (ly3 w h).1 (ly3 w h).2, tyX3_ok, nmX3⟩
theorem clz3 : ∀ k, k < 6 → (ftc 3 k = 0 ∧ defaultValue (tyX3 k) = .int 0) ∨ (ftc 3 k = 1 ∧ defaultValue (tyX3 k) = .long 0) ∨ (ftc 3 k = 2 ∧ defaultValue (tyX3 k) = .null) := by decide +kernel
theorem ly4 : ∀ w ∈ u_ws RX4 TX4 2, w ∈ tables_1 ∧ goodWord w = true := by decide +kernel
theorem cls4 : ClsOk 4 RX4 TX4 2 tyX4 := ⟨by decide, rfl, fun w h => inT (ly4 w h).1 (ly4 w h).2, tyX4_ok, nmX4⟩
theorem clz4 : ∀ k, k < 2 → (ftc 4 k = 0 ∧ defaultValue (tyX4 k) = .int 0) ∨ (ftc 4 k = 1 ∧ defaultValue (tyX4 k) = .long 0) ∨ (ftc 4 k = 2 ∧ defaultValue (tyX4 k) = .null) := by decide +kernel
theorem ly5 : ∀ w ∈ u_ws RX5 TX5 11, w ∈ tables_1 ∧ goodWord w = true := by decide +kernel
theorem cls5 : ClsOk 5 RX5 TX5 11 tyX5 := ⟨by decide, rfl, fun w h => inT (ly5 w h).1 (ly5 w h).2, tyX5_ok, nmX5⟩
theorem clz5 : ∀ k, k < 11 → (ftc 5 k = 0 ∧ defaultValue (tyX5 k) = .int 0) ∨ (ftc 5 k = 1 ∧ defaultValue (tyX5 k) = .long 0) ∨ (ftc 5 k = 2 ∧ defaultValue (tyX5 k) = .null) := by decide +kernel
theorem ly6 : ∀ w ∈ u_ws RX6 TX6 9, w ∈ tables_1 ∧ goodWord w = true := by decide +kernel
theorem cls6 : ClsOk 6 RX6 TX6 9 tyX6 := ⟨by decide, rfl, fun w h => inT (ly6 w h).1 (ly6 w h).2, tyX6_ok, nmX6⟩
theorem clz6 : ∀ k, k < 9 → (ftc 6 k = 0 ∧ defaultValue (tyX6 k) = .int 0) ∨ (ftc 6 k = 1 ∧ defaultValue (tyX6 k) = .long 0) ∨ (ftc 6 k = 2 ∧ defaultValue (tyX6 k) = .null) := by decide +kernel
theorem ly7 : ∀ w ∈ u_ws RX7 TX7 9, w ∈ tables_1 ∧ goodWord w = true := by decide +kernel
theorem cls7 : ClsOk 7 RX7 TX7 9 tyX7 := ⟨by decide, rfl, fun w h => inT (ly7 w h).1 (ly7 w h).2, tyX7_ok, nmX7⟩
theorem clz7 : ∀ k, k < 9 → (ftc 7 k = 0 ∧ defaultValue (tyX7 k) = .int 0) ∨ (ftc 7 k = 1 ∧ defaultValue (tyX7 k) = .long 0) ∨ (ftc 7 k = 2 ∧ defaultValue (tyX7 k) = .null) := by decide +kernel
theorem ly8 : ∀ w ∈ u_ws RX8 TX8 8, w ∈ tables_1 ∧ goodWord w = true := by decide +kernel
theorem cls8 : ClsOk 8 RX8 TX8 8 tyX8 := ⟨by decide, rfl, fun w h => inT (ly8 w h).1 (ly8 w h).2, tyX8_ok, nmX8⟩
theorem clz8 : ∀ k, k < 8 → (ftc 8 k = 0 ∧ defaultValue (tyX8 k) = .int 0) ∨ (ftc 8 k = 1 ∧ defaultValue (tyX8 k) = .long 0) ∨ (ftc 8 k = 2 ∧ defaultValue (tyX8 k) = .null) := by decide +kernel
theorem ly9 : ∀ w ∈ u_ws RX9 TX9 17, w ∈ tables_1 ∧ goodWord w = true := by decide +kernel
theorem cls9 : ClsOk 9 RX9 TX9 17 tyX9 := ⟨by decide, rfl, fun w h => inT (ly9 w h).1 (ly9 w h).2, tyX9_ok, nmX9⟩
theorem clz9 : ∀ k, k < 17 → (ftc 9 k = 0 ∧ defaultValue (tyX9 k) = .int 0) ∨ (ftc 9 k = 1 ∧ defaultValue (tyX9 k) = .long 0) ∨ (ftc 9 k = 2 ∧ defaultValue (tyX9 k) = .null) := by decide +kernel
theorem ly10 : ∀ w ∈ u_ws RX10 TX10 9, w ∈ tables_1 ∧ goodWord w = true := by decide +kernel
theorem cls10 : ClsOk 10 RX10 TX10 9 tyX10 := ⟨by decide, rfl, fun w h => inT (ly10 w h).1 (ly10 w h).2, tyX10_ok, nmX10⟩
theorem clz10 : ∀ k, k < 9 → (ftc 10 k = 0 ∧ defaultValue (tyX10 k) = .int 0) ∨ (ftc 10 k = 1 ∧ defaultValue (tyX10 k) = .long 0) ∨ (ftc 10 k = 2 ∧ defaultValue (tyX10 k) = .null) := by decide +kernel
theorem ly11 : ∀ w ∈ u_ws RX11 TX11 51, w ∈ tables_1 ∧ goodWord w = true := by decide +kernel
theorem cls11 : ClsOk 11 RX11 TX11 51 tyX11 := ⟨by decide, rfl, fun w h => inT (ly11 w h).1 (ly11 w h).2, tyX11_ok, nmX11⟩
theorem clz11 : ∀ k, k < 51 → (ftc 11 k = 0 ∧ defaultValue (tyX11 k) = .int 0) ∨ (ftc 11 k = 1 ∧ defaultValue (tyX11 k) = .long 0) ∨ (ftc 11 k = 2 ∧ defaultValue (tyX11 k) = .null) := by decide +kernel
