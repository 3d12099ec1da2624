/-! methods by number, and calls: which words they have -/
set_option maxRecDepth 20000 in
theorem mb_32 : Cond.code (yN 32) (cB 32) (mLoc 32) (rT 32) ∈ wsA ∧ Cond.initialized (yN 32).cls ∈ wsA ∧ (yN 32).cls ≠ "java/lang/invoke/MethodHandle" ∧ (yN 32).cls ≠ "java/lang/invoke/VarHandle" ∧ (parseMethodDescriptor (yN 32).desc).map (fun d => d.parameters.length) = some 0 ∧ Cond.instanceMethod (yN 32) ∈ wsA ∧ True := ⟨kw_178, kw_6, by decide +kernel, by decide +kernel, by decide +kernel, ⟨kw_177, trivial⟩⟩
set_option maxRecDepth 20000 in
theorem mb_24 : Cond.code (yN 24) (cB 24) (mLoc 24) (rT 24) ∈ wsA ∧ Cond.initialized (yN 24).cls ∈ wsA ∧ (yN 24).cls ≠ "java/lang/invoke/MethodHandle" ∧ (yN 24).cls ≠ "java/lang/invoke/VarHandle" ∧ (parseMethodDescriptor (yN 24).desc).map (fun d => d.parameters.length) = some 0 ∧ Cond.instanceMethod (yN 24) ∈ wsA ∧ True := ⟨kw_232, kw_7, by decide +kernel, by decide +kernel, by decide +kernel, ⟨kw_231, trivial⟩⟩
set_option maxRecDepth 20000 in
theorem mb_2 : Cond.code (yN 2) (cB 2) (mLoc 2) (rT 2) ∈ wsA ∧ Cond.initialized (yN 2).cls ∈ wsA ∧ (yN 2).cls ≠ "java/lang/invoke/MethodHandle" ∧ (yN 2).cls ≠ "java/lang/invoke/VarHandle" ∧ (parseMethodDescriptor (yN 2).desc).map (fun d => d.parameters.length) = some 1 ∧ Cond.instanceMethod (yN 2) ∈ wsA ∧ Cond.selects (yN 2).cls (yN 2) (yN 2) ∈ wsA := ⟨kw_599, kw_5, by decide +kernel, by decide +kernel, by decide +kernel, ⟨kw_598, pv_15⟩⟩
set_option maxRecDepth 20000 in
theorem mb_3 : Cond.code (yN 3) (cB 3) (mLoc 3) (rT 3) ∈ wsA ∧ Cond.initialized (yN 3).cls ∈ wsA ∧ (yN 3).cls ≠ "java/lang/invoke/MethodHandle" ∧ (yN 3).cls ≠ "java/lang/invoke/VarHandle" ∧ (parseMethodDescriptor (yN 3).desc).map (fun d => d.parameters.length) = some 1 ∧ Cond.instanceMethod (yN 3) ∈ wsA ∧ Cond.selects (yN 3).cls (yN 3) (yN 3) ∈ wsA := ⟨kw_603, kw_5, by decide +kernel, by decide +kernel, by decide +kernel, ⟨kw_602, pv_16⟩⟩
set_option maxRecDepth 20000 in
theorem mb_4 : Cond.code (yN 4) (cB 4) (mLoc 4) (rT 4) ∈ wsA ∧ Cond.initialized (yN 4).cls ∈ wsA ∧ (yN 4).cls ≠ "java/lang/invoke/MethodHandle" ∧ (yN 4).cls ≠ "java/lang/invoke/VarHandle" ∧ (parseMethodDescriptor (yN 4).desc).map (fun d => d.parameters.length) = some 5 ∧ Cond.instanceMethod (yN 4) ∈ wsA ∧ Cond.selects (yN 4).cls (yN 4) (yN 4) ∈ wsA := ⟨kw_608, kw_5, by decide +kernel, by decide +kernel, by decide +kernel, ⟨kw_606, kw_607⟩⟩
set_option maxRecDepth 20000 in
theorem mb_10 : Cond.code (yN 10) (cB 10) (mLoc 10) (rT 10) ∈ wsA ∧ Cond.initialized (yN 10).cls ∈ wsA ∧ (yN 10).cls ≠ "java/lang/invoke/MethodHandle" ∧ (yN 10).cls ≠ "java/lang/invoke/VarHandle" ∧ (parseMethodDescriptor (yN 10).desc).map (fun d => d.parameters.length) = some 3 ∧ Cond.instanceMethod (yN 10) ∈ wsA ∧ Cond.selects (yN 10).cls (yN 10) (yN 10) ∈ wsA := ⟨kw_631, kw_5, by decide +kernel, by decide +kernel, by decide +kernel, ⟨kw_630, pv_19⟩⟩
set_option maxRecDepth 20000 in
theorem mb_5 : Cond.code (yN 5) (cB 5) (mLoc 5) (rT 5) ∈ wsA ∧ Cond.initialized (yN 5).cls ∈ wsA ∧ (yN 5).cls ≠ "java/lang/invoke/MethodHandle" ∧ (yN 5).cls ≠ "java/lang/invoke/VarHandle" ∧ (parseMethodDescriptor (yN 5).desc).map (fun d => d.parameters.length) = some 6 ∧ Cond.instanceMethod (yN 5) ∈ wsA ∧ Cond.selects (yN 5).cls (yN 5) (yN 5) ∈ wsA := ⟨kw_639, kw_5, by decide +kernel, by decide +kernel, by decide +kernel, ⟨kw_637, kw_638⟩⟩
set_option maxRecDepth 20000 in
theorem mb_25 : Cond.code (yN 25) (cB 25) (mLoc 25) (rT 25) ∈ wsA ∧ Cond.initialized (yN 25).cls ∈ wsA ∧ (yN 25).cls ≠ "java/lang/invoke/MethodHandle" ∧ (yN 25).cls ≠ "java/lang/invoke/VarHandle" ∧ (parseMethodDescriptor (yN 25).desc).map (fun d => d.parameters.length) = some 4 ∧ Cond.instanceMethod (yN 25) ∈ wsA ∧ Cond.selects (yN 25).cls (yN 25) (yN 25) ∈ wsA := ⟨kw_612, kw_7, by decide +kernel, by decide +kernel, by decide +kernel, ⟨kw_610, kw_611⟩⟩
set_option maxRecDepth 20000 in
theorem mb_7 : Cond.code (yN 7) (cB 7) (mLoc 7) (rT 7) ∈ wsA ∧ Cond.initialized (yN 7).cls ∈ wsA ∧ (yN 7).cls ≠ "java/lang/invoke/MethodHandle" ∧ (yN 7).cls ≠ "java/lang/invoke/VarHandle" ∧ (parseMethodDescriptor (yN 7).desc).map (fun d => d.parameters.length) = some 3 ∧ Cond.instanceMethod (yN 7) ∈ wsA ∧ Cond.selects (yN 7).cls (yN 7) (yN 7) ∈ wsA := ⟨kw_616, kw_5, by decide +kernel, by decide +kernel, by decide +kernel, ⟨kw_615, pv_17⟩⟩
set_option maxRecDepth 20000 in
theorem mb_9 : Cond.code (yN 9) (cB 9) (mLoc 9) (rT 9) ∈ wsA ∧ Cond.initialized (yN 9).cls ∈ wsA ∧ (yN 9).cls ≠ "java/lang/invoke/MethodHandle" ∧ (yN 9).cls ≠ "java/lang/invoke/VarHandle" ∧ (parseMethodDescriptor (yN 9).desc).map (fun d => d.parameters.length) = some 0 ∧ Cond.instanceMethod (yN 9) ∈ wsA ∧ Cond.selects (yN 9).cls (yN 9) (yN 9) ∈ wsA := ⟨kw_627, kw_5, by decide +kernel, by decide +kernel, by decide +kernel, ⟨kw_626, pv_18⟩⟩
set_option maxRecDepth 20000 in
theorem mb_29 : Cond.code (yN 29) (cB 29) (mLoc 29) (rT 29) ∈ wsA ∧ Cond.initialized (yN 29).cls ∈ wsA ∧ (yN 29).cls ≠ "java/lang/invoke/MethodHandle" ∧ (yN 29).cls ≠ "java/lang/invoke/VarHandle" ∧ (parseMethodDescriptor (yN 29).desc).map (fun d => d.parameters.length) = some 0 ∧ Cond.instanceMethod (yN 29) ∈ wsA ∧ Cond.selects (yN 29).cls (yN 29) (yN 29) ∈ wsA := ⟨kw_643, kw_7, by decide +kernel, by decide +kernel, by decide +kernel, ⟨kw_641, kw_642⟩⟩
set_option maxRecDepth 20000 in
theorem mb_28 : Cond.code (yN 28) (cB 28) (mLoc 28) (rT 28) ∈ wsA ∧ Cond.initialized (yN 28).cls ∈ wsA ∧ (yN 28).cls ≠ "java/lang/invoke/MethodHandle" ∧ (yN 28).cls ≠ "java/lang/invoke/VarHandle" ∧ (parseMethodDescriptor (yN 28).desc).map (fun d => d.parameters.length) = some 1 ∧ Cond.instanceMethod (yN 28) ∈ wsA ∧ Cond.selects (yN 28).cls (yN 28) (yN 28) ∈ wsA := ⟨kw_647, kw_7, by decide +kernel, by decide +kernel, by decide +kernel, ⟨kw_645, kw_646⟩⟩
set_option maxRecDepth 20000 in
theorem mb_26 : Cond.code (yN 26) (cB 26) (mLoc 26) (rT 26) ∈ wsA ∧ Cond.initialized (yN 26).cls ∈ wsA ∧ (yN 26).cls ≠ "java/lang/invoke/MethodHandle" ∧ (yN 26).cls ≠ "java/lang/invoke/VarHandle" ∧ (parseMethodDescriptor (yN 26).desc).map (fun d => d.parameters.length) = some 2 ∧ Cond.instanceMethod (yN 26) ∈ wsA ∧ Cond.selects (yN 26).cls (yN 26) (yN 26) ∈ wsA := ⟨kw_620, kw_7, by decide +kernel, by decide +kernel, by decide +kernel, ⟨kw_618, kw_619⟩⟩
set_option maxRecDepth 20000 in
theorem mb_33 : Cond.code (yN 33) (cB 33) (mLoc 33) (rT 33) ∈ wsA ∧ Cond.initialized (yN 33).cls ∈ wsA ∧ (yN 33).cls ≠ "java/lang/invoke/MethodHandle" ∧ (yN 33).cls ≠ "java/lang/invoke/VarHandle" ∧ (parseMethodDescriptor (yN 33).desc).map (fun d => d.parameters.length) = some 4 ∧ Cond.instanceMethod (yN 33) ∈ wsA ∧ Cond.selects (yN 33).cls (yN 33) (yN 33) ∈ wsA := ⟨kw_651, kw_6, by decide +kernel, by decide +kernel, by decide +kernel, ⟨kw_649, kw_650⟩⟩
set_option maxRecDepth 20000 in
theorem mb_27 : Cond.code (yN 27) (cB 27) (mLoc 27) (rT 27) ∈ wsA ∧ Cond.initialized (yN 27).cls ∈ wsA ∧ (yN 27).cls ≠ "java/lang/invoke/MethodHandle" ∧ (yN 27).cls ≠ "java/lang/invoke/VarHandle" ∧ (parseMethodDescriptor (yN 27).desc).map (fun d => d.parameters.length) = some 1 ∧ Cond.instanceMethod (yN 27) ∈ wsA ∧ Cond.selects (yN 27).cls (yN 27) (yN 27) ∈ wsA := ⟨kw_635, kw_7, by decide +kernel, by decide +kernel, by decide +kernel, ⟨kw_633, kw_634⟩⟩
set_option maxRecDepth 20000 in
theorem mb_6 : Cond.code (yN 6) (cB 6) (mLoc 6) (rT 6) ∈ wsA ∧ Cond.initialized (yN 6).cls ∈ wsA ∧ (yN 6).cls ≠ "java/lang/invoke/MethodHandle" ∧ (yN 6).cls ≠ "java/lang/invoke/VarHandle" ∧ (parseMethodDescriptor (yN 6).desc).map (fun d => d.parameters.length) = some 3 ∧ Cond.instanceMethod (yN 6) ∈ wsA ∧ Cond.selects (yN 6).cls (yN 6) (yN 6) ∈ wsA := ⟨kw_655, kw_5, by decide +kernel, by decide +kernel, by decide +kernel, ⟨kw_654, pv_20⟩⟩
set_option maxRecDepth 20000 in
theorem mb_8 : Cond.code (yN 8) (cB 8) (mLoc 8) (rT 8) ∈ wsA ∧ Cond.initialized (yN 8).cls ∈ wsA ∧ (yN 8).cls ≠ "java/lang/invoke/MethodHandle" ∧ (yN 8).cls ≠ "java/lang/invoke/VarHandle" ∧ (parseMethodDescriptor (yN 8).desc).map (fun d => d.parameters.length) = some 1 ∧ Cond.instanceMethod (yN 8) ∈ wsA ∧ Cond.selects (yN 8).cls (yN 8) (yN 8) ∈ wsA := ⟨kw_659, kw_5, by decide +kernel, by decide +kernel, by decide +kernel, ⟨kw_658, pv_21⟩⟩
set_option maxRecDepth 20000 in
theorem mb_34 : Cond.code (yN 34) (cB 34) (mLoc 34) (rT 34) ∈ wsA ∧ Cond.initialized (yN 34).cls ∈ wsA ∧ (yN 34).cls ≠ "java/lang/invoke/MethodHandle" ∧ (yN 34).cls ≠ "java/lang/invoke/VarHandle" ∧ (parseMethodDescriptor (yN 34).desc).map (fun d => d.parameters.length) = some 2 ∧ Cond.instanceMethod (yN 34) ∈ wsA ∧ Cond.selects (yN 34).cls (yN 34) (yN 34) ∈ wsA := ⟨kw_762, kw_6, by decide +kernel, by decide +kernel, by decide +kernel, ⟨kw_760, kw_761⟩⟩
set_option maxRecDepth 20000 in
theorem mb_35 : Cond.code (yN 35) (cB 35) (mLoc 35) (rT 35) ∈ wsA ∧ Cond.initialized (yN 35).cls ∈ wsA ∧ (yN 35).cls ≠ "java/lang/invoke/MethodHandle" ∧ (yN 35).cls ≠ "java/lang/invoke/VarHandle" ∧ (parseMethodDescriptor (yN 35).desc).map (fun d => d.parameters.length) = some 2 ∧ Cond.instanceMethod (yN 35) ∈ wsA ∧ Cond.selects (yN 35).cls (yN 35) (yN 35) ∈ wsA := ⟨kw_774, kw_6, by decide +kernel, by decide +kernel, by decide +kernel, ⟨kw_772, kw_773⟩⟩
set_option maxRecDepth 20000 in
theorem mb_18 : Cond.code (yN 18) (cB 18) (mLoc 18) (rT 18) ∈ wsA ∧ Cond.initialized (yN 18).cls ∈ wsA ∧ (yN 18).cls ≠ "java/lang/invoke/MethodHandle" ∧ (yN 18).cls ≠ "java/lang/invoke/VarHandle" ∧ (parseMethodDescriptor (yN 18).desc).map (fun d => d.parameters.length) = some 1 ∧ Cond.instanceMethod (yN 18) ∈ wsA ∧ Cond.selects (yN 18).cls (yN 18) (yN 18) ∈ wsA := ⟨kw_890, kw_10, by decide +kernel, by decide +kernel, by decide +kernel, ⟨kw_888, kw_889⟩⟩
set_option maxRecDepth 20000 in
theorem mb_58 : Cond.code (yN 58) (cB 58) (mLoc 58) (rT 58) ∈ wsA ∧ Cond.initialized (yN 58).cls ∈ wsA ∧ (yN 58).cls ≠ "java/lang/invoke/MethodHandle" ∧ (yN 58).cls ≠ "java/lang/invoke/VarHandle" ∧ (parseMethodDescriptor (yN 58).desc).map (fun d => d.parameters.length) = some 1 ∧ Cond.instanceMethod (yN 58) ∈ wsA ∧ True := ⟨kw_78, kw_4, by decide +kernel, by decide +kernel, by decide +kernel, ⟨kw_77, trivial⟩⟩
set_option maxRecDepth 20000 in
theorem mb_63 : Cond.code (yN 63) (cB 63) (mLoc 63) (rT 63) ∈ wsA ∧ Cond.initialized (yN 63).cls ∈ wsA ∧ (yN 63).cls ≠ "java/lang/invoke/MethodHandle" ∧ (yN 63).cls ≠ "java/lang/invoke/VarHandle" ∧ (parseMethodDescriptor (yN 63).desc).map (fun d => d.parameters.length) = some 1 ∧ Cond.instanceMethod (yN 63) ∈ wsA ∧ Cond.selects (yN 63).cls (yN 63) (yN 63) ∈ wsA := ⟨kw_667, kw_4, by decide +kernel, by decide +kernel, by decide +kernel, ⟨kw_665, kw_666⟩⟩
set_option maxRecDepth 20000 in
theorem mb_23 : Cond.code (yN 23) (cB 23) (mLoc 23) (rT 23) ∈ wsA ∧ Cond.initialized (yN 23).cls ∈ wsA ∧ (yN 23).cls ≠ "java/lang/invoke/MethodHandle" ∧ (yN 23).cls ≠ "java/lang/invoke/VarHandle" ∧ (parseMethodDescriptor (yN 23).desc).map (fun d => d.parameters.length) = some 0 ∧ Cond.instanceMethod (yN 23) ∈ wsA ∧ True := ⟨kw_239, kw_8, by decide +kernel, by decide +kernel, by decide +kernel, ⟨kw_238, trivial⟩⟩
set_option maxRecDepth 20000 in
theorem mb_53 : Cond.code (yN 53) (cB 53) (mLoc 53) (rT 53) ∈ wsA ∧ Cond.initialized (yN 53).cls ∈ wsA ∧ (yN 53).cls ≠ "java/lang/invoke/MethodHandle" ∧ (yN 53).cls ≠ "java/lang/invoke/VarHandle" ∧ (parseMethodDescriptor (yN 53).desc).map (fun d => d.parameters.length) = some 0 ∧ Cond.instanceMethod (yN 53) ∈ wsA ∧ Cond.selects (yN 53).cls (yN 53) (yN 53) ∈ wsA := ⟨kw_438, kw_3, by decide +kernel, by decide +kernel, by decide +kernel, ⟨kw_436, kw_437⟩⟩
set_option maxRecDepth 20000 in
theorem mb_48 : Cond.code (yN 48) (cB 48) (mLoc 48) (rT 48) ∈ wsA ∧ Cond.initialized (yN 48).cls ∈ wsA ∧ (yN 48).cls ≠ "java/lang/invoke/MethodHandle" ∧ (yN 48).cls ≠ "java/lang/invoke/VarHandle" ∧ (parseMethodDescriptor (yN 48).desc).map (fun d => d.parameters.length) = some 0 ∧ Cond.instanceMethod (yN 48) ∈ wsA ∧ Cond.selects (yN 48).cls (yN 48) (yN 48) ∈ wsA := ⟨kw_442, kw_2, by decide +kernel, by decide +kernel, by decide +kernel, ⟨kw_441, pv_2⟩⟩
set_option maxRecDepth 20000 in
theorem mb_38 : Cond.code (yN 38) (cB 38) (mLoc 38) (rT 38) ∈ wsA ∧ Cond.initialized (yN 38).cls ∈ wsA ∧ (yN 38).cls ≠ "java/lang/invoke/MethodHandle" ∧ (yN 38).cls ≠ "java/lang/invoke/VarHandle" ∧ (parseMethodDescriptor (yN 38).desc).map (fun d => d.parameters.length) = some 0 ∧ Cond.instanceMethod (yN 38) ∈ wsA ∧ Cond.selects (yN 38).cls (yN 38) (yN 38) ∈ wsA := ⟨kw_456, kw_2, by decide +kernel, by decide +kernel, by decide +kernel, ⟨kw_455, pv_4⟩⟩
set_option maxRecDepth 20000 in
theorem mb_44 : Cond.code (yN 44) (cB 44) (mLoc 44) (rT 44) ∈ wsA ∧ Cond.initialized (yN 44).cls ∈ wsA ∧ (yN 44).cls ≠ "java/lang/invoke/MethodHandle" ∧ (yN 44).cls ≠ "java/lang/invoke/VarHandle" ∧ (parseMethodDescriptor (yN 44).desc).map (fun d => d.parameters.length) = some 1 ∧ Cond.instanceMethod (yN 44) ∈ wsA ∧ Cond.selects (yN 44).cls (yN 44) (yN 44) ∈ wsA := ⟨kw_460, kw_2, by decide +kernel, by decide +kernel, by decide +kernel, ⟨kw_459, pv_5⟩⟩
set_option maxRecDepth 20000 in
theorem mb_47 : Cond.code (yN 47) (cB 47) (mLoc 47) (rT 47) ∈ wsA ∧ Cond.initialized (yN 47).cls ∈ wsA ∧ (yN 47).cls ≠ "java/lang/invoke/MethodHandle" ∧ (yN 47).cls ≠ "java/lang/invoke/VarHandle" ∧ (parseMethodDescriptor (yN 47).desc).map (fun d => d.parameters.length) = some 1 ∧ Cond.instanceMethod (yN 47) ∈ wsA ∧ Cond.selects (yN 47).cls (yN 47) (yN 47) ∈ wsA := ⟨kw_465, kw_2, by decide +kernel, by decide +kernel, by decide +kernel, ⟨kw_464, pv_6⟩⟩
set_option maxRecDepth 20000 in
theorem mb_39 : Cond.code (yN 39) (cB 39) (mLoc 39) (rT 39) ∈ wsA ∧ Cond.initialized (yN 39).cls ∈ wsA ∧ (yN 39).cls ≠ "java/lang/invoke/MethodHandle" ∧ (yN 39).cls ≠ "java/lang/invoke/VarHandle" ∧ (parseMethodDescriptor (yN 39).desc).map (fun d => d.parameters.length) = some 0 ∧ Cond.instanceMethod (yN 39) ∈ wsA ∧ Cond.selects (yN 39).cls (yN 39) (yN 39) ∈ wsA := ⟨kw_517, kw_2, by decide +kernel, by decide +kernel, by decide +kernel, ⟨kw_516, pv_7⟩⟩
set_option maxRecDepth 20000 in
theorem mb_45 : Cond.code (yN 45) (cB 45) (mLoc 45) (rT 45) ∈ wsA ∧ Cond.initialized (yN 45).cls ∈ wsA ∧ (yN 45).cls ≠ "java/lang/invoke/MethodHandle" ∧ (yN 45).cls ≠ "java/lang/invoke/VarHandle" ∧ (parseMethodDescriptor (yN 45).desc).map (fun d => d.parameters.length) = some 0 ∧ Cond.instanceMethod (yN 45) ∈ wsA ∧ Cond.selects (yN 45).cls (yN 45) (yN 45) ∈ wsA := ⟨kw_526, kw_2, by decide +kernel, by decide +kernel, by decide +kernel, ⟨kw_525, pv_9⟩⟩
set_option maxRecDepth 20000 in
theorem mb_40 : Cond.code (yN 40) (cB 40) (mLoc 40) (rT 40) ∈ wsA ∧ Cond.initialized (yN 40).cls ∈ wsA ∧ (yN 40).cls ≠ "java/lang/invoke/MethodHandle" ∧ (yN 40).cls ≠ "java/lang/invoke/VarHandle" ∧ (parseMethodDescriptor (yN 40).desc).map (fun d => d.parameters.length) = some 1 ∧ Cond.instanceMethod (yN 40) ∈ wsA ∧ Cond.selects (yN 40).cls (yN 40) (yN 40) ∈ wsA := ⟨kw_535, kw_2, by decide +kernel, by decide +kernel, by decide +kernel, ⟨kw_534, pv_10⟩⟩
set_option maxRecDepth 20000 in
theorem mb_41 : Cond.code (yN 41) (cB 41) (mLoc 41) (rT 41) ∈ wsA ∧ Cond.initialized (yN 41).cls ∈ wsA ∧ (yN 41).cls ≠ "java/lang/invoke/MethodHandle" ∧ (yN 41).cls ≠ "java/lang/invoke/VarHandle" ∧ (parseMethodDescriptor (yN 41).desc).map (fun d => d.parameters.length) = some 0 ∧ Cond.instanceMethod (yN 41) ∈ wsA ∧ Cond.selects (yN 41).cls (yN 41) (yN 41) ∈ wsA := ⟨kw_555, kw_2, by decide +kernel, by decide +kernel, by decide +kernel, ⟨kw_554, pv_12⟩⟩
set_option maxRecDepth 20000 in
theorem mb_42 : Cond.code (yN 42) (cB 42) (mLoc 42) (rT 42) ∈ wsA ∧ Cond.initialized (yN 42).cls ∈ wsA ∧ (yN 42).cls ≠ "java/lang/invoke/MethodHandle" ∧ (yN 42).cls ≠ "java/lang/invoke/VarHandle" ∧ (parseMethodDescriptor (yN 42).desc).map (fun d => d.parameters.length) = some 0 ∧ Cond.instanceMethod (yN 42) ∈ wsA ∧ Cond.selects (yN 42).cls (yN 42) (yN 42) ∈ wsA := ⟨kw_571, kw_2, by decide +kernel, by decide +kernel, by decide +kernel, ⟨kw_570, pv_13⟩⟩
set_option maxRecDepth 20000 in
theorem mb_43 : Cond.code (yN 43) (cB 43) (mLoc 43) (rT 43) ∈ wsA ∧ Cond.initialized (yN 43).cls ∈ wsA ∧ (yN 43).cls ≠ "java/lang/invoke/MethodHandle" ∧ (yN 43).cls ≠ "java/lang/invoke/VarHandle" ∧ (parseMethodDescriptor (yN 43).desc).map (fun d => d.parameters.length) = some 2 ∧ Cond.instanceMethod (yN 43) ∈ wsA ∧ Cond.selects (yN 43).cls (yN 43) (yN 43) ∈ wsA := ⟨kw_522, kw_2, by decide +kernel, by decide +kernel, by decide +kernel, ⟨kw_521, pv_8⟩⟩
set_option maxRecDepth 20000 in
theorem mb_61 : Cond.code (yN 61) (cB 61) (mLoc 61) (rT 61) ∈ wsA ∧ Cond.initialized (yN 61).cls ∈ wsA ∧ (yN 61).cls ≠ "java/lang/invoke/MethodHandle" ∧ (yN 61).cls ≠ "java/lang/invoke/VarHandle" ∧ (parseMethodDescriptor (yN 61).desc).map (fun d => d.parameters.length) = some 0 ∧ Cond.instanceMethod (yN 61) ∈ wsA ∧ Cond.selects (yN 61).cls (yN 61) (yN 61) ∈ wsA := ⟨kw_539, kw_4, by decide +kernel, by decide +kernel, by decide +kernel, ⟨kw_537, kw_538⟩⟩
set_option maxRecDepth 20000 in
theorem mb_46 : Cond.code (yN 46) (cB 46) (mLoc 46) (rT 46) ∈ wsA ∧ Cond.initialized (yN 46).cls ∈ wsA ∧ (yN 46).cls ≠ "java/lang/invoke/MethodHandle" ∧ (yN 46).cls ≠ "java/lang/invoke/VarHandle" ∧ (parseMethodDescriptor (yN 46).desc).map (fun d => d.parameters.length) = some 0 ∧ Cond.instanceMethod (yN 46) ∈ wsA ∧ Cond.selects (yN 46).cls (yN 46) (yN 46) ∈ wsA := ⟨kw_543, kw_2, by decide +kernel, by decide +kernel, by decide +kernel, ⟨kw_542, pv_11⟩⟩
set_option maxRecDepth 20000 in
theorem mb_64 : Cond.code (yN 64) (cB 64) (mLoc 64) (rT 64) ∈ wsA ∧ Cond.initialized (yN 64).cls ∈ wsA ∧ (yN 64).cls ≠ "java/lang/invoke/MethodHandle" ∧ (yN 64).cls ≠ "java/lang/invoke/VarHandle" ∧ (parseMethodDescriptor (yN 64).desc).map (fun d => d.parameters.length) = some 6 ∧ Cond.instanceMethod (yN 64) ∈ wsA ∧ Cond.selects (yN 64).cls (yN 64) (yN 64) ∈ wsA := ⟨kw_551, kw_4, by decide +kernel, by decide +kernel, by decide +kernel, ⟨kw_549, kw_550⟩⟩
set_option maxRecDepth 20000 in
theorem mb_59 : Cond.code (yN 59) (cB 59) (mLoc 59) (rT 59) ∈ wsA ∧ Cond.initialized (yN 59).cls ∈ wsA ∧ (yN 59).cls ≠ "java/lang/invoke/MethodHandle" ∧ (yN 59).cls ≠ "java/lang/invoke/VarHandle" ∧ (parseMethodDescriptor (yN 59).desc).map (fun d => d.parameters.length) = some 1 ∧ Cond.instanceMethod (yN 59) ∈ wsA ∧ Cond.selects (yN 59).cls (yN 59) (yN 59) ∈ wsA := ⟨kw_559, kw_4, by decide +kernel, by decide +kernel, by decide +kernel, ⟨kw_557, kw_558⟩⟩
set_option maxRecDepth 20000 in
theorem mb_54 : Cond.code (yN 54) (cB 54) (mLoc 54) (rT 54) ∈ wsA ∧ Cond.initialized (yN 54).cls ∈ wsA ∧ (yN 54).cls ≠ "java/lang/invoke/MethodHandle" ∧ (yN 54).cls ≠ "java/lang/invoke/VarHandle" ∧ (parseMethodDescriptor (yN 54).desc).map (fun d => d.parameters.length) = some 1 ∧ Cond.instanceMethod (yN 54) ∈ wsA ∧ Cond.selects (yN 54).cls (yN 54) (yN 54) ∈ wsA := ⟨kw_563, kw_3, by decide +kernel, by decide +kernel, by decide +kernel, ⟨kw_561, kw_562⟩⟩
set_option maxRecDepth 20000 in
theorem mb_56 : Cond.code (yN 56) (cB 56) (mLoc 56) (rT 56) ∈ wsA ∧ Cond.initialized (yN 56).cls ∈ wsA ∧ (yN 56).cls ≠ "java/lang/invoke/MethodHandle" ∧ (yN 56).cls ≠ "java/lang/invoke/VarHandle" ∧ (parseMethodDescriptor (yN 56).desc).map (fun d => d.parameters.length) = some 2 ∧ Cond.instanceMethod (yN 56) ∈ wsA ∧ Cond.selects (yN 56).cls (yN 56) (yN 56) ∈ wsA := ⟨kw_567, kw_3, by decide +kernel, by decide +kernel, by decide +kernel, ⟨kw_565, kw_566⟩⟩
set_option maxRecDepth 20000 in
theorem mb_60 : Cond.code (yN 60) (cB 60) (mLoc 60) (rT 60) ∈ wsA ∧ Cond.initialized (yN 60).cls ∈ wsA ∧ (yN 60).cls ≠ "java/lang/invoke/MethodHandle" ∧ (yN 60).cls ≠ "java/lang/invoke/VarHandle" ∧ (parseMethodDescriptor (yN 60).desc).map (fun d => d.parameters.length) = some 1 ∧ Cond.instanceMethod (yN 60) ∈ wsA ∧ Cond.selects (yN 60).cls (yN 60) (yN 60) ∈ wsA := ⟨kw_575, kw_4, by decide +kernel, by decide +kernel, by decide +kernel, ⟨kw_573, kw_574⟩⟩
set_option maxRecDepth 20000 in
theorem mb_55 : Cond.code (yN 55) (cB 55) (mLoc 55) (rT 55) ∈ wsA ∧ Cond.initialized (yN 55).cls ∈ wsA ∧ (yN 55).cls ≠ "java/lang/invoke/MethodHandle" ∧ (yN 55).cls ≠ "java/lang/invoke/VarHandle" ∧ (parseMethodDescriptor (yN 55).desc).map (fun d => d.parameters.length) = some 1 ∧ Cond.instanceMethod (yN 55) ∈ wsA ∧ Cond.selects (yN 55).cls (yN 55) (yN 55) ∈ wsA := ⟨kw_580, kw_3, by decide +kernel, by decide +kernel, by decide +kernel, ⟨kw_578, kw_579⟩⟩
set_option maxRecDepth 20000 in
theorem mb_57 : Cond.code (yN 57) (cB 57) (mLoc 57) (rT 57) ∈ wsA ∧ Cond.initialized (yN 57).cls ∈ wsA ∧ (yN 57).cls ≠ "java/lang/invoke/MethodHandle" ∧ (yN 57).cls ≠ "java/lang/invoke/VarHandle" ∧ (parseMethodDescriptor (yN 57).desc).map (fun d => d.parameters.length) = some 2 ∧ Cond.instanceMethod (yN 57) ∈ wsA ∧ Cond.selects (yN 57).cls (yN 57) (yN 57) ∈ wsA := ⟨kw_587, kw_3, by decide +kernel, by decide +kernel, by decide +kernel, ⟨kw_585, kw_586⟩⟩
set_option maxRecDepth 20000 in
theorem mb_50 : Cond.code (yN 50) (cB 50) (mLoc 50) (rT 50) ∈ wsA ∧ Cond.initialized (yN 50).cls ∈ wsA ∧ (yN 50).cls ≠ "java/lang/invoke/MethodHandle" ∧ (yN 50).cls ≠ "java/lang/invoke/VarHandle" ∧ (parseMethodDescriptor (yN 50).desc).map (fun d => d.parameters.length) = some 1 ∧ Cond.static (yN 50) ∈ wsA := ⟨kw_445, kw_2, by decide +kernel, by decide +kernel, by decide +kernel, kw_444⟩
set_option maxRecDepth 20000 in
theorem mb_51 : Cond.code (yN 51) (cB 51) (mLoc 51) (rT 51) ∈ wsA ∧ Cond.initialized (yN 51).cls ∈ wsA ∧ (yN 51).cls ≠ "java/lang/invoke/MethodHandle" ∧ (yN 51).cls ≠ "java/lang/invoke/VarHandle" ∧ (parseMethodDescriptor (yN 51).desc).map (fun d => d.parameters.length) = some 1 ∧ Cond.static (yN 51) ∈ wsA := ⟨kw_448, kw_2, by decide +kernel, by decide +kernel, by decide +kernel, kw_447⟩
set_option maxRecDepth 20000 in
theorem mb_49 : Cond.code (yN 49) (cB 49) (mLoc 49) (rT 49) ∈ wsA ∧ Cond.initialized (yN 49).cls ∈ wsA ∧ (yN 49).cls ≠ "java/lang/invoke/MethodHandle" ∧ (yN 49).cls ≠ "java/lang/invoke/VarHandle" ∧ (parseMethodDescriptor (yN 49).desc).map (fun d => d.parameters.length) = some 0 ∧ Cond.instanceMethod (yN 49) ∈ wsA ∧ Cond.selects (yN 49).cls (yN 49) (yN 49) ∈ wsA := ⟨kw_452, kw_2, by decide +kernel, by decide +kernel, by decide +kernel, ⟨kw_451, pv_3⟩⟩
set_option maxRecDepth 20000 in
theorem mb_36 : Cond.code (yN 36) (cB 36) (mLoc 36) (rT 36) ∈ wsA ∧ Cond.initialized (yN 36).cls ∈ wsA ∧ (yN 36).cls ≠ "java/lang/invoke/MethodHandle" ∧ (yN 36).cls ≠ "java/lang/invoke/VarHandle" ∧ (parseMethodDescriptor (yN 36).desc).map (fun d => d.parameters.length) = some 0 ∧ Cond.instanceMethod (yN 36) ∈ wsA ∧ True := ⟨kw_35, kw_2, by decide +kernel, by decide +kernel, by decide +kernel, ⟨kw_34, trivial⟩⟩
set_option maxRecDepth 20000 in
theorem mb_52 : Cond.code (yN 52) (cB 52) (mLoc 52) (rT 52) ∈ wsA ∧ Cond.initialized (yN 52).cls ∈ wsA ∧ (yN 52).cls ≠ "java/lang/invoke/MethodHandle" ∧ (yN 52).cls ≠ "java/lang/invoke/VarHandle" ∧ (parseMethodDescriptor (yN 52).desc).map (fun d => d.parameters.length) = some 0 ∧ Cond.instanceMethod (yN 52) ∈ wsA ∧ True := ⟨kw_72, kw_3, by decide +kernel, by decide +kernel, by decide +kernel, ⟨kw_71, trivial⟩⟩
set_option maxRecDepth 20000 in
theorem mb_0 : Cond.code (yN 0) (cB 0) (mLoc 0) (rT 0) ∈ wsA ∧ Cond.initialized (yN 0).cls ∈ wsA ∧ (yN 0).cls ≠ "java/lang/invoke/MethodHandle" ∧ (yN 0).cls ≠ "java/lang/invoke/VarHandle" ∧ (parseMethodDescriptor (yN 0).desc).map (fun d => d.parameters.length) = some 0 ∧ Cond.instanceMethod (yN 0) ∈ wsA ∧ True := ⟨kw_170, kw_5, by decide +kernel, by decide +kernel, by decide +kernel, ⟨kw_169, trivial⟩⟩
set_option maxRecDepth 20000 in
theorem mb_20 : Cond.code (yN 20) (cB 20) (mLoc 20) (rT 20) ∈ wsA ∧ Cond.initialized (yN 20).cls ∈ wsA ∧ (yN 20).cls ≠ "java/lang/invoke/MethodHandle" ∧ (yN 20).cls ≠ "java/lang/invoke/VarHandle" ∧ (parseMethodDescriptor (yN 20).desc).map (fun d => d.parameters.length) = some 0 ∧ Cond.instanceMethod (yN 20) ∈ wsA ∧ True := ⟨kw_329, kw_9, by decide +kernel, by decide +kernel, by decide +kernel, ⟨kw_328, trivial⟩⟩
set_option maxRecDepth 20000 in
theorem mb_15 : Cond.code (yN 15) (cB 15) (mLoc 15) (rT 15) ∈ wsA ∧ Cond.initialized (yN 15).cls ∈ wsA ∧ (yN 15).cls ≠ "java/lang/invoke/MethodHandle" ∧ (yN 15).cls ≠ "java/lang/invoke/VarHandle" ∧ (parseMethodDescriptor (yN 15).desc).map (fun d => d.parameters.length) = some 0 ∧ Cond.instanceMethod (yN 15) ∈ wsA ∧ True := ⟨kw_346, kw_10, by decide +kernel, by decide +kernel, by decide +kernel, ⟨kw_345, trivial⟩⟩
set_option maxRecDepth 20000 in
theorem mb_68 : Cond.code (yN 68) (cB 68) (mLoc 68) (rT 68) ∈ wsA ∧ Cond.initialized (yN 68).cls ∈ wsA ∧ (yN 68).cls ≠ "java/lang/invoke/MethodHandle" ∧ (yN 68).cls ≠ "java/lang/invoke/VarHandle" ∧ (parseMethodDescriptor (yN 68).desc).map (fun d => d.parameters.length) = some 1 ∧ Cond.instanceMethod (yN 68) ∈ wsA ∧ Cond.selects (yN 68).cls (yN 68) (yN 68) ∈ wsA := ⟨kw_419, kw_1, by decide +kernel, by decide +kernel, by decide +kernel, ⟨kw_418, pv_0⟩⟩
set_option maxRecDepth 20000 in
theorem mb_129 : Cond.code (yN 129) (cB 129) (mLoc 129) (rT 129) ∈ wsA ∧ Cond.initialized (yN 129).cls ∈ wsA ∧ (yN 129).cls ≠ "java/lang/invoke/MethodHandle" ∧ (yN 129).cls ≠ "java/lang/invoke/VarHandle" ∧ (parseMethodDescriptor (yN 129).desc).map (fun d => d.parameters.length) = some 1 ∧ Cond.instanceMethod (yN 129) ∈ wsA ∧ Cond.selects (yN 129).cls (yN 129) (yN 129) ∈ wsA := ⟨kw_427, kw_1, by decide +kernel, by decide +kernel, by decide +kernel, ⟨kw_426, pv_1⟩⟩
set_option maxRecDepth 20000 in
theorem mb_37 : Cond.code (yN 37) (cB 37) (mLoc 37) (rT 37) ∈ wsA ∧ Cond.initialized (yN 37).cls ∈ wsA ∧ (yN 37).cls ≠ "java/lang/invoke/MethodHandle" ∧ (yN 37).cls ≠ "java/lang/invoke/VarHandle" ∧ (parseMethodDescriptor (yN 37).desc).map (fun d => d.parameters.length) = some 3 ∧ Cond.instanceMethod (yN 37) ∈ wsA ∧ Cond.selects (yN 37).cls (yN 37) (yN 37) ∈ wsA := ⟨kw_431, kw_2, by decide +kernel, by decide +kernel, by decide +kernel, ⟨kw_429, kw_430⟩⟩
set_option maxRecDepth 20000 in
theorem mb_70 : Cond.code (yN 70) (cB 70) (mLoc 70) (rT 70) ∈ wsA ∧ Cond.initialized (yN 70).cls ∈ wsA ∧ (yN 70).cls ≠ "java/lang/invoke/MethodHandle" ∧ (yN 70).cls ≠ "java/lang/invoke/VarHandle" ∧ (parseMethodDescriptor (yN 70).desc).map (fun d => d.parameters.length) = some 2 ∧ Cond.instanceMethod (yN 70) ∈ wsA ∧ Cond.selects (yN 70).cls (yN 70) (yN 70) ∈ wsA := ⟨kw_591, kw_1, by decide +kernel, by decide +kernel, by decide +kernel, ⟨kw_590, pv_14⟩⟩
set_option maxRecDepth 20000 in
theorem mb_1 : Cond.code (yN 1) (cB 1) (mLoc 1) (rT 1) ∈ wsA ∧ Cond.initialized (yN 1).cls ∈ wsA ∧ (yN 1).cls ≠ "java/lang/invoke/MethodHandle" ∧ (yN 1).cls ≠ "java/lang/invoke/VarHandle" ∧ (parseMethodDescriptor (yN 1).desc).map (fun d => d.parameters.length) = some 3 ∧ Cond.instanceMethod (yN 1) ∈ wsA ∧ Cond.selects (yN 1).cls (yN 1) (yN 1) ∈ wsA := ⟨kw_595, kw_5, by decide +kernel, by decide +kernel, by decide +kernel, ⟨kw_593, kw_594⟩⟩
set_option maxRecDepth 20000 in
theorem mb_71 : Cond.code (yN 71) (cB 71) (mLoc 71) (rT 71) ∈ wsA ∧ Cond.initialized (yN 71).cls ∈ wsA ∧ (yN 71).cls ≠ "java/lang/invoke/MethodHandle" ∧ (yN 71).cls ≠ "java/lang/invoke/VarHandle" ∧ (parseMethodDescriptor (yN 71).desc).map (fun d => d.parameters.length) = some 0 ∧ Cond.instanceMethod (yN 71) ∈ wsA ∧ Cond.selects (yN 71).cls (yN 71) (yN 71) ∈ wsA := ⟨kw_663, kw_1, by decide +kernel, by decide +kernel, by decide +kernel, ⟨kw_662, pv_22⟩⟩
set_option maxRecDepth 20000 in
theorem mb_72 : Cond.code (yN 72) (cB 72) (mLoc 72) (rT 72) ∈ wsA ∧ Cond.initialized (yN 72).cls ∈ wsA ∧ (yN 72).cls ≠ "java/lang/invoke/MethodHandle" ∧ (yN 72).cls ≠ "java/lang/invoke/VarHandle" ∧ (parseMethodDescriptor (yN 72).desc).map (fun d => d.parameters.length) = some 0 ∧ Cond.instanceMethod (yN 72) ∈ wsA ∧ Cond.selects (yN 72).cls (yN 72) (yN 72) ∈ wsA := ⟨kw_675, kw_1, by decide +kernel, by decide +kernel, by decide +kernel, ⟨kw_674, pv_23⟩⟩
set_option maxRecDepth 20000 in
theorem mb_130 : Cond.code (yN 130) (cB 130) (mLoc 130) (rT 130) ∈ wsA ∧ Cond.initialized (yN 130).cls ∈ wsA ∧ (yN 130).cls ≠ "java/lang/invoke/MethodHandle" ∧ (yN 130).cls ≠ "java/lang/invoke/VarHandle" ∧ (parseMethodDescriptor (yN 130).desc).map (fun d => d.parameters.length) = some 1 ∧ Cond.instanceMethod (yN 130) ∈ wsA ∧ Cond.selects (yN 130).cls (yN 130) (yN 130) ∈ wsA := ⟨kw_700, kw_1, by decide +kernel, by decide +kernel, by decide +kernel, ⟨kw_699, pv_24⟩⟩
set_option maxRecDepth 20000 in
theorem mb_30 : Cond.code (yN 30) (cB 30) (mLoc 30) (rT 30) ∈ wsA ∧ Cond.initialized (yN 30).cls ∈ wsA ∧ (yN 30).cls ≠ "java/lang/invoke/MethodHandle" ∧ (yN 30).cls ≠ "java/lang/invoke/VarHandle" ∧ (parseMethodDescriptor (yN 30).desc).map (fun d => d.parameters.length) = some 0 ∧ Cond.instanceMethod (yN 30) ∈ wsA ∧ Cond.selects (yN 30).cls (yN 30) (yN 30) ∈ wsA := ⟨kw_709, kw_7, by decide +kernel, by decide +kernel, by decide +kernel, ⟨kw_707, kw_708⟩⟩
set_option maxRecDepth 20000 in
theorem mb_131 : Cond.code (yN 131) (cB 131) (mLoc 131) (rT 131) ∈ wsA ∧ Cond.initialized (yN 131).cls ∈ wsA ∧ (yN 131).cls ≠ "java/lang/invoke/MethodHandle" ∧ (yN 131).cls ≠ "java/lang/invoke/VarHandle" ∧ (parseMethodDescriptor (yN 131).desc).map (fun d => d.parameters.length) = some 2 ∧ Cond.instanceMethod (yN 131) ∈ wsA ∧ Cond.selects (yN 131).cls (yN 131) (yN 131) ∈ wsA := ⟨kw_721, kw_1, by decide +kernel, by decide +kernel, by decide +kernel, ⟨kw_720, pv_25⟩⟩
set_option maxRecDepth 20000 in
theorem mb_83 : Cond.code (yN 83) (cB 83) (mLoc 83) (rT 83) ∈ wsA ∧ Cond.initialized (yN 83).cls ∈ wsA ∧ (yN 83).cls ≠ "java/lang/invoke/MethodHandle" ∧ (yN 83).cls ≠ "java/lang/invoke/VarHandle" ∧ (parseMethodDescriptor (yN 83).desc).map (fun d => d.parameters.length) = some 2 ∧ Cond.static (yN 83) ∈ wsA := ⟨kw_732, kw_1, by decide +kernel, by decide +kernel, by decide +kernel, kw_731⟩
set_option maxRecDepth 20000 in
theorem mb_133 : Cond.code (yN 133) (cB 133) (mLoc 133) (rT 133) ∈ wsA ∧ Cond.initialized (yN 133).cls ∈ wsA ∧ (yN 133).cls ≠ "java/lang/invoke/MethodHandle" ∧ (yN 133).cls ≠ "java/lang/invoke/VarHandle" ∧ (parseMethodDescriptor (yN 133).desc).map (fun d => d.parameters.length) = some 3 ∧ Cond.static (yN 133) ∈ wsA := ⟨kw_739, kw_1, by decide +kernel, by decide +kernel, by decide +kernel, kw_738⟩
set_option maxRecDepth 20000 in
theorem mb_31 : Cond.code (yN 31) (cB 31) (mLoc 31) (rT 31) ∈ wsA ∧ Cond.initialized (yN 31).cls ∈ wsA ∧ (yN 31).cls ≠ "java/lang/invoke/MethodHandle" ∧ (yN 31).cls ≠ "java/lang/invoke/VarHandle" ∧ (parseMethodDescriptor (yN 31).desc).map (fun d => d.parameters.length) = some 0 ∧ Cond.instanceMethod (yN 31) ∈ wsA ∧ Cond.selects (yN 31).cls (yN 31) (yN 31) ∈ wsA := ⟨kw_747, kw_7, by decide +kernel, by decide +kernel, by decide +kernel, ⟨kw_745, kw_746⟩⟩
set_option maxRecDepth 20000 in
theorem mb_11 : Cond.code (yN 11) (cB 11) (mLoc 11) (rT 11) ∈ wsA ∧ Cond.initialized (yN 11).cls ∈ wsA ∧ (yN 11).cls ≠ "java/lang/invoke/MethodHandle" ∧ (yN 11).cls ≠ "java/lang/invoke/VarHandle" ∧ (parseMethodDescriptor (yN 11).desc).map (fun d => d.parameters.length) = some 1 ∧ Cond.instanceMethod (yN 11) ∈ wsA ∧ Cond.selects (yN 11).cls (yN 11) (yN 11) ∈ wsA := ⟨kw_758, kw_5, by decide +kernel, by decide +kernel, by decide +kernel, ⟨kw_756, kw_757⟩⟩
set_option maxRecDepth 20000 in
theorem mb_12 : Cond.code (yN 12) (cB 12) (mLoc 12) (rT 12) ∈ wsA ∧ Cond.initialized (yN 12).cls ∈ wsA ∧ (yN 12).cls ≠ "java/lang/invoke/MethodHandle" ∧ (yN 12).cls ≠ "java/lang/invoke/VarHandle" ∧ (parseMethodDescriptor (yN 12).desc).map (fun d => d.parameters.length) = some 1 ∧ Cond.instanceMethod (yN 12) ∈ wsA ∧ Cond.selects (yN 12).cls (yN 12) (yN 12) ∈ wsA := ⟨kw_770, kw_5, by decide +kernel, by decide +kernel, by decide +kernel, ⟨kw_768, kw_769⟩⟩
set_option maxRecDepth 20000 in
theorem mb_132 : Cond.code (yN 132) (cB 132) (mLoc 132) (rT 132) ∈ wsA ∧ Cond.initialized (yN 132).cls ∈ wsA ∧ (yN 132).cls ≠ "java/lang/invoke/MethodHandle" ∧ (yN 132).cls ≠ "java/lang/invoke/VarHandle" ∧ (parseMethodDescriptor (yN 132).desc).map (fun d => d.parameters.length) = some 2 ∧ Cond.instanceMethod (yN 132) ∈ wsA ∧ Cond.selects (yN 132).cls (yN 132) (yN 132) ∈ wsA := ⟨kw_786, kw_1, by decide +kernel, by decide +kernel, by decide +kernel, ⟨kw_785, pv_26⟩⟩
set_option maxRecDepth 20000 in
theorem mb_13 : Cond.code (yN 13) (cB 13) (mLoc 13) (rT 13) ∈ wsA ∧ Cond.initialized (yN 13).cls ∈ wsA ∧ (yN 13).cls ≠ "java/lang/invoke/MethodHandle" ∧ (yN 13).cls ≠ "java/lang/invoke/VarHandle" ∧ (parseMethodDescriptor (yN 13).desc).map (fun d => d.parameters.length) = some 0 ∧ Cond.instanceMethod (yN 13) ∈ wsA ∧ Cond.selects (yN 13).cls (yN 13) (yN 13) ∈ wsA := ⟨kw_798, kw_5, by decide +kernel, by decide +kernel, by decide +kernel, ⟨kw_796, kw_797⟩⟩
set_option maxRecDepth 20000 in
theorem mb_14 : Cond.code (yN 14) (cB 14) (mLoc 14) (rT 14) ∈ wsA ∧ Cond.initialized (yN 14).cls ∈ wsA ∧ (yN 14).cls ≠ "java/lang/invoke/MethodHandle" ∧ (yN 14).cls ≠ "java/lang/invoke/VarHandle" ∧ (parseMethodDescriptor (yN 14).desc).map (fun d => d.parameters.length) = some 0 ∧ Cond.instanceMethod (yN 14) ∈ wsA ∧ Cond.selects (yN 14).cls (yN 14) (yN 14) ∈ wsA := ⟨kw_806, kw_5, by decide +kernel, by decide +kernel, by decide +kernel, ⟨kw_804, kw_805⟩⟩
set_option maxRecDepth 20000 in
theorem mb_98 : Cond.code (yN 98) (cB 98) (mLoc 98) (rT 98) ∈ wsA ∧ Cond.initialized (yN 98).cls ∈ wsA ∧ (yN 98).cls ≠ "java/lang/invoke/MethodHandle" ∧ (yN 98).cls ≠ "java/lang/invoke/VarHandle" ∧ (parseMethodDescriptor (yN 98).desc).map (fun d => d.parameters.length) = some 1 ∧ Cond.instanceMethod (yN 98) ∈ wsA ∧ Cond.selects (yN 98).cls (yN 98) (yN 98) ∈ wsA := ⟨kw_822, kw_1, by decide +kernel, by decide +kernel, by decide +kernel, ⟨kw_821, pv_27⟩⟩
set_option maxRecDepth 20000 in
theorem mb_109 : Cond.code (yN 109) (cB 109) (mLoc 109) (rT 109) ∈ wsA ∧ Cond.initialized (yN 109).cls ∈ wsA ∧ (yN 109).cls ≠ "java/lang/invoke/MethodHandle" ∧ (yN 109).cls ≠ "java/lang/invoke/VarHandle" ∧ (parseMethodDescriptor (yN 109).desc).map (fun d => d.parameters.length) = some 0 ∧ Cond.instanceMethod (yN 109) ∈ wsA ∧ Cond.selects (yN 109).cls (yN 109) (yN 109) ∈ wsA := ⟨kw_850, kw_1, by decide +kernel, by decide +kernel, by decide +kernel, ⟨kw_849, pv_28⟩⟩
set_option maxRecDepth 20000 in
theorem mb_16 : Cond.code (yN 16) (cB 16) (mLoc 16) (rT 16) ∈ wsA ∧ Cond.initialized (yN 16).cls ∈ wsA ∧ (yN 16).cls ≠ "java/lang/invoke/MethodHandle" ∧ (yN 16).cls ≠ "java/lang/invoke/VarHandle" ∧ (parseMethodDescriptor (yN 16).desc).map (fun d => d.parameters.length) = some 0 ∧ Cond.instanceMethod (yN 16) ∈ wsA ∧ Cond.selects (yN 16).cls (yN 16) (yN 16) ∈ wsA := ⟨kw_870, kw_10, by decide +kernel, by decide +kernel, by decide +kernel, ⟨kw_868, kw_869⟩⟩
set_option maxRecDepth 20000 in
theorem mb_17 : Cond.code (yN 17) (cB 17) (mLoc 17) (rT 17) ∈ wsA ∧ Cond.initialized (yN 17).cls ∈ wsA ∧ (yN 17).cls ≠ "java/lang/invoke/MethodHandle" ∧ (yN 17).cls ≠ "java/lang/invoke/VarHandle" ∧ (parseMethodDescriptor (yN 17).desc).map (fun d => d.parameters.length) = some 0 ∧ Cond.instanceMethod (yN 17) ∈ wsA ∧ Cond.selects (yN 17).cls (yN 17) (yN 17) ∈ wsA := ⟨kw_878, kw_10, by decide +kernel, by decide +kernel, by decide +kernel, ⟨kw_876, kw_877⟩⟩
set_option maxRecDepth 20000 in
theorem mb_19 : Cond.code (yN 19) (cB 19) (mLoc 19) (rT 19) ∈ wsA ∧ Cond.initialized (yN 19).cls ∈ wsA ∧ (yN 19).cls ≠ "java/lang/invoke/MethodHandle" ∧ (yN 19).cls ≠ "java/lang/invoke/VarHandle" ∧ (parseMethodDescriptor (yN 19).desc).map (fun d => d.parameters.length) = some 1 ∧ Cond.instanceMethod (yN 19) ∈ wsA ∧ Cond.selects (yN 19).cls (yN 19) (yN 19) ∈ wsA := ⟨kw_886, kw_10, by decide +kernel, by decide +kernel, by decide +kernel, ⟨kw_884, kw_885⟩⟩
set_option maxRecDepth 20000 in
theorem mb_111 : Cond.code (yN 111) (cB 111) (mLoc 111) (rT 111) ∈ wsA ∧ Cond.initialized (yN 111).cls ∈ wsA ∧ (yN 111).cls ≠ "java/lang/invoke/MethodHandle" ∧ (yN 111).cls ≠ "java/lang/invoke/VarHandle" ∧ (parseMethodDescriptor (yN 111).desc).map (fun d => d.parameters.length) = some 0 ∧ Cond.instanceMethod (yN 111) ∈ wsA ∧ Cond.selects (yN 111).cls (yN 111) (yN 111) ∈ wsA := ⟨kw_858, kw_1, by decide +kernel, by decide +kernel, by decide +kernel, ⟨kw_857, pv_30⟩⟩
set_option maxRecDepth 20000 in
theorem mb_110 : Cond.code (yN 110) (cB 110) (mLoc 110) (rT 110) ∈ wsA ∧ Cond.initialized (yN 110).cls ∈ wsA ∧ (yN 110).cls ≠ "java/lang/invoke/MethodHandle" ∧ (yN 110).cls ≠ "java/lang/invoke/VarHandle" ∧ (parseMethodDescriptor (yN 110).desc).map (fun d => d.parameters.length) = some 1 ∧ Cond.instanceMethod (yN 110) ∈ wsA ∧ Cond.selects (yN 110).cls (yN 110) (yN 110) ∈ wsA := ⟨kw_854, kw_1, by decide +kernel, by decide +kernel, by decide +kernel, ⟨kw_853, pv_29⟩⟩
set_option maxRecDepth 20000 in
theorem mb_114 : Cond.code (yN 114) (cB 114) (mLoc 114) (rT 114) ∈ wsA ∧ Cond.initialized (yN 114).cls ∈ wsA ∧ (yN 114).cls ≠ "java/lang/invoke/MethodHandle" ∧ (yN 114).cls ≠ "java/lang/invoke/VarHandle" ∧ (parseMethodDescriptor (yN 114).desc).map (fun d => d.parameters.length) = some 2 ∧ Cond.instanceMethod (yN 114) ∈ wsA ∧ Cond.selects (yN 114).cls (yN 114) (yN 114) ∈ wsA := ⟨kw_909, kw_1, by decide +kernel, by decide +kernel, by decide +kernel, ⟨kw_908, pv_31⟩⟩
set_option maxRecDepth 20000 in
theorem mb_62 : Cond.code (yN 62) (cB 62) (mLoc 62) (rT 62) ∈ wsA ∧ Cond.initialized (yN 62).cls ∈ wsA ∧ (yN 62).cls ≠ "java/lang/invoke/MethodHandle" ∧ (yN 62).cls ≠ "java/lang/invoke/VarHandle" ∧ (parseMethodDescriptor (yN 62).desc).map (fun d => d.parameters.length) = some 0 ∧ Cond.instanceMethod (yN 62) ∈ wsA ∧ Cond.selects (yN 62).cls (yN 62) (yN 62) ∈ wsA := ⟨kw_913, kw_4, by decide +kernel, by decide +kernel, by decide +kernel, ⟨kw_911, kw_912⟩⟩
set_option maxRecDepth 20000 in
theorem mb_115 : Cond.code (yN 115) (cB 115) (mLoc 115) (rT 115) ∈ wsA ∧ Cond.initialized (yN 115).cls ∈ wsA ∧ (yN 115).cls ≠ "java/lang/invoke/MethodHandle" ∧ (yN 115).cls ≠ "java/lang/invoke/VarHandle" ∧ (parseMethodDescriptor (yN 115).desc).map (fun d => d.parameters.length) = some 1 ∧ Cond.static (yN 115) ∈ wsA := ⟨kw_917, kw_1, by decide +kernel, by decide +kernel, by decide +kernel, kw_916⟩
set_option maxRecDepth 20000 in
theorem mb_119 : Cond.code (yN 119) (cB 119) (mLoc 119) (rT 119) ∈ wsA ∧ Cond.initialized (yN 119).cls ∈ wsA ∧ (yN 119).cls ≠ "java/lang/invoke/MethodHandle" ∧ (yN 119).cls ≠ "java/lang/invoke/VarHandle" ∧ (parseMethodDescriptor (yN 119).desc).map (fun d => d.parameters.length) = some 6 ∧ Cond.instanceMethod (yN 119) ∈ wsA ∧ Cond.selects (yN 119).cls (yN 119) (yN 119) ∈ wsA := ⟨kw_932, kw_1, by decide +kernel, by decide +kernel, by decide +kernel, ⟨kw_931, pv_32⟩⟩
set_option maxRecDepth 20000 in
theorem mb_122 : Cond.code (yN 122) (cB 122) (mLoc 122) (rT 122) ∈ wsA ∧ Cond.initialized (yN 122).cls ∈ wsA ∧ (yN 122).cls ≠ "java/lang/invoke/MethodHandle" ∧ (yN 122).cls ≠ "java/lang/invoke/VarHandle" ∧ (parseMethodDescriptor (yN 122).desc).map (fun d => d.parameters.length) = some 0 ∧ Cond.instanceMethod (yN 122) ∈ wsA ∧ Cond.selects (yN 122).cls (yN 122) (yN 122) ∈ wsA := ⟨kw_937, kw_1, by decide +kernel, by decide +kernel, by decide +kernel, ⟨kw_936, pv_33⟩⟩
set_option maxRecDepth 20000 in
theorem mb_65 : Cond.code (yN 65) (cB 65) (mLoc 65) (rT 65) ∈ wsA ∧ Cond.initialized (yN 65).cls ∈ wsA ∧ (yN 65).cls ≠ "java/lang/invoke/MethodHandle" ∧ (yN 65).cls ≠ "java/lang/invoke/VarHandle" ∧ (parseMethodDescriptor (yN 65).desc).map (fun d => d.parameters.length) = some 1 ∧ Cond.instanceMethod (yN 65) ∈ wsA ∧ Cond.selects (yN 65).cls (yN 65) (yN 65) ∈ wsA := ⟨kw_959, kw_4, by decide +kernel, by decide +kernel, by decide +kernel, ⟨kw_957, kw_958⟩⟩
set_option maxRecDepth 20000 in
theorem mb_21 : Cond.code (yN 21) (cB 21) (mLoc 21) (rT 21) ∈ wsA ∧ Cond.initialized (yN 21).cls ∈ wsA ∧ (yN 21).cls ≠ "java/lang/invoke/MethodHandle" ∧ (yN 21).cls ≠ "java/lang/invoke/VarHandle" ∧ (parseMethodDescriptor (yN 21).desc).map (fun d => d.parameters.length) = some 1 ∧ Cond.instanceMethod (yN 21) ∈ wsA ∧ Cond.selects (yN 21).cls (yN 21) (yN 21) ∈ wsA := ⟨kw_941, kw_9, by decide +kernel, by decide +kernel, by decide +kernel, ⟨kw_939, kw_940⟩⟩
set_option maxRecDepth 20000 in
theorem mb_22 : Cond.code (yN 22) (cB 22) (mLoc 22) (rT 22) ∈ wsA ∧ Cond.initialized (yN 22).cls ∈ wsA ∧ (yN 22).cls ≠ "java/lang/invoke/MethodHandle" ∧ (yN 22).cls ≠ "java/lang/invoke/VarHandle" ∧ (parseMethodDescriptor (yN 22).desc).map (fun d => d.parameters.length) = some 1 ∧ Cond.instanceMethod (yN 22) ∈ wsA ∧ Cond.selects (yN 22).cls (yN 22) (yN 22) ∈ wsA := ⟨kw_971, kw_9, by decide +kernel, by decide +kernel, by decide +kernel, ⟨kw_969, kw_970⟩⟩
set_option maxRecDepth 20000 in
theorem mb_138 : Cond.code (yN 138) (cB 138) (mLoc 138) (rT 138) ∈ wsA ∧ Cond.initialized (yN 138).cls ∈ wsA ∧ (yN 138).cls ≠ "java/lang/invoke/MethodHandle" ∧ (yN 138).cls ≠ "java/lang/invoke/VarHandle" ∧ (parseMethodDescriptor (yN 138).desc).map (fun d => d.parameters.length) = some 1 ∧ Cond.instanceMethod (yN 138) ∈ wsA ∧ Cond.selects (yN 138).cls (yN 138) (yN 138) ∈ wsA := ⟨kw_1237, kw_11, by decide +kernel, by decide +kernel, by decide +kernel, ⟨kw_1236, pv_35⟩⟩
set_option maxRecDepth 20000 in
theorem mb_140 : Cond.code (yN 140) (cB 140) (mLoc 140) (rT 140) ∈ wsA ∧ Cond.initialized (yN 140).cls ∈ wsA ∧ (yN 140).cls ≠ "java/lang/invoke/MethodHandle" ∧ (yN 140).cls ≠ "java/lang/invoke/VarHandle" ∧ (parseMethodDescriptor (yN 140).desc).map (fun d => d.parameters.length) = some 1 ∧ Cond.instanceMethod (yN 140) ∈ wsA ∧ Cond.selects (yN 140).cls (yN 140) (yN 140) ∈ wsA := ⟨kw_1480, kw_11, by decide +kernel, by decide +kernel, by decide +kernel, ⟨kw_1479, pv_75⟩⟩
set_option maxRecDepth 20000 in
theorem mb_144 : Cond.code (yN 144) (cB 144) (mLoc 144) (rT 144) ∈ wsA ∧ Cond.initialized (yN 144).cls ∈ wsA ∧ (yN 144).cls ≠ "java/lang/invoke/MethodHandle" ∧ (yN 144).cls ≠ "java/lang/invoke/VarHandle" ∧ (parseMethodDescriptor (yN 144).desc).map (fun d => d.parameters.length) = some 2 ∧ Cond.static (yN 144) ∈ wsA := ⟨kw_1551, kw_11, by decide +kernel, by decide +kernel, by decide +kernel, kw_1550⟩
set_option maxRecDepth 20000 in
theorem mb_146 : Cond.code (yN 146) (cB 146) (mLoc 146) (rT 146) ∈ wsA ∧ Cond.initialized (yN 146).cls ∈ wsA ∧ (yN 146).cls ≠ "java/lang/invoke/MethodHandle" ∧ (yN 146).cls ≠ "java/lang/invoke/VarHandle" ∧ (parseMethodDescriptor (yN 146).desc).map (fun d => d.parameters.length) = some 3 ∧ Cond.static (yN 146) ∈ wsA := ⟨kw_1377, kw_11, by decide +kernel, by decide +kernel, by decide +kernel, kw_1376⟩
set_option maxRecDepth 20000 in
theorem mb_149 : Cond.code (yN 149) (cB 149) (mLoc 149) (rT 149) ∈ wsA ∧ Cond.initialized (yN 149).cls ∈ wsA ∧ (yN 149).cls ≠ "java/lang/invoke/MethodHandle" ∧ (yN 149).cls ≠ "java/lang/invoke/VarHandle" ∧ (parseMethodDescriptor (yN 149).desc).map (fun d => d.parameters.length) = some 1 ∧ Cond.instanceMethod (yN 149) ∈ wsA ∧ Cond.selects (yN 149).cls (yN 149) (yN 149) ∈ wsA := ⟨kw_1284, kw_11, by decide +kernel, by decide +kernel, by decide +kernel, ⟨kw_1283, pv_37⟩⟩
set_option maxRecDepth 20000 in
theorem mb_150 : Cond.code (yN 150) (cB 150) (mLoc 150) (rT 150) ∈ wsA ∧ Cond.initialized (yN 150).cls ∈ wsA ∧ (yN 150).cls ≠ "java/lang/invoke/MethodHandle" ∧ (yN 150).cls ≠ "java/lang/invoke/VarHandle" ∧ (parseMethodDescriptor (yN 150).desc).map (fun d => d.parameters.length) = some 1 ∧ Cond.static (yN 150) ∈ wsA := ⟨kw_1287, kw_11, by decide +kernel, by decide +kernel, by decide +kernel, kw_1286⟩
set_option maxRecDepth 20000 in
theorem mb_151 : Cond.code (yN 151) (cB 151) (mLoc 151) (rT 151) ∈ wsA ∧ Cond.initialized (yN 151).cls ∈ wsA ∧ (yN 151).cls ≠ "java/lang/invoke/MethodHandle" ∧ (yN 151).cls ≠ "java/lang/invoke/VarHandle" ∧ (parseMethodDescriptor (yN 151).desc).map (fun d => d.parameters.length) = some 1 ∧ Cond.static (yN 151) ∈ wsA := ⟨kw_1291, kw_11, by decide +kernel, by decide +kernel, by decide +kernel, kw_1290⟩
set_option maxRecDepth 20000 in
theorem mb_152 : Cond.code (yN 152) (cB 152) (mLoc 152) (rT 152) ∈ wsA ∧ Cond.initialized (yN 152).cls ∈ wsA ∧ (yN 152).cls ≠ "java/lang/invoke/MethodHandle" ∧ (yN 152).cls ≠ "java/lang/invoke/VarHandle" ∧ (parseMethodDescriptor (yN 152).desc).map (fun d => d.parameters.length) = some 1 ∧ Cond.static (yN 152) ∈ wsA := ⟨kw_1307, kw_11, by decide +kernel, by decide +kernel, by decide +kernel, kw_1306⟩
set_option maxRecDepth 20000 in
theorem mb_153 : Cond.code (yN 153) (cB 153) (mLoc 153) (rT 153) ∈ wsA ∧ Cond.initialized (yN 153).cls ∈ wsA ∧ (yN 153).cls ≠ "java/lang/invoke/MethodHandle" ∧ (yN 153).cls ≠ "java/lang/invoke/VarHandle" ∧ (parseMethodDescriptor (yN 153).desc).map (fun d => d.parameters.length) = some 0 ∧ Cond.instanceMethod (yN 153) ∈ wsA ∧ Cond.selects (yN 153).cls (yN 153) (yN 153) ∈ wsA := ⟨kw_1280, kw_11, by decide +kernel, by decide +kernel, by decide +kernel, ⟨kw_1279, pv_36⟩⟩
set_option maxRecDepth 20000 in
theorem mb_156 : Cond.code (yN 156) (cB 156) (mLoc 156) (rT 156) ∈ wsA ∧ Cond.initialized (yN 156).cls ∈ wsA ∧ (yN 156).cls ≠ "java/lang/invoke/MethodHandle" ∧ (yN 156).cls ≠ "java/lang/invoke/VarHandle" ∧ (parseMethodDescriptor (yN 156).desc).map (fun d => d.parameters.length) = some 1 ∧ Cond.instanceMethod (yN 156) ∈ wsA ∧ Cond.selects (yN 156).cls (yN 156) (yN 156) ∈ wsA := ⟨kw_1304, kw_11, by decide +kernel, by decide +kernel, by decide +kernel, ⟨kw_1303, pv_40⟩⟩
set_option maxRecDepth 20000 in
theorem mb_155 : Cond.code (yN 155) (cB 155) (mLoc 155) (rT 155) ∈ wsA ∧ Cond.initialized (yN 155).cls ∈ wsA ∧ (yN 155).cls ≠ "java/lang/invoke/MethodHandle" ∧ (yN 155).cls ≠ "java/lang/invoke/VarHandle" ∧ (parseMethodDescriptor (yN 155).desc).map (fun d => d.parameters.length) = some 1 ∧ Cond.instanceMethod (yN 155) ∈ wsA ∧ Cond.selects (yN 155).cls (yN 155) (yN 155) ∈ wsA := ⟨kw_1317, kw_11, by decide +kernel, by decide +kernel, by decide +kernel, ⟨kw_1316, pv_42⟩⟩
set_option maxRecDepth 20000 in
theorem mb_142 : Cond.code (yN 142) (cB 142) (mLoc 142) (rT 142) ∈ wsA ∧ Cond.initialized (yN 142).cls ∈ wsA ∧ (yN 142).cls ≠ "java/lang/invoke/MethodHandle" ∧ (yN 142).cls ≠ "java/lang/invoke/VarHandle" ∧ (parseMethodDescriptor (yN 142).desc).map (fun d => d.parameters.length) = some 3 ∧ Cond.static (yN 142) ∈ wsA := ⟨kw_1337, kw_11, by decide +kernel, by decide +kernel, by decide +kernel, kw_1336⟩
set_option maxRecDepth 20000 in
theorem mb_159 : Cond.code (yN 159) (cB 159) (mLoc 159) (rT 159) ∈ wsA ∧ Cond.initialized (yN 159).cls ∈ wsA ∧ (yN 159).cls ≠ "java/lang/invoke/MethodHandle" ∧ (yN 159).cls ≠ "java/lang/invoke/VarHandle" ∧ (parseMethodDescriptor (yN 159).desc).map (fun d => d.parameters.length) = some 2 ∧ Cond.instanceMethod (yN 159) ∈ wsA ∧ Cond.selects (yN 159).cls (yN 159) (yN 159) ∈ wsA := ⟨kw_1334, kw_11, by decide +kernel, by decide +kernel, by decide +kernel, ⟨kw_1333, pv_46⟩⟩
set_option maxRecDepth 20000 in
theorem mb_158 : Cond.code (yN 158) (cB 158) (mLoc 158) (rT 158) ∈ wsA ∧ Cond.initialized (yN 158).cls ∈ wsA ∧ (yN 158).cls ≠ "java/lang/invoke/MethodHandle" ∧ (yN 158).cls ≠ "java/lang/invoke/VarHandle" ∧ (parseMethodDescriptor (yN 158).desc).map (fun d => d.parameters.length) = some 1 ∧ Cond.instanceMethod (yN 158) ∈ wsA ∧ Cond.selects (yN 158).cls (yN 158) (yN 158) ∈ wsA := ⟨kw_1326, kw_11, by decide +kernel, by decide +kernel, by decide +kernel, ⟨kw_1325, pv_44⟩⟩
set_option maxRecDepth 20000 in
theorem mb_160 : Cond.code (yN 160) (cB 160) (mLoc 160) (rT 160) ∈ wsA ∧ Cond.initialized (yN 160).cls ∈ wsA ∧ (yN 160).cls ≠ "java/lang/invoke/MethodHandle" ∧ (yN 160).cls ≠ "java/lang/invoke/VarHandle" ∧ (parseMethodDescriptor (yN 160).desc).map (fun d => d.parameters.length) = some 2 ∧ Cond.instanceMethod (yN 160) ∈ wsA ∧ Cond.selects (yN 160).cls (yN 160) (yN 160) ∈ wsA := ⟨kw_1330, kw_11, by decide +kernel, by decide +kernel, by decide +kernel, ⟨kw_1329, pv_45⟩⟩
set_option maxRecDepth 20000 in
theorem mb_164 : Cond.code (yN 164) (cB 164) (mLoc 164) (rT 164) ∈ wsA ∧ Cond.initialized (yN 164).cls ∈ wsA ∧ (yN 164).cls ≠ "java/lang/invoke/MethodHandle" ∧ (yN 164).cls ≠ "java/lang/invoke/VarHandle" ∧ (parseMethodDescriptor (yN 164).desc).map (fun d => d.parameters.length) = some 3 ∧ Cond.instanceMethod (yN 164) ∈ wsA ∧ Cond.selects (yN 164).cls (yN 164) (yN 164) ∈ wsA := ⟨kw_1390, kw_11, by decide +kernel, by decide +kernel, by decide +kernel, ⟨kw_1389, pv_55⟩⟩
set_option maxRecDepth 20000 in
theorem mb_154 : Cond.code (yN 154) (cB 154) (mLoc 154) (rT 154) ∈ wsA ∧ Cond.initialized (yN 154).cls ∈ wsA ∧ (yN 154).cls ≠ "java/lang/invoke/MethodHandle" ∧ (yN 154).cls ≠ "java/lang/invoke/VarHandle" ∧ (parseMethodDescriptor (yN 154).desc).map (fun d => d.parameters.length) = some 0 ∧ Cond.instanceMethod (yN 154) ∈ wsA ∧ Cond.selects (yN 154).cls (yN 154) (yN 154) ∈ wsA := ⟨kw_1341, kw_11, by decide +kernel, by decide +kernel, by decide +kernel, ⟨kw_1340, pv_47⟩⟩
set_option maxRecDepth 20000 in
theorem mb_166 : Cond.code (yN 166) (cB 166) (mLoc 166) (rT 166) ∈ wsA ∧ Cond.initialized (yN 166).cls ∈ wsA ∧ (yN 166).cls ≠ "java/lang/invoke/MethodHandle" ∧ (yN 166).cls ≠ "java/lang/invoke/VarHandle" ∧ (parseMethodDescriptor (yN 166).desc).map (fun d => d.parameters.length) = some 0 ∧ Cond.instanceMethod (yN 166) ∈ wsA ∧ Cond.selects (yN 166).cls (yN 166) (yN 166) ∈ wsA := ⟨kw_1299, kw_11, by decide +kernel, by decide +kernel, by decide +kernel, ⟨kw_1298, pv_39⟩⟩
set_option maxRecDepth 20000 in
theorem mb_157 : Cond.code (yN 157) (cB 157) (mLoc 157) (rT 157) ∈ wsA ∧ Cond.initialized (yN 157).cls ∈ wsA ∧ (yN 157).cls ≠ "java/lang/invoke/MethodHandle" ∧ (yN 157).cls ≠ "java/lang/invoke/VarHandle" ∧ (parseMethodDescriptor (yN 157).desc).map (fun d => d.parameters.length) = some 0 ∧ Cond.instanceMethod (yN 157) ∈ wsA ∧ Cond.selects (yN 157).cls (yN 157) (yN 157) ∈ wsA := ⟨kw_1405, kw_11, by decide +kernel, by decide +kernel, by decide +kernel, ⟨kw_1404, pv_57⟩⟩
set_option maxRecDepth 20000 in
theorem mb_178 : Cond.code (yN 178) (cB 178) (mLoc 178) (rT 178) ∈ wsA ∧ Cond.initialized (yN 178).cls ∈ wsA ∧ (yN 178).cls ≠ "java/lang/invoke/MethodHandle" ∧ (yN 178).cls ≠ "java/lang/invoke/VarHandle" ∧ (parseMethodDescriptor (yN 178).desc).map (fun d => d.parameters.length) = some 2 ∧ Cond.static (yN 178) ∈ wsA := ⟨kw_1408, kw_11, by decide +kernel, by decide +kernel, by decide +kernel, kw_1407⟩
set_option maxRecDepth 20000 in
theorem mb_191 : Cond.code (yN 191) (cB 191) (mLoc 191) (rT 191) ∈ wsA ∧ Cond.initialized (yN 191).cls ∈ wsA ∧ (yN 191).cls ≠ "java/lang/invoke/MethodHandle" ∧ (yN 191).cls ≠ "java/lang/invoke/VarHandle" ∧ (parseMethodDescriptor (yN 191).desc).map (fun d => d.parameters.length) = some 2 ∧ Cond.instanceMethod (yN 191) ∈ wsA ∧ Cond.selects (yN 191).cls (yN 191) (yN 191) ∈ wsA := ⟨kw_1412, kw_11, by decide +kernel, by decide +kernel, by decide +kernel, ⟨kw_1411, pv_58⟩⟩
set_option maxRecDepth 20000 in
theorem mb_167 : Cond.code (yN 167) (cB 167) (mLoc 167) (rT 167) ∈ wsA ∧ Cond.initialized (yN 167).cls ∈ wsA ∧ (yN 167).cls ≠ "java/lang/invoke/MethodHandle" ∧ (yN 167).cls ≠ "java/lang/invoke/VarHandle" ∧ (parseMethodDescriptor (yN 167).desc).map (fun d => d.parameters.length) = some 0 ∧ Cond.instanceMethod (yN 167) ∈ wsA ∧ Cond.selects (yN 167).cls (yN 167) (yN 167) ∈ wsA := ⟨kw_1313, kw_11, by decide +kernel, by decide +kernel, by decide +kernel, ⟨kw_1312, pv_41⟩⟩
set_option maxRecDepth 20000 in
theorem mb_169 : Cond.code (yN 169) (cB 169) (mLoc 169) (rT 169) ∈ wsA ∧ Cond.initialized (yN 169).cls ∈ wsA ∧ (yN 169).cls ≠ "java/lang/invoke/MethodHandle" ∧ (yN 169).cls ≠ "java/lang/invoke/VarHandle" ∧ (parseMethodDescriptor (yN 169).desc).map (fun d => d.parameters.length) = some 1 ∧ Cond.instanceMethod (yN 169) ∈ wsA ∧ Cond.selects (yN 169).cls (yN 169) (yN 169) ∈ wsA := ⟨kw_1346, kw_11, by decide +kernel, by decide +kernel, by decide +kernel, ⟨kw_1345, pv_48⟩⟩
set_option maxRecDepth 20000 in
theorem mb_171 : Cond.code (yN 171) (cB 171) (mLoc 171) (rT 171) ∈ wsA ∧ Cond.initialized (yN 171).cls ∈ wsA ∧ (yN 171).cls ≠ "java/lang/invoke/MethodHandle" ∧ (yN 171).cls ≠ "java/lang/invoke/VarHandle" ∧ (parseMethodDescriptor (yN 171).desc).map (fun d => d.parameters.length) = some 0 ∧ Cond.instanceMethod (yN 171) ∈ wsA ∧ Cond.selects (yN 171).cls (yN 171) (yN 171) ∈ wsA := ⟨kw_1371, kw_11, by decide +kernel, by decide +kernel, by decide +kernel, ⟨kw_1370, pv_52⟩⟩
set_option maxRecDepth 20000 in
theorem mb_172 : Cond.code (yN 172) (cB 172) (mLoc 172) (rT 172) ∈ wsA ∧ Cond.initialized (yN 172).cls ∈ wsA ∧ (yN 172).cls ≠ "java/lang/invoke/MethodHandle" ∧ (yN 172).cls ≠ "java/lang/invoke/VarHandle" ∧ (parseMethodDescriptor (yN 172).desc).map (fun d => d.parameters.length) = some 0 ∧ Cond.instanceMethod (yN 172) ∈ wsA ∧ Cond.selects (yN 172).cls (yN 172) (yN 172) ∈ wsA := ⟨kw_1382, kw_11, by decide +kernel, by decide +kernel, by decide +kernel, ⟨kw_1381, pv_53⟩⟩
set_option maxRecDepth 20000 in
theorem mb_173 : Cond.code (yN 173) (cB 173) (mLoc 173) (rT 173) ∈ wsA ∧ Cond.initialized (yN 173).cls ∈ wsA ∧ (yN 173).cls ≠ "java/lang/invoke/MethodHandle" ∧ (yN 173).cls ≠ "java/lang/invoke/VarHandle" ∧ (parseMethodDescriptor (yN 173).desc).map (fun d => d.parameters.length) = some 0 ∧ Cond.instanceMethod (yN 173) ∈ wsA ∧ Cond.selects (yN 173).cls (yN 173) (yN 173) ∈ wsA := ⟨kw_1398, kw_11, by decide +kernel, by decide +kernel, by decide +kernel, ⟨kw_1397, pv_56⟩⟩
set_option maxRecDepth 20000 in
theorem mb_161 : Cond.code (yN 161) (cB 161) (mLoc 161) (rT 161) ∈ wsA ∧ Cond.initialized (yN 161).cls ∈ wsA ∧ (yN 161).cls ≠ "java/lang/invoke/MethodHandle" ∧ (yN 161).cls ≠ "java/lang/invoke/VarHandle" ∧ (parseMethodDescriptor (yN 161).desc).map (fun d => d.parameters.length) = some 3 ∧ Cond.instanceMethod (yN 161) ∈ wsA ∧ Cond.selects (yN 161).cls (yN 161) (yN 161) ∈ wsA := ⟨kw_1322, kw_11, by decide +kernel, by decide +kernel, by decide +kernel, ⟨kw_1321, pv_43⟩⟩
set_option maxRecDepth 20000 in
theorem mb_168 : Cond.code (yN 168) (cB 168) (mLoc 168) (rT 168) ∈ wsA ∧ Cond.initialized (yN 168).cls ∈ wsA ∧ (yN 168).cls ≠ "java/lang/invoke/MethodHandle" ∧ (yN 168).cls ≠ "java/lang/invoke/VarHandle" ∧ (parseMethodDescriptor (yN 168).desc).map (fun d => d.parameters.length) = some 0 ∧ Cond.instanceMethod (yN 168) ∈ wsA ∧ Cond.selects (yN 168).cls (yN 168) (yN 168) ∈ wsA := ⟨kw_1350, kw_11, by decide +kernel, by decide +kernel, by decide +kernel, ⟨kw_1349, pv_49⟩⟩
set_option maxRecDepth 20000 in
theorem mb_162 : Cond.code (yN 162) (cB 162) (mLoc 162) (rT 162) ∈ wsA ∧ Cond.initialized (yN 162).cls ∈ wsA ∧ (yN 162).cls ≠ "java/lang/invoke/MethodHandle" ∧ (yN 162).cls ≠ "java/lang/invoke/VarHandle" ∧ (parseMethodDescriptor (yN 162).desc).map (fun d => d.parameters.length) = some 1 ∧ Cond.instanceMethod (yN 162) ∈ wsA ∧ Cond.selects (yN 162).cls (yN 162) (yN 162) ∈ wsA := ⟨kw_1354, kw_11, by decide +kernel, by decide +kernel, by decide +kernel, ⟨kw_1353, pv_50⟩⟩
set_option maxRecDepth 20000 in
theorem mb_170 : Cond.code (yN 170) (cB 170) (mLoc 170) (rT 170) ∈ wsA ∧ Cond.initialized (yN 170).cls ∈ wsA ∧ (yN 170).cls ≠ "java/lang/invoke/MethodHandle" ∧ (yN 170).cls ≠ "java/lang/invoke/VarHandle" ∧ (parseMethodDescriptor (yN 170).desc).map (fun d => d.parameters.length) = some 0 ∧ Cond.instanceMethod (yN 170) ∈ wsA ∧ Cond.selects (yN 170).cls (yN 170) (yN 170) ∈ wsA := ⟨kw_1358, kw_11, by decide +kernel, by decide +kernel, by decide +kernel, ⟨kw_1357, pv_51⟩⟩
set_option maxRecDepth 20000 in
theorem mb_147 : Cond.code (yN 147) (cB 147) (mLoc 147) (rT 147) ∈ wsA ∧ Cond.initialized (yN 147).cls ∈ wsA ∧ (yN 147).cls ≠ "java/lang/invoke/MethodHandle" ∧ (yN 147).cls ≠ "java/lang/invoke/VarHandle" ∧ (parseMethodDescriptor (yN 147).desc).map (fun d => d.parameters.length) = some 7 ∧ Cond.static (yN 147) ∈ wsA := ⟨kw_1365, kw_11, by decide +kernel, by decide +kernel, by decide +kernel, kw_1364⟩
set_option maxRecDepth 20000 in
theorem mb_148 : Cond.code (yN 148) (cB 148) (mLoc 148) (rT 148) ∈ wsA ∧ Cond.initialized (yN 148).cls ∈ wsA ∧ (yN 148).cls ≠ "java/lang/invoke/MethodHandle" ∧ (yN 148).cls ≠ "java/lang/invoke/VarHandle" ∧ (parseMethodDescriptor (yN 148).desc).map (fun d => d.parameters.length) = some 1 ∧ Cond.static (yN 148) ∈ wsA := ⟨kw_1374, kw_11, by decide +kernel, by decide +kernel, by decide +kernel, kw_1373⟩
set_option maxRecDepth 20000 in
theorem mb_163 : Cond.code (yN 163) (cB 163) (mLoc 163) (rT 163) ∈ wsA ∧ Cond.initialized (yN 163).cls ∈ wsA ∧ (yN 163).cls ≠ "java/lang/invoke/MethodHandle" ∧ (yN 163).cls ≠ "java/lang/invoke/VarHandle" ∧ (parseMethodDescriptor (yN 163).desc).map (fun d => d.parameters.length) = some 2 ∧ Cond.instanceMethod (yN 163) ∈ wsA ∧ Cond.selects (yN 163).cls (yN 163) (yN 163) ∈ wsA := ⟨kw_1386, kw_11, by decide +kernel, by decide +kernel, by decide +kernel, ⟨kw_1385, pv_54⟩⟩
set_option maxRecDepth 20000 in
theorem mb_135 : Cond.code (yN 135) (cB 135) (mLoc 135) (rT 135) ∈ wsA ∧ Cond.initialized (yN 135).cls ∈ wsA ∧ (yN 135).cls ≠ "java/lang/invoke/MethodHandle" ∧ (yN 135).cls ≠ "java/lang/invoke/VarHandle" ∧ (parseMethodDescriptor (yN 135).desc).map (fun d => d.parameters.length) = some 3 ∧ Cond.static (yN 135) ∈ wsA := ⟨kw_1393, kw_18, by decide +kernel, by decide +kernel, by decide +kernel, kw_1392⟩
set_option maxRecDepth 20000 in
theorem mb_134 : Cond.code (yN 134) (cB 134) (mLoc 134) (rT 134) ∈ wsA ∧ Cond.initialized (yN 134).cls ∈ wsA ∧ (yN 134).cls ≠ "java/lang/invoke/MethodHandle" ∧ (yN 134).cls ≠ "java/lang/invoke/VarHandle" ∧ (parseMethodDescriptor (yN 134).desc).map (fun d => d.parameters.length) = some 0 ∧ Cond.instanceMethod (yN 134) ∈ wsA ∧ True := ⟨kw_1242, kw_18, by decide +kernel, by decide +kernel, by decide +kernel, ⟨kw_1241, trivial⟩⟩
set_option maxRecDepth 20000 in
theorem mb_165 : Cond.code (yN 165) (cB 165) (mLoc 165) (rT 165) ∈ wsA ∧ Cond.initialized (yN 165).cls ∈ wsA ∧ (yN 165).cls ≠ "java/lang/invoke/MethodHandle" ∧ (yN 165).cls ≠ "java/lang/invoke/VarHandle" ∧ (parseMethodDescriptor (yN 165).desc).map (fun d => d.parameters.length) = some 0 ∧ Cond.instanceMethod (yN 165) ∈ wsA ∧ Cond.selects (yN 165).cls (yN 165) (yN 165) ∈ wsA := ⟨kw_1295, kw_11, by decide +kernel, by decide +kernel, by decide +kernel, ⟨kw_1294, pv_38⟩⟩
set_option maxRecDepth 20000 in
theorem mb_181 : Cond.code (yN 181) (cB 181) (mLoc 181) (rT 181) ∈ wsA ∧ Cond.initialized (yN 181).cls ∈ wsA ∧ (yN 181).cls ≠ "java/lang/invoke/MethodHandle" ∧ (yN 181).cls ≠ "java/lang/invoke/VarHandle" ∧ (parseMethodDescriptor (yN 181).desc).map (fun d => d.parameters.length) = some 2 ∧ Cond.instanceMethod (yN 181) ∈ wsA ∧ Cond.selects (yN 181).cls (yN 181) (yN 181) ∈ wsA := ⟨kw_1420, kw_11, by decide +kernel, by decide +kernel, by decide +kernel, ⟨kw_1419, pv_60⟩⟩
set_option maxRecDepth 20000 in
theorem mb_183 : Cond.code (yN 183) (cB 183) (mLoc 183) (rT 183) ∈ wsA ∧ Cond.initialized (yN 183).cls ∈ wsA ∧ (yN 183).cls ≠ "java/lang/invoke/MethodHandle" ∧ (yN 183).cls ≠ "java/lang/invoke/VarHandle" ∧ (parseMethodDescriptor (yN 183).desc).map (fun d => d.parameters.length) = some 1 ∧ Cond.instanceMethod (yN 183) ∈ wsA ∧ Cond.selects (yN 183).cls (yN 183) (yN 183) ∈ wsA := ⟨kw_1436, kw_11, by decide +kernel, by decide +kernel, by decide +kernel, ⟨kw_1435, pv_64⟩⟩
set_option maxRecDepth 20000 in
theorem mb_182 : Cond.code (yN 182) (cB 182) (mLoc 182) (rT 182) ∈ wsA ∧ Cond.initialized (yN 182).cls ∈ wsA ∧ (yN 182).cls ≠ "java/lang/invoke/MethodHandle" ∧ (yN 182).cls ≠ "java/lang/invoke/VarHandle" ∧ (parseMethodDescriptor (yN 182).desc).map (fun d => d.parameters.length) = some 2 ∧ Cond.instanceMethod (yN 182) ∈ wsA ∧ Cond.selects (yN 182).cls (yN 182) (yN 182) ∈ wsA := ⟨kw_1448, kw_11, by decide +kernel, by decide +kernel, by decide +kernel, ⟨kw_1447, pv_67⟩⟩
set_option maxRecDepth 20000 in
theorem mb_185 : Cond.code (yN 185) (cB 185) (mLoc 185) (rT 185) ∈ wsA ∧ Cond.initialized (yN 185).cls ∈ wsA ∧ (yN 185).cls ≠ "java/lang/invoke/MethodHandle" ∧ (yN 185).cls ≠ "java/lang/invoke/VarHandle" ∧ (parseMethodDescriptor (yN 185).desc).map (fun d => d.parameters.length) = some 3 ∧ Cond.instanceMethod (yN 185) ∈ wsA ∧ Cond.selects (yN 185).cls (yN 185) (yN 185) ∈ wsA := ⟨kw_1444, kw_11, by decide +kernel, by decide +kernel, by decide +kernel, ⟨kw_1443, pv_66⟩⟩
set_option maxRecDepth 20000 in
theorem mb_180 : Cond.code (yN 180) (cB 180) (mLoc 180) (rT 180) ∈ wsA ∧ Cond.initialized (yN 180).cls ∈ wsA ∧ (yN 180).cls ≠ "java/lang/invoke/MethodHandle" ∧ (yN 180).cls ≠ "java/lang/invoke/VarHandle" ∧ (parseMethodDescriptor (yN 180).desc).map (fun d => d.parameters.length) = some 0 ∧ Cond.instanceMethod (yN 180) ∈ wsA ∧ Cond.selects (yN 180).cls (yN 180) (yN 180) ∈ wsA := ⟨kw_1416, kw_11, by decide +kernel, by decide +kernel, by decide +kernel, ⟨kw_1415, pv_59⟩⟩
set_option maxRecDepth 20000 in
theorem mb_192 : Cond.code (yN 192) (cB 192) (mLoc 192) (rT 192) ∈ wsA ∧ Cond.initialized (yN 192).cls ∈ wsA ∧ (yN 192).cls ≠ "java/lang/invoke/MethodHandle" ∧ (yN 192).cls ≠ "java/lang/invoke/VarHandle" ∧ (parseMethodDescriptor (yN 192).desc).map (fun d => d.parameters.length) = some 2 ∧ Cond.instanceMethod (yN 192) ∈ wsA ∧ Cond.selects (yN 192).cls (yN 192) (yN 192) ∈ wsA := ⟨kw_1424, kw_11, by decide +kernel, by decide +kernel, by decide +kernel, ⟨kw_1423, pv_61⟩⟩
set_option maxRecDepth 20000 in
theorem mb_193 : Cond.code (yN 193) (cB 193) (mLoc 193) (rT 193) ∈ wsA ∧ Cond.initialized (yN 193).cls ∈ wsA ∧ (yN 193).cls ≠ "java/lang/invoke/MethodHandle" ∧ (yN 193).cls ≠ "java/lang/invoke/VarHandle" ∧ (parseMethodDescriptor (yN 193).desc).map (fun d => d.parameters.length) = some 3 ∧ Cond.instanceMethod (yN 193) ∈ wsA ∧ Cond.selects (yN 193).cls (yN 193) (yN 193) ∈ wsA := ⟨kw_1428, kw_11, by decide +kernel, by decide +kernel, by decide +kernel, ⟨kw_1427, pv_62⟩⟩
set_option maxRecDepth 20000 in
theorem mb_194 : Cond.code (yN 194) (cB 194) (mLoc 194) (rT 194) ∈ wsA ∧ Cond.initialized (yN 194).cls ∈ wsA ∧ (yN 194).cls ≠ "java/lang/invoke/MethodHandle" ∧ (yN 194).cls ≠ "java/lang/invoke/VarHandle" ∧ (parseMethodDescriptor (yN 194).desc).map (fun d => d.parameters.length) = some 3 ∧ Cond.instanceMethod (yN 194) ∈ wsA ∧ Cond.selects (yN 194).cls (yN 194) (yN 194) ∈ wsA := ⟨kw_1432, kw_11, by decide +kernel, by decide +kernel, by decide +kernel, ⟨kw_1431, pv_63⟩⟩
set_option maxRecDepth 20000 in
theorem mb_195 : Cond.code (yN 195) (cB 195) (mLoc 195) (rT 195) ∈ wsA ∧ Cond.initialized (yN 195).cls ∈ wsA ∧ (yN 195).cls ≠ "java/lang/invoke/MethodHandle" ∧ (yN 195).cls ≠ "java/lang/invoke/VarHandle" ∧ (parseMethodDescriptor (yN 195).desc).map (fun d => d.parameters.length) = some 2 ∧ Cond.instanceMethod (yN 195) ∈ wsA ∧ Cond.selects (yN 195).cls (yN 195) (yN 195) ∈ wsA := ⟨kw_1452, kw_11, by decide +kernel, by decide +kernel, by decide +kernel, ⟨kw_1451, pv_68⟩⟩
set_option maxRecDepth 20000 in
theorem mb_197 : Cond.code (yN 197) (cB 197) (mLoc 197) (rT 197) ∈ wsA ∧ Cond.initialized (yN 197).cls ∈ wsA ∧ (yN 197).cls ≠ "java/lang/invoke/MethodHandle" ∧ (yN 197).cls ≠ "java/lang/invoke/VarHandle" ∧ (parseMethodDescriptor (yN 197).desc).map (fun d => d.parameters.length) = some 4 ∧ Cond.instanceMethod (yN 197) ∈ wsA ∧ Cond.selects (yN 197).cls (yN 197) (yN 197) ∈ wsA := ⟨kw_1476, kw_11, by decide +kernel, by decide +kernel, by decide +kernel, ⟨kw_1475, pv_74⟩⟩
set_option maxRecDepth 20000 in
theorem mb_190 : Cond.code (yN 190) (cB 190) (mLoc 190) (rT 190) ∈ wsA ∧ Cond.initialized (yN 190).cls ∈ wsA ∧ (yN 190).cls ≠ "java/lang/invoke/MethodHandle" ∧ (yN 190).cls ≠ "java/lang/invoke/VarHandle" ∧ (parseMethodDescriptor (yN 190).desc).map (fun d => d.parameters.length) = some 3 ∧ Cond.instanceMethod (yN 190) ∈ wsA ∧ Cond.selects (yN 190).cls (yN 190) (yN 190) ∈ wsA := ⟨kw_1440, kw_11, by decide +kernel, by decide +kernel, by decide +kernel, ⟨kw_1439, pv_65⟩⟩
set_option maxRecDepth 20000 in
theorem mb_186 : Cond.code (yN 186) (cB 186) (mLoc 186) (rT 186) ∈ wsA ∧ Cond.initialized (yN 186).cls ∈ wsA ∧ (yN 186).cls ≠ "java/lang/invoke/MethodHandle" ∧ (yN 186).cls ≠ "java/lang/invoke/VarHandle" ∧ (parseMethodDescriptor (yN 186).desc).map (fun d => d.parameters.length) = some 1 ∧ Cond.instanceMethod (yN 186) ∈ wsA ∧ Cond.selects (yN 186).cls (yN 186) (yN 186) ∈ wsA := ⟨kw_1456, kw_11, by decide +kernel, by decide +kernel, by decide +kernel, ⟨kw_1455, pv_69⟩⟩
set_option maxRecDepth 20000 in
theorem mb_188 : Cond.code (yN 188) (cB 188) (mLoc 188) (rT 188) ∈ wsA ∧ Cond.initialized (yN 188).cls ∈ wsA ∧ (yN 188).cls ≠ "java/lang/invoke/MethodHandle" ∧ (yN 188).cls ≠ "java/lang/invoke/VarHandle" ∧ (parseMethodDescriptor (yN 188).desc).map (fun d => d.parameters.length) = some 2 ∧ Cond.instanceMethod (yN 188) ∈ wsA ∧ Cond.selects (yN 188).cls (yN 188) (yN 188) ∈ wsA := ⟨kw_1460, kw_11, by decide +kernel, by decide +kernel, by decide +kernel, ⟨kw_1459, pv_70⟩⟩
set_option maxRecDepth 20000 in
theorem mb_189 : Cond.code (yN 189) (cB 189) (mLoc 189) (rT 189) ∈ wsA ∧ Cond.initialized (yN 189).cls ∈ wsA ∧ (yN 189).cls ≠ "java/lang/invoke/MethodHandle" ∧ (yN 189).cls ≠ "java/lang/invoke/VarHandle" ∧ (parseMethodDescriptor (yN 189).desc).map (fun d => d.parameters.length) = some 3 ∧ Cond.instanceMethod (yN 189) ∈ wsA ∧ Cond.selects (yN 189).cls (yN 189) (yN 189) ∈ wsA := ⟨kw_1464, kw_11, by decide +kernel, by decide +kernel, by decide +kernel, ⟨kw_1463, pv_71⟩⟩
set_option maxRecDepth 20000 in
theorem mb_184 : Cond.code (yN 184) (cB 184) (mLoc 184) (rT 184) ∈ wsA ∧ Cond.initialized (yN 184).cls ∈ wsA ∧ (yN 184).cls ≠ "java/lang/invoke/MethodHandle" ∧ (yN 184).cls ≠ "java/lang/invoke/VarHandle" ∧ (parseMethodDescriptor (yN 184).desc).map (fun d => d.parameters.length) = some 2 ∧ Cond.instanceMethod (yN 184) ∈ wsA ∧ Cond.selects (yN 184).cls (yN 184) (yN 184) ∈ wsA := ⟨kw_1468, kw_11, by decide +kernel, by decide +kernel, by decide +kernel, ⟨kw_1467, pv_72⟩⟩
set_option maxRecDepth 20000 in
theorem mb_196 : Cond.code (yN 196) (cB 196) (mLoc 196) (rT 196) ∈ wsA ∧ Cond.initialized (yN 196).cls ∈ wsA ∧ (yN 196).cls ≠ "java/lang/invoke/MethodHandle" ∧ (yN 196).cls ≠ "java/lang/invoke/VarHandle" ∧ (parseMethodDescriptor (yN 196).desc).map (fun d => d.parameters.length) = some 2 ∧ Cond.instanceMethod (yN 196) ∈ wsA ∧ Cond.selects (yN 196).cls (yN 196) (yN 196) ∈ wsA := ⟨kw_1472, kw_11, by decide +kernel, by decide +kernel, by decide +kernel, ⟨kw_1471, pv_73⟩⟩
set_option maxRecDepth 20000 in
theorem mb_179 : Cond.code (yN 179) (cB 179) (mLoc 179) (rT 179) ∈ wsA ∧ Cond.initialized (yN 179).cls ∈ wsA ∧ (yN 179).cls ≠ "java/lang/invoke/MethodHandle" ∧ (yN 179).cls ≠ "java/lang/invoke/VarHandle" ∧ (parseMethodDescriptor (yN 179).desc).map (fun d => d.parameters.length) = some 0 ∧ Cond.instanceMethod (yN 179) ∈ wsA ∧ Cond.selects (yN 179).cls (yN 179) (yN 179) ∈ wsA := ⟨kw_1500, kw_11, by decide +kernel, by decide +kernel, by decide +kernel, ⟨kw_1499, pv_77⟩⟩
set_option maxRecDepth 20000 in
theorem mb_203 : Cond.code (yN 203) (cB 203) (mLoc 203) (rT 203) ∈ wsA ∧ Cond.initialized (yN 203).cls ∈ wsA ∧ (yN 203).cls ≠ "java/lang/invoke/MethodHandle" ∧ (yN 203).cls ≠ "java/lang/invoke/VarHandle" ∧ (parseMethodDescriptor (yN 203).desc).map (fun d => d.parameters.length) = some 1 ∧ Cond.instanceMethod (yN 203) ∈ wsA ∧ Cond.selects (yN 203).cls (yN 203) (yN 203) ∈ wsA := ⟨kw_1496, kw_11, by decide +kernel, by decide +kernel, by decide +kernel, ⟨kw_1495, pv_76⟩⟩
set_option maxRecDepth 20000 in
theorem mb_202 : Cond.code (yN 202) (cB 202) (mLoc 202) (rT 202) ∈ wsA ∧ Cond.initialized (yN 202).cls ∈ wsA ∧ (yN 202).cls ≠ "java/lang/invoke/MethodHandle" ∧ (yN 202).cls ≠ "java/lang/invoke/VarHandle" ∧ (parseMethodDescriptor (yN 202).desc).map (fun d => d.parameters.length) = some 1 ∧ Cond.instanceMethod (yN 202) ∈ wsA ∧ Cond.selects (yN 202).cls (yN 202) (yN 202) ∈ wsA := ⟨kw_1512, kw_11, by decide +kernel, by decide +kernel, by decide +kernel, ⟨kw_1511, pv_78⟩⟩
set_option maxRecDepth 20000 in
theorem mb_198 : Cond.code (yN 198) (cB 198) (mLoc 198) (rT 198) ∈ wsA ∧ Cond.initialized (yN 198).cls ∈ wsA ∧ (yN 198).cls ≠ "java/lang/invoke/MethodHandle" ∧ (yN 198).cls ≠ "java/lang/invoke/VarHandle" ∧ (parseMethodDescriptor (yN 198).desc).map (fun d => d.parameters.length) = some 0 ∧ Cond.instanceMethod (yN 198) ∈ wsA ∧ Cond.selects (yN 198).cls (yN 198) (yN 198) ∈ wsA := ⟨kw_1516, kw_11, by decide +kernel, by decide +kernel, by decide +kernel, ⟨kw_1515, pv_79⟩⟩
set_option maxRecDepth 20000 in
theorem mb_187 : Cond.code (yN 187) (cB 187) (mLoc 187) (rT 187) ∈ wsA ∧ Cond.initialized (yN 187).cls ∈ wsA ∧ (yN 187).cls ≠ "java/lang/invoke/MethodHandle" ∧ (yN 187).cls ≠ "java/lang/invoke/VarHandle" ∧ (parseMethodDescriptor (yN 187).desc).map (fun d => d.parameters.length) = some 1 ∧ Cond.instanceMethod (yN 187) ∈ wsA ∧ Cond.selects (yN 187).cls (yN 187) (yN 187) ∈ wsA := ⟨kw_1524, kw_11, by decide +kernel, by decide +kernel, by decide +kernel, ⟨kw_1523, pv_80⟩⟩
set_option maxRecDepth 20000 in
theorem mb_210 : Cond.code (yN 210) (cB 210) (mLoc 210) (rT 210) ∈ wsA ∧ Cond.initialized (yN 210).cls ∈ wsA ∧ (yN 210).cls ≠ "java/lang/invoke/MethodHandle" ∧ (yN 210).cls ≠ "java/lang/invoke/VarHandle" ∧ (parseMethodDescriptor (yN 210).desc).map (fun d => d.parameters.length) = some 2 ∧ Cond.instanceMethod (yN 210) ∈ wsA ∧ Cond.selects (yN 210).cls (yN 210) (yN 210) ∈ wsA := ⟨kw_1536, kw_11, by decide +kernel, by decide +kernel, by decide +kernel, ⟨kw_1535, pv_81⟩⟩
set_option maxRecDepth 20000 in
theorem mb_145 : Cond.code (yN 145) (cB 145) (mLoc 145) (rT 145) ∈ wsA ∧ Cond.initialized (yN 145).cls ∈ wsA ∧ (yN 145).cls ≠ "java/lang/invoke/MethodHandle" ∧ (yN 145).cls ≠ "java/lang/invoke/VarHandle" ∧ (parseMethodDescriptor (yN 145).desc).map (fun d => d.parameters.length) = some 3 ∧ Cond.instanceMethod (yN 145) ∈ wsA ∧ Cond.selects (yN 145).cls (yN 145) (yN 145) ∈ wsA := ⟨kw_1548, kw_11, by decide +kernel, by decide +kernel, by decide +kernel, ⟨kw_1547, pv_82⟩⟩
set_option maxRecDepth 20000 in
theorem mb_214 : Cond.code (yN 214) (cB 214) (mLoc 214) (rT 214) ∈ wsA ∧ Cond.initialized (yN 214).cls ∈ wsA ∧ (yN 214).cls ≠ "java/lang/invoke/MethodHandle" ∧ (yN 214).cls ≠ "java/lang/invoke/VarHandle" ∧ (parseMethodDescriptor (yN 214).desc).map (fun d => d.parameters.length) = some 1 ∧ Cond.instanceMethod (yN 214) ∈ wsA ∧ Cond.selects (yN 214).cls (yN 214) (yN 214) ∈ wsA := ⟨kw_1559, kw_11, by decide +kernel, by decide +kernel, by decide +kernel, ⟨kw_1558, pv_83⟩⟩
set_option maxRecDepth 20000 in
theorem mb_215 : Cond.code (yN 215) (cB 215) (mLoc 215) (rT 215) ∈ wsA ∧ Cond.initialized (yN 215).cls ∈ wsA ∧ (yN 215).cls ≠ "java/lang/invoke/MethodHandle" ∧ (yN 215).cls ≠ "java/lang/invoke/VarHandle" ∧ (parseMethodDescriptor (yN 215).desc).map (fun d => d.parameters.length) = some 1 ∧ Cond.instanceMethod (yN 215) ∈ wsA ∧ Cond.selects (yN 215).cls (yN 215) (yN 215) ∈ wsA := ⟨kw_1563, kw_11, by decide +kernel, by decide +kernel, by decide +kernel, ⟨kw_1562, pv_84⟩⟩
set_option maxRecDepth 20000 in
theorem mb_204 : Cond.code (yN 204) (cB 204) (mLoc 204) (rT 204) ∈ wsA ∧ Cond.initialized (yN 204).cls ∈ wsA ∧ (yN 204).cls ≠ "java/lang/invoke/MethodHandle" ∧ (yN 204).cls ≠ "java/lang/invoke/VarHandle" ∧ (parseMethodDescriptor (yN 204).desc).map (fun d => d.parameters.length) = some 1 ∧ Cond.instanceMethod (yN 204) ∈ wsA ∧ Cond.selects (yN 204).cls (yN 204) (yN 204) ∈ wsA := ⟨kw_1575, kw_11, by decide +kernel, by decide +kernel, by decide +kernel, ⟨kw_1574, pv_85⟩⟩
set_option maxRecDepth 20000 in
theorem mb_199 : Cond.code (yN 199) (cB 199) (mLoc 199) (rT 199) ∈ wsA ∧ Cond.initialized (yN 199).cls ∈ wsA ∧ (yN 199).cls ≠ "java/lang/invoke/MethodHandle" ∧ (yN 199).cls ≠ "java/lang/invoke/VarHandle" ∧ (parseMethodDescriptor (yN 199).desc).map (fun d => d.parameters.length) = some 1 ∧ Cond.instanceMethod (yN 199) ∈ wsA ∧ Cond.selects (yN 199).cls (yN 199) (yN 199) ∈ wsA := ⟨kw_1579, kw_11, by decide +kernel, by decide +kernel, by decide +kernel, ⟨kw_1578, pv_86⟩⟩
set_option maxRecDepth 20000 in
theorem mb_200 : Cond.code (yN 200) (cB 200) (mLoc 200) (rT 200) ∈ wsA ∧ Cond.initialized (yN 200).cls ∈ wsA ∧ (yN 200).cls ≠ "java/lang/invoke/MethodHandle" ∧ (yN 200).cls ≠ "java/lang/invoke/VarHandle" ∧ (parseMethodDescriptor (yN 200).desc).map (fun d => d.parameters.length) = some 1 ∧ Cond.instanceMethod (yN 200) ∈ wsA ∧ Cond.selects (yN 200).cls (yN 200) (yN 200) ∈ wsA := ⟨kw_1587, kw_11, by decide +kernel, by decide +kernel, by decide +kernel, ⟨kw_1586, pv_87⟩⟩
set_option maxRecDepth 20000 in
theorem mb_221 : Cond.code (yN 221) (cB 221) (mLoc 221) (rT 221) ∈ wsA ∧ Cond.initialized (yN 221).cls ∈ wsA ∧ (yN 221).cls ≠ "java/lang/invoke/MethodHandle" ∧ (yN 221).cls ≠ "java/lang/invoke/VarHandle" ∧ (parseMethodDescriptor (yN 221).desc).map (fun d => d.parameters.length) = some 2 ∧ Cond.instanceMethod (yN 221) ∈ wsA ∧ Cond.selects (yN 221).cls (yN 221) (yN 221) ∈ wsA := ⟨kw_1599, kw_11, by decide +kernel, by decide +kernel, by decide +kernel, ⟨kw_1598, pv_88⟩⟩
set_option maxRecDepth 20000 in
theorem mb_201 : Cond.code (yN 201) (cB 201) (mLoc 201) (rT 201) ∈ wsA ∧ Cond.initialized (yN 201).cls ∈ wsA ∧ (yN 201).cls ≠ "java/lang/invoke/MethodHandle" ∧ (yN 201).cls ≠ "java/lang/invoke/VarHandle" ∧ (parseMethodDescriptor (yN 201).desc).map (fun d => d.parameters.length) = some 0 ∧ Cond.instanceMethod (yN 201) ∈ wsA ∧ Cond.selects (yN 201).cls (yN 201) (yN 201) ∈ wsA := ⟨kw_1611, kw_11, by decide +kernel, by decide +kernel, by decide +kernel, ⟨kw_1610, pv_89⟩⟩
set_option maxRecDepth 20000 in
theorem mb_228 : Cond.code (yN 228) (cB 228) (mLoc 228) (rT 228) ∈ wsA ∧ Cond.initialized (yN 228).cls ∈ wsA ∧ (yN 228).cls ≠ "java/lang/invoke/MethodHandle" ∧ (yN 228).cls ≠ "java/lang/invoke/VarHandle" ∧ (parseMethodDescriptor (yN 228).desc).map (fun d => d.parameters.length) = some 2 ∧ Cond.instanceMethod (yN 228) ∈ wsA ∧ Cond.selects (yN 228).cls (yN 228) (yN 228) ∈ wsA := ⟨kw_1631, kw_11, by decide +kernel, by decide +kernel, by decide +kernel, ⟨kw_1630, pv_90⟩⟩
set_option maxRecDepth 20000 in
theorem mb_143 : Cond.code (yN 143) (cB 143) (mLoc 143) (rT 143) ∈ wsA ∧ Cond.initialized (yN 143).cls ∈ wsA ∧ (yN 143).cls ≠ "java/lang/invoke/MethodHandle" ∧ (yN 143).cls ≠ "java/lang/invoke/VarHandle" ∧ (parseMethodDescriptor (yN 143).desc).map (fun d => d.parameters.length) = some 2 ∧ Cond.static (yN 143) ∈ wsA := ⟨kw_1670, kw_11, by decide +kernel, by decide +kernel, by decide +kernel, kw_1669⟩
set_option maxRecDepth 20000 in
theorem mb_235 : Cond.code (yN 235) (cB 235) (mLoc 235) (rT 235) ∈ wsA ∧ Cond.initialized (yN 235).cls ∈ wsA ∧ (yN 235).cls ≠ "java/lang/invoke/MethodHandle" ∧ (yN 235).cls ≠ "java/lang/invoke/VarHandle" ∧ (parseMethodDescriptor (yN 235).desc).map (fun d => d.parameters.length) = some 1 ∧ Cond.instanceMethod (yN 235) ∈ wsA ∧ Cond.selects (yN 235).cls (yN 235) (yN 235) ∈ wsA := ⟨kw_1667, kw_11, by decide +kernel, by decide +kernel, by decide +kernel, ⟨kw_1666, pv_93⟩⟩
set_option maxRecDepth 20000 in
theorem mb_236 : Cond.code (yN 236) (cB 236) (mLoc 236) (rT 236) ∈ wsA ∧ Cond.initialized (yN 236).cls ∈ wsA ∧ (yN 236).cls ≠ "java/lang/invoke/MethodHandle" ∧ (yN 236).cls ≠ "java/lang/invoke/VarHandle" ∧ (parseMethodDescriptor (yN 236).desc).map (fun d => d.parameters.length) = some 0 ∧ Cond.instanceMethod (yN 236) ∈ wsA ∧ Cond.selects (yN 236).cls (yN 236) (yN 236) ∈ wsA := ⟨kw_1674, kw_11, by decide +kernel, by decide +kernel, by decide +kernel, ⟨kw_1673, pv_94⟩⟩
set_option maxRecDepth 20000 in
theorem mb_237 : Cond.code (yN 237) (cB 237) (mLoc 237) (rT 237) ∈ wsA ∧ Cond.initialized (yN 237).cls ∈ wsA ∧ (yN 237).cls ≠ "java/lang/invoke/MethodHandle" ∧ (yN 237).cls ≠ "java/lang/invoke/VarHandle" ∧ (parseMethodDescriptor (yN 237).desc).map (fun d => d.parameters.length) = some 1 ∧ Cond.instanceMethod (yN 237) ∈ wsA ∧ Cond.selects (yN 237).cls (yN 237) (yN 237) ∈ wsA := ⟨kw_1663, kw_11, by decide +kernel, by decide +kernel, by decide +kernel, ⟨kw_1662, pv_92⟩⟩
set_option maxRecDepth 20000 in
theorem mb_238 : Cond.code (yN 238) (cB 238) (mLoc 238) (rT 238) ∈ wsA ∧ Cond.initialized (yN 238).cls ∈ wsA ∧ (yN 238).cls ≠ "java/lang/invoke/MethodHandle" ∧ (yN 238).cls ≠ "java/lang/invoke/VarHandle" ∧ (parseMethodDescriptor (yN 238).desc).map (fun d => d.parameters.length) = some 1 ∧ Cond.instanceMethod (yN 238) ∈ wsA ∧ Cond.selects (yN 238).cls (yN 238) (yN 238) ∈ wsA := ⟨kw_1659, kw_11, by decide +kernel, by decide +kernel, by decide +kernel, ⟨kw_1658, pv_91⟩⟩
set_option maxRecDepth 20000 in
theorem mb_243 : Cond.code (yN 243) (cB 243) (mLoc 243) (rT 243) ∈ wsA ∧ Cond.initialized (yN 243).cls ∈ wsA ∧ (yN 243).cls ≠ "java/lang/invoke/MethodHandle" ∧ (yN 243).cls ≠ "java/lang/invoke/VarHandle" ∧ (parseMethodDescriptor (yN 243).desc).map (fun d => d.parameters.length) = some 0 ∧ Cond.instanceMethod (yN 243) ∈ wsA ∧ Cond.selects (yN 243).cls (yN 243) (yN 243) ∈ wsA := ⟨kw_1694, kw_11, by decide +kernel, by decide +kernel, by decide +kernel, ⟨kw_1693, pv_95⟩⟩
set_option maxRecDepth 20000 in
theorem mb_248 : Cond.code (yN 248) (cB 248) (mLoc 248) (rT 248) ∈ wsA ∧ Cond.initialized (yN 248).cls ∈ wsA ∧ (yN 248).cls ≠ "java/lang/invoke/MethodHandle" ∧ (yN 248).cls ≠ "java/lang/invoke/VarHandle" ∧ (parseMethodDescriptor (yN 248).desc).map (fun d => d.parameters.length) = some 0 ∧ Cond.instanceMethod (yN 248) ∈ wsA ∧ Cond.selects (yN 248).cls (yN 248) (yN 248) ∈ wsA := ⟨kw_1719, kw_11, by decide +kernel, by decide +kernel, by decide +kernel, ⟨kw_1718, pv_98⟩⟩
set_option maxRecDepth 20000 in
theorem mb_247 : Cond.code (yN 247) (cB 247) (mLoc 247) (rT 247) ∈ wsA ∧ Cond.initialized (yN 247).cls ∈ wsA ∧ (yN 247).cls ≠ "java/lang/invoke/MethodHandle" ∧ (yN 247).cls ≠ "java/lang/invoke/VarHandle" ∧ (parseMethodDescriptor (yN 247).desc).map (fun d => d.parameters.length) = some 1 ∧ Cond.instanceMethod (yN 247) ∈ wsA ∧ Cond.selects (yN 247).cls (yN 247) (yN 247) ∈ wsA := ⟨kw_1723, kw_11, by decide +kernel, by decide +kernel, by decide +kernel, ⟨kw_1722, pv_99⟩⟩
set_option maxRecDepth 20000 in
theorem mb_250 : Cond.code (yN 250) (cB 250) (mLoc 250) (rT 250) ∈ wsA ∧ Cond.initialized (yN 250).cls ∈ wsA ∧ (yN 250).cls ≠ "java/lang/invoke/MethodHandle" ∧ (yN 250).cls ≠ "java/lang/invoke/VarHandle" ∧ (parseMethodDescriptor (yN 250).desc).map (fun d => d.parameters.length) = some 3 ∧ Cond.instanceMethod (yN 250) ∈ wsA ∧ Cond.selects (yN 250).cls (yN 250) (yN 250) ∈ wsA := ⟨kw_1710, kw_11, by decide +kernel, by decide +kernel, by decide +kernel, ⟨kw_1709, pv_96⟩⟩
set_option maxRecDepth 20000 in
theorem mb_249 : Cond.code (yN 249) (cB 249) (mLoc 249) (rT 249) ∈ wsA ∧ Cond.initialized (yN 249).cls ∈ wsA ∧ (yN 249).cls ≠ "java/lang/invoke/MethodHandle" ∧ (yN 249).cls ≠ "java/lang/invoke/VarHandle" ∧ (parseMethodDescriptor (yN 249).desc).map (fun d => d.parameters.length) = some 2 ∧ Cond.instanceMethod (yN 249) ∈ wsA ∧ Cond.selects (yN 249).cls (yN 249) (yN 249) ∈ wsA := ⟨kw_1715, kw_11, by decide +kernel, by decide +kernel, by decide +kernel, ⟨kw_1714, pv_97⟩⟩
set_option maxRecDepth 20000 in
theorem mb_253 : Cond.code (yN 253) (cB 253) (mLoc 253) (rT 253) ∈ wsA ∧ Cond.initialized (yN 253).cls ∈ wsA ∧ (yN 253).cls ≠ "java/lang/invoke/MethodHandle" ∧ (yN 253).cls ≠ "java/lang/invoke/VarHandle" ∧ (parseMethodDescriptor (yN 253).desc).map (fun d => d.parameters.length) = some 0 ∧ Cond.instanceMethod (yN 253) ∈ wsA ∧ Cond.selects (yN 253).cls (yN 253) (yN 253) ∈ wsA := ⟨kw_1749, kw_11, by decide +kernel, by decide +kernel, by decide +kernel, ⟨kw_1748, pv_102⟩⟩
set_option maxRecDepth 20000 in
theorem mb_255 : Cond.code (yN 255) (cB 255) (mLoc 255) (rT 255) ∈ wsA ∧ Cond.initialized (yN 255).cls ∈ wsA ∧ (yN 255).cls ≠ "java/lang/invoke/MethodHandle" ∧ (yN 255).cls ≠ "java/lang/invoke/VarHandle" ∧ (parseMethodDescriptor (yN 255).desc).map (fun d => d.parameters.length) = some 3 ∧ Cond.static (yN 255) ∈ wsA := ⟨kw_1737, kw_11, by decide +kernel, by decide +kernel, by decide +kernel, kw_1736⟩
set_option maxRecDepth 20000 in
theorem mb_254 : Cond.code (yN 254) (cB 254) (mLoc 254) (rT 254) ∈ wsA ∧ Cond.initialized (yN 254).cls ∈ wsA ∧ (yN 254).cls ≠ "java/lang/invoke/MethodHandle" ∧ (yN 254).cls ≠ "java/lang/invoke/VarHandle" ∧ (parseMethodDescriptor (yN 254).desc).map (fun d => d.parameters.length) = some 3 ∧ Cond.instanceMethod (yN 254) ∈ wsA ∧ Cond.selects (yN 254).cls (yN 254) (yN 254) ∈ wsA := ⟨kw_1741, kw_11, by decide +kernel, by decide +kernel, by decide +kernel, ⟨kw_1740, pv_100⟩⟩
set_option maxRecDepth 20000 in
theorem mb_256 : Cond.code (yN 256) (cB 256) (mLoc 256) (rT 256) ∈ wsA ∧ Cond.initialized (yN 256).cls ∈ wsA ∧ (yN 256).cls ≠ "java/lang/invoke/MethodHandle" ∧ (yN 256).cls ≠ "java/lang/invoke/VarHandle" ∧ (parseMethodDescriptor (yN 256).desc).map (fun d => d.parameters.length) = some 6 ∧ Cond.instanceMethod (yN 256) ∈ wsA ∧ Cond.selects (yN 256).cls (yN 256) (yN 256) ∈ wsA := ⟨kw_1745, kw_11, by decide +kernel, by decide +kernel, by decide +kernel, ⟨kw_1744, pv_101⟩⟩
set_option maxRecDepth 20000 in
theorem mb_139 : Cond.code (yN 139) (cB 139) (mLoc 139) (rT 139) ∈ wsA ∧ Cond.initialized (yN 139).cls ∈ wsA ∧ (yN 139).cls ≠ "java/lang/invoke/MethodHandle" ∧ (yN 139).cls ≠ "java/lang/invoke/VarHandle" ∧ (parseMethodDescriptor (yN 139).desc).map (fun d => d.parameters.length) = some 1 ∧ Cond.instanceMethod (yN 139) ∈ wsA ∧ Cond.selects (yN 139).cls (yN 139) (yN 139) ∈ wsA := ⟨kw_1773, kw_11, by decide +kernel, by decide +kernel, by decide +kernel, ⟨kw_1772, pv_103⟩⟩
set_option maxRecDepth 20000 in
theorem mb_141 : Cond.code (yN 141) (cB 141) (mLoc 141) (rT 141) ∈ wsA ∧ Cond.initialized (yN 141).cls ∈ wsA ∧ (yN 141).cls ≠ "java/lang/invoke/MethodHandle" ∧ (yN 141).cls ≠ "java/lang/invoke/VarHandle" ∧ (parseMethodDescriptor (yN 141).desc).map (fun d => d.parameters.length) = some 0 ∧ Cond.instanceMethod (yN 141) ∈ wsA ∧ Cond.selects (yN 141).cls (yN 141) (yN 141) ∈ wsA := ⟨kw_1777, kw_11, by decide +kernel, by decide +kernel, by decide +kernel, ⟨kw_1776, pv_104⟩⟩
set_option maxRecDepth 20000 in
theorem cw_X0_19_32 : cwKI RX0 19 32 0 := ⟨⟨mb_32.1, Or.inr ⟨RX9, by decide +kernel⟩, mb_32.2.1, mb_32.2.2.1, mb_32.2.2.2.1, mb_32.2.2.2.2.1, by decide, by decide⟩, mb_32.2.2.2.2.2.1, rfl, rfl⟩
set_option maxRecDepth 20000 in
theorem cw_X0_40_24 : cwKI RX0 40 24 0 := ⟨⟨mb_24.1, Or.inl kw_230, mb_24.2.1, mb_24.2.2.1, mb_24.2.2.2.1, mb_24.2.2.2.2.1, by decide, by decide⟩, mb_24.2.2.2.2.2.1, rfl, rfl⟩
set_option maxRecDepth 20000 in
theorem cw_X0_41_2 : cwKV RX0 41 2 1 := ⟨⟨mb_2.1, Or.inl kw_596, mb_2.2.1, mb_2.2.2.1, mb_2.2.2.2.1, mb_2.2.2.2.2.1, by decide, by decide⟩, mb_2.2.2.2.2.2.1, mb_2.2.2.2.2.2.2⟩
set_option maxRecDepth 20000 in
theorem cw_X0_45_3 : cwKV RX0 45 3 1 := ⟨⟨mb_3.1, Or.inl kw_600, mb_3.2.1, mb_3.2.2.1, mb_3.2.2.2.1, mb_3.2.2.2.2.1, by decide, by decide⟩, mb_3.2.2.2.2.2.1, mb_3.2.2.2.2.2.2⟩
set_option maxRecDepth 20000 in
theorem cw_X0_70_4 : cwKV RX0 70 4 5 := ⟨⟨mb_4.1, Or.inl kw_605, mb_4.2.1, mb_4.2.2.1, mb_4.2.2.2.1, mb_4.2.2.2.2.1, by decide, by decide⟩, mb_4.2.2.2.2.2.1, mb_4.2.2.2.2.2.2⟩
set_option maxRecDepth 20000 in
theorem cw_X0_74_10 : cwKV RX0 74 10 3 := ⟨⟨mb_10.1, Or.inl kw_628, mb_10.2.1, mb_10.2.2.1, mb_10.2.2.2.1, mb_10.2.2.2.2.1, by decide, by decide⟩, mb_10.2.2.2.2.2.1, mb_10.2.2.2.2.2.2⟩
set_option maxRecDepth 20000 in
theorem cw_X0_81_5 : cwKV RX0 81 5 6 := ⟨⟨mb_5.1, Or.inl kw_636, mb_5.2.1, mb_5.2.2.1, mb_5.2.2.2.1, mb_5.2.2.2.2.1, by decide, by decide⟩, mb_5.2.2.2.2.2.1, mb_5.2.2.2.2.2.2⟩
set_option maxRecDepth 20000 in
theorem cw_X0_103_25 : cwKV RX0 103 25 4 := ⟨⟨mb_25.1, Or.inl kw_609, mb_25.2.1, mb_25.2.2.1, mb_25.2.2.2.1, mb_25.2.2.2.2.1, by decide, by decide⟩, mb_25.2.2.2.2.2.1, mb_25.2.2.2.2.2.2⟩
set_option maxRecDepth 20000 in
theorem cw_X0_119_7 : cwKV RX0 119 7 3 := ⟨⟨mb_7.1, Or.inl kw_613, mb_7.2.1, mb_7.2.2.1, mb_7.2.2.2.1, mb_7.2.2.2.2.1, by decide, by decide⟩, mb_7.2.2.2.2.2.1, mb_7.2.2.2.2.2.2⟩
set_option maxRecDepth 20000 in
theorem cw_X0_123_9 : cwKV RX0 123 9 0 := ⟨⟨mb_9.1, Or.inl kw_624, mb_9.2.1, mb_9.2.2.1, mb_9.2.2.2.1, mb_9.2.2.2.2.1, by decide, by decide⟩, mb_9.2.2.2.2.2.1, mb_9.2.2.2.2.2.2⟩
set_option maxRecDepth 20000 in
theorem cw_X0_126_29 : cwKV RX0 126 29 0 := ⟨⟨mb_29.1, Or.inl kw_640, mb_29.2.1, mb_29.2.2.1, mb_29.2.2.2.1, mb_29.2.2.2.2.1, by decide, by decide⟩, mb_29.2.2.2.2.2.1, mb_29.2.2.2.2.2.2⟩
set_option maxRecDepth 20000 in
theorem cw_X0_130_28 : cwKV RX0 130 28 1 := ⟨⟨mb_28.1, Or.inl kw_644, mb_28.2.1, mb_28.2.2.1, mb_28.2.2.2.1, mb_28.2.2.2.2.1, by decide, by decide⟩, mb_28.2.2.2.2.2.1, mb_28.2.2.2.2.2.2⟩
set_option maxRecDepth 20000 in
theorem cw_X0_134_26 : cwKV RX0 134 26 2 := ⟨⟨mb_26.1, Or.inl kw_617, mb_26.2.1, mb_26.2.2.1, mb_26.2.2.2.1, mb_26.2.2.2.2.1, by decide, by decide⟩, mb_26.2.2.2.2.2.1, mb_26.2.2.2.2.2.2⟩
set_option maxRecDepth 20000 in
theorem cw_X0_140_33 : cwKV RX0 140 33 4 := ⟨⟨mb_33.1, Or.inl kw_648, mb_33.2.1, mb_33.2.2.1, mb_33.2.2.2.1, mb_33.2.2.2.2.1, by decide, by decide⟩, mb_33.2.2.2.2.2.1, mb_33.2.2.2.2.2.2⟩
set_option maxRecDepth 20000 in
theorem cw_X0_144_27 : cwKV RX0 144 27 1 := ⟨⟨mb_27.1, Or.inl kw_632, mb_27.2.1, mb_27.2.2.1, mb_27.2.2.2.1, mb_27.2.2.2.2.1, by decide, by decide⟩, mb_27.2.2.2.2.2.1, mb_27.2.2.2.2.2.2⟩
set_option maxRecDepth 20000 in
theorem cw_X0_147_6 : cwKV RX0 147 6 3 := ⟨⟨mb_6.1, Or.inl kw_652, mb_6.2.1, mb_6.2.2.1, mb_6.2.2.2.1, mb_6.2.2.2.2.1, by decide, by decide⟩, mb_6.2.2.2.2.2.1, mb_6.2.2.2.2.2.2⟩
set_option maxRecDepth 20000 in
theorem cw_X0_150_8 : cwKV RX0 150 8 1 := ⟨⟨mb_8.1, Or.inl kw_656, mb_8.2.1, mb_8.2.2.1, mb_8.2.2.2.1, mb_8.2.2.2.2.1, by decide, by decide⟩, mb_8.2.2.2.2.2.1, mb_8.2.2.2.2.2.2⟩
set_option maxRecDepth 20000 in
theorem cw_X0_176_34 : cwKV RX0 176 34 2 := ⟨⟨mb_34.1, Or.inl kw_759, mb_34.2.1, mb_34.2.2.1, mb_34.2.2.2.1, mb_34.2.2.2.2.1, by decide, by decide⟩, mb_34.2.2.2.2.2.1, mb_34.2.2.2.2.2.2⟩
set_option maxRecDepth 20000 in
theorem cw_X0_180_35 : cwKV RX0 180 35 2 := ⟨⟨mb_35.1, Or.inl kw_771, mb_35.2.1, mb_35.2.2.1, mb_35.2.2.2.1, mb_35.2.2.2.2.1, by decide, by decide⟩, mb_35.2.2.2.2.2.1, mb_35.2.2.2.2.2.2⟩
set_option maxRecDepth 20000 in
theorem cw_X1_25_18 : cwKV RX1 25 18 1 := ⟨⟨mb_18.1, Or.inl kw_887, mb_18.2.1, mb_18.2.2.1, mb_18.2.2.2.1, mb_18.2.2.2.2.1, by decide, by decide⟩, mb_18.2.2.2.2.2.1, mb_18.2.2.2.2.2.2⟩
set_option maxRecDepth 20000 in
theorem cw_X2_17_58 : cwKI RX2 17 58 1 := ⟨⟨mb_58.1, Or.inl kw_333, mb_58.2.1, mb_58.2.2.1, mb_58.2.2.2.1, mb_58.2.2.2.2.1, by decide, by decide⟩, mb_58.2.2.2.2.2.1, rfl, rfl⟩
set_option maxRecDepth 20000 in
theorem cw_X2_24_63 : cwKV RX2 24 63 1 := ⟨⟨mb_63.1, Or.inl kw_942, mb_63.2.1, mb_63.2.2.1, mb_63.2.2.2.1, mb_63.2.2.2.2.1, by decide, by decide⟩, mb_63.2.2.2.2.2.1, mb_63.2.2.2.2.2.2⟩
set_option maxRecDepth 20000 in
theorem cw_X4_17_23 : cwKI RX4 17 23 0 := ⟨⟨mb_23.1, Or.inr ⟨RX9, by decide +kernel⟩, mb_23.2.1, mb_23.2.2.1, mb_23.2.2.2.1, mb_23.2.2.2.2.1, by decide, by decide⟩, mb_23.2.2.2.2.2.1, rfl, rfl⟩
set_option maxRecDepth 20000 in
theorem cw_X6_29_53 : cwKV RX6 29 53 0 := ⟨⟨mb_53.1, Or.inl kw_435, mb_53.2.1, mb_53.2.2.1, mb_53.2.2.2.1, mb_53.2.2.2.2.1, by decide, by decide⟩, mb_53.2.2.2.2.2.1, mb_53.2.2.2.2.2.2⟩
set_option maxRecDepth 20000 in
theorem cw_X6_37_48 : cwKV RX6 37 48 0 := ⟨⟨mb_48.1, Or.inl kw_439, mb_48.2.1, mb_48.2.2.1, mb_48.2.2.2.1, mb_48.2.2.2.2.1, by decide, by decide⟩, mb_48.2.2.2.2.2.1, mb_48.2.2.2.2.2.2⟩
set_option maxRecDepth 20000 in
theorem cw_X6_40_38 : cwKV RX6 40 38 0 := ⟨⟨mb_38.1, Or.inl kw_453, mb_38.2.1, mb_38.2.2.1, mb_38.2.2.2.1, mb_38.2.2.2.2.1, by decide, by decide⟩, mb_38.2.2.2.2.2.1, mb_38.2.2.2.2.2.2⟩
set_option maxRecDepth 20000 in
theorem cw_X6_47_44 : cwKV RX6 47 44 1 := ⟨⟨mb_44.1, Or.inl kw_457, mb_44.2.1, mb_44.2.2.1, mb_44.2.2.2.1, mb_44.2.2.2.2.1, by decide, by decide⟩, mb_44.2.2.2.2.2.1, mb_44.2.2.2.2.2.2⟩
set_option maxRecDepth 20000 in
theorem cw_X6_53_47 : cwKV RX6 53 47 1 := ⟨⟨mb_47.1, Or.inl kw_462, mb_47.2.1, mb_47.2.2.1, mb_47.2.2.2.1, mb_47.2.2.2.2.1, by decide, by decide⟩, mb_47.2.2.2.2.2.1, mb_47.2.2.2.2.2.2⟩
set_option maxRecDepth 20000 in
theorem cw_X6_57_39 : cwKV RX6 57 39 0 := ⟨⟨mb_39.1, Or.inl kw_514, mb_39.2.1, mb_39.2.2.1, mb_39.2.2.2.1, mb_39.2.2.2.2.1, by decide, by decide⟩, mb_39.2.2.2.2.2.1, mb_39.2.2.2.2.2.2⟩
set_option maxRecDepth 20000 in
theorem cw_X6_60_45 : cwKV RX6 60 45 0 := ⟨⟨mb_45.1, Or.inl kw_523, mb_45.2.1, mb_45.2.2.1, mb_45.2.2.2.1, mb_45.2.2.2.2.1, by decide, by decide⟩, mb_45.2.2.2.2.2.1, mb_45.2.2.2.2.2.2⟩
set_option maxRecDepth 20000 in
theorem cw_X6_72_40 : cwKV RX6 72 40 1 := ⟨⟨mb_40.1, Or.inl kw_532, mb_40.2.1, mb_40.2.2.1, mb_40.2.2.2.1, mb_40.2.2.2.2.1, by decide, by decide⟩, mb_40.2.2.2.2.2.1, mb_40.2.2.2.2.2.2⟩
set_option maxRecDepth 20000 in
theorem cw_X6_75_41 : cwKV RX6 75 41 0 := ⟨⟨mb_41.1, Or.inl kw_552, mb_41.2.1, mb_41.2.2.1, mb_41.2.2.2.1, mb_41.2.2.2.2.1, by decide, by decide⟩, mb_41.2.2.2.2.2.1, mb_41.2.2.2.2.2.2⟩
set_option maxRecDepth 20000 in
theorem cw_X6_78_42 : cwKV RX6 78 42 0 := ⟨⟨mb_42.1, Or.inl kw_568, mb_42.2.1, mb_42.2.2.1, mb_42.2.2.2.1, mb_42.2.2.2.2.1, by decide, by decide⟩, mb_42.2.2.2.2.2.1, mb_42.2.2.2.2.2.2⟩
set_option maxRecDepth 20000 in
theorem cw_X6_83_43 : cwKV RX6 83 43 2 := ⟨⟨mb_43.1, Or.inl kw_519, mb_43.2.1, mb_43.2.2.1, mb_43.2.2.2.1, mb_43.2.2.2.2.1, by decide, by decide⟩, mb_43.2.2.2.2.2.1, mb_43.2.2.2.2.2.2⟩
set_option maxRecDepth 20000 in
theorem cw_X6_101_61 : cwKV RX6 101 61 0 := ⟨⟨mb_61.1, Or.inl kw_536, mb_61.2.1, mb_61.2.2.1, mb_61.2.2.2.1, mb_61.2.2.2.2.1, by decide, by decide⟩, mb_61.2.2.2.2.2.1, mb_61.2.2.2.2.2.2⟩
set_option maxRecDepth 20000 in
theorem cw_X6_104_46 : cwKV RX6 104 46 0 := ⟨⟨mb_46.1, Or.inl kw_540, mb_46.2.1, mb_46.2.2.1, mb_46.2.2.2.1, mb_46.2.2.2.2.1, by decide, by decide⟩, mb_46.2.2.2.2.2.1, mb_46.2.2.2.2.2.2⟩
set_option maxRecDepth 20000 in
theorem cw_X6_107_64 : cwKV RX6 107 64 6 := ⟨⟨mb_64.1, Or.inl kw_548, mb_64.2.1, mb_64.2.2.1, mb_64.2.2.2.1, mb_64.2.2.2.2.1, by decide, by decide⟩, mb_64.2.2.2.2.2.1, mb_64.2.2.2.2.2.2⟩
set_option maxRecDepth 20000 in
theorem cw_X6_114_59 : cwKV RX6 114 59 1 := ⟨⟨mb_59.1, Or.inl kw_556, mb_59.2.1, mb_59.2.2.1, mb_59.2.2.2.1, mb_59.2.2.2.2.1, by decide, by decide⟩, mb_59.2.2.2.2.2.1, mb_59.2.2.2.2.2.2⟩
set_option maxRecDepth 20000 in
theorem cw_X6_121_54 : cwKV RX6 121 54 1 := ⟨⟨mb_54.1, Or.inl kw_560, mb_54.2.1, mb_54.2.2.1, mb_54.2.2.2.1, mb_54.2.2.2.2.1, by decide, by decide⟩, mb_54.2.2.2.2.2.1, mb_54.2.2.2.2.2.2⟩
set_option maxRecDepth 20000 in
theorem cw_X6_124_56 : cwKV RX6 124 56 2 := ⟨⟨mb_56.1, Or.inl kw_564, mb_56.2.1, mb_56.2.2.1, mb_56.2.2.2.1, mb_56.2.2.2.2.1, by decide, by decide⟩, mb_56.2.2.2.2.2.1, mb_56.2.2.2.2.2.2⟩
set_option maxRecDepth 20000 in
theorem cw_X6_131_60 : cwKV RX6 131 60 1 := ⟨⟨mb_60.1, Or.inl kw_572, mb_60.2.1, mb_60.2.2.1, mb_60.2.2.2.1, mb_60.2.2.2.2.1, by decide, by decide⟩, mb_60.2.2.2.2.2.1, mb_60.2.2.2.2.2.2⟩
set_option maxRecDepth 20000 in
theorem cw_X6_134_55 : cwKV RX6 134 55 1 := ⟨⟨mb_55.1, Or.inl kw_577, mb_55.2.1, mb_55.2.2.1, mb_55.2.2.2.1, mb_55.2.2.2.2.1, by decide, by decide⟩, mb_55.2.2.2.2.2.1, mb_55.2.2.2.2.2.2⟩
set_option maxRecDepth 20000 in
theorem cw_X6_142_57 : cwKV RX6 142 57 2 := ⟨⟨mb_57.1, Or.inl kw_584, mb_57.2.1, mb_57.2.2.1, mb_57.2.2.2.1, mb_57.2.2.2.2.1, by decide, by decide⟩, mb_57.2.2.2.2.2.1, mb_57.2.2.2.2.2.2⟩
set_option maxRecDepth 20000 in
theorem cw_X6_176_50 : cwKS RX6 176 50 1 := ⟨⟨mb_50.1, Or.inl kw_443, mb_50.2.1, mb_50.2.2.1, mb_50.2.2.2.1, mb_50.2.2.2.2.1, by decide, by decide⟩, mb_50.2.2.2.2.2⟩
set_option maxRecDepth 20000 in
theorem cw_X6_180_51 : cwKS RX6 180 51 1 := ⟨⟨mb_51.1, Or.inl kw_446, mb_51.2.1, mb_51.2.2.1, mb_51.2.2.2.1, mb_51.2.2.2.2.1, by decide, by decide⟩, mb_51.2.2.2.2.2⟩
set_option maxRecDepth 20000 in
theorem cw_X6_183_49 : cwKV RX6 183 49 0 := ⟨⟨mb_49.1, Or.inl kw_449, mb_49.2.1, mb_49.2.2.1, mb_49.2.2.2.1, mb_49.2.2.2.2.1, by decide, by decide⟩, mb_49.2.2.2.2.2.1, mb_49.2.2.2.2.2.2⟩
set_option maxRecDepth 20000 in
theorem cw_X7_11_58 : cwKI RX7 11 58 1 := ⟨⟨mb_58.1, Or.inl kw_76, mb_58.2.1, mb_58.2.2.1, mb_58.2.2.2.1, mb_58.2.2.2.2.1, by decide, by decide⟩, mb_58.2.2.2.2.2.1, rfl, rfl⟩
set_option maxRecDepth 20000 in
theorem cw_X8_37_59 : cwKV RX8 37 59 1 := ⟨⟨mb_59.1, Or.inl kw_576, mb_59.2.1, mb_59.2.2.1, mb_59.2.2.2.1, mb_59.2.2.2.2.1, by decide, by decide⟩, mb_59.2.2.2.2.2.1, mb_59.2.2.2.2.2.2⟩
set_option maxRecDepth 20000 in
theorem cw_X9_15_36 : cwKI RX9 15 36 0 := ⟨⟨mb_36.1, Or.inr ⟨RX9, by decide +kernel⟩, mb_36.2.1, mb_36.2.2.1, mb_36.2.2.2.1, mb_36.2.2.2.2.1, by decide, by decide⟩, mb_36.2.2.2.2.2.1, rfl, rfl⟩
set_option maxRecDepth 20000 in
theorem cw_X9_22_52 : cwKI RX9 22 52 0 := ⟨⟨mb_52.1, Or.inr ⟨RX9, by decide +kernel⟩, mb_52.2.1, mb_52.2.2.1, mb_52.2.2.2.1, mb_52.2.2.2.2.1, by decide, by decide⟩, mb_52.2.2.2.2.2.1, rfl, rfl⟩
set_option maxRecDepth 20000 in
theorem cw_X9_32_58 : cwKI RX9 32 58 1 := ⟨⟨mb_58.1, Or.inl kw_165, mb_58.2.1, mb_58.2.2.1, mb_58.2.2.2.1, mb_58.2.2.2.2.1, by decide, by decide⟩, mb_58.2.2.2.2.2.1, rfl, rfl⟩
set_option maxRecDepth 20000 in
theorem cw_X9_44_0 : cwKI RX9 44 0 0 := ⟨⟨mb_0.1, Or.inl kw_168, mb_0.2.1, mb_0.2.2.1, mb_0.2.2.2.1, mb_0.2.2.2.2.1, by decide, by decide⟩, mb_0.2.2.2.2.2.1, rfl, rfl⟩
set_option maxRecDepth 20000 in
theorem cw_X9_54_20 : cwKI RX9 54 20 0 := ⟨⟨mb_20.1, Or.inl kw_327, mb_20.2.1, mb_20.2.2.1, mb_20.2.2.2.1, mb_20.2.2.2.2.1, by decide, by decide⟩, mb_20.2.2.2.2.2.1, rfl, rfl⟩
set_option maxRecDepth 20000 in
theorem cw_X9_65_15 : cwKI RX9 65 15 0 := ⟨⟨mb_15.1, Or.inr ⟨RX9, by decide +kernel⟩, mb_15.2.1, mb_15.2.2.1, mb_15.2.2.2.1, mb_15.2.2.2.2.1, by decide, by decide⟩, mb_15.2.2.2.2.2.1, rfl, rfl⟩
set_option maxRecDepth 20000 in
theorem cw_X9_74_68 : cwKV RX9 74 68 1 := ⟨⟨mb_68.1, Or.inl kw_416, mb_68.2.1, mb_68.2.2.1, mb_68.2.2.2.1, mb_68.2.2.2.2.1, by decide, by decide⟩, mb_68.2.2.2.2.2.1, mb_68.2.2.2.2.2.2⟩
set_option maxRecDepth 20000 in
theorem cw_X9_77_129 : cwKV RX9 77 129 1 := ⟨⟨mb_129.1, Or.inl kw_424, mb_129.2.1, mb_129.2.2.1, mb_129.2.2.2.1, mb_129.2.2.2.2.1, by decide, by decide⟩, mb_129.2.2.2.2.2.1, mb_129.2.2.2.2.2.2⟩
set_option maxRecDepth 20000 in
theorem cw_X9_81_37 : cwKV RX9 81 37 3 := ⟨⟨mb_37.1, Or.inl kw_428, mb_37.2.1, mb_37.2.2.1, mb_37.2.2.2.1, mb_37.2.2.2.2.1, by decide, by decide⟩, mb_37.2.2.2.2.2.1, mb_37.2.2.2.2.2.2⟩
set_option maxRecDepth 20000 in
theorem cw_X9_91_70 : cwKV RX9 91 70 2 := ⟨⟨mb_70.1, Or.inl kw_588, mb_70.2.1, mb_70.2.2.1, mb_70.2.2.2.1, mb_70.2.2.2.2.1, by decide, by decide⟩, mb_70.2.2.2.2.2.1, mb_70.2.2.2.2.2.2⟩
set_option maxRecDepth 20000 in
theorem cw_X9_101_1 : cwKV RX9 101 1 3 := ⟨⟨mb_1.1, Or.inl kw_592, mb_1.2.1, mb_1.2.2.1, mb_1.2.2.2.1, mb_1.2.2.2.2.1, by decide, by decide⟩, mb_1.2.2.2.2.2.1, mb_1.2.2.2.2.2.2⟩
set_option maxRecDepth 20000 in
theorem cw_X9_105_71 : cwKV RX9 105 71 0 := ⟨⟨mb_71.1, Or.inl kw_660, mb_71.2.1, mb_71.2.2.1, mb_71.2.2.2.1, mb_71.2.2.2.2.1, by decide, by decide⟩, mb_71.2.2.2.2.2.1, mb_71.2.2.2.2.2.2⟩
set_option maxRecDepth 20000 in
theorem cw_X9_120_63 : cwKV RX9 120 63 1 := ⟨⟨mb_63.1, Or.inl kw_664, mb_63.2.1, mb_63.2.2.1, mb_63.2.2.2.1, mb_63.2.2.2.2.1, by decide, by decide⟩, mb_63.2.2.2.2.2.1, mb_63.2.2.2.2.2.2⟩
set_option maxRecDepth 20000 in
theorem cw_X9_124_72 : cwKV RX9 124 72 0 := ⟨⟨mb_72.1, Or.inl kw_672, mb_72.2.1, mb_72.2.2.1, mb_72.2.2.2.1, mb_72.2.2.2.2.1, by decide, by decide⟩, mb_72.2.2.2.2.2.1, mb_72.2.2.2.2.2.2⟩
set_option maxRecDepth 20000 in
theorem cw_X9_140_59 : cwKV RX9 140 59 1 := ⟨⟨mb_59.1, Or.inl kw_688, mb_59.2.1, mb_59.2.2.1, mb_59.2.2.2.1, mb_59.2.2.2.2.1, by decide, by decide⟩, mb_59.2.2.2.2.2.1, mb_59.2.2.2.2.2.2⟩
set_option maxRecDepth 20000 in
theorem cw_X9_169_130 : cwKV RX9 169 130 1 := ⟨⟨mb_130.1, Or.inl kw_697, mb_130.2.1, mb_130.2.2.1, mb_130.2.2.2.1, mb_130.2.2.2.2.1, by decide, by decide⟩, mb_130.2.2.2.2.2.1, mb_130.2.2.2.2.2.2⟩
set_option maxRecDepth 20000 in
theorem cw_X9_176_29 : cwKV RX9 176 29 0 := ⟨⟨mb_29.1, Or.inl kw_701, mb_29.2.1, mb_29.2.2.1, mb_29.2.2.2.1, mb_29.2.2.2.2.1, by decide, by decide⟩, mb_29.2.2.2.2.2.1, mb_29.2.2.2.2.2.2⟩
set_option maxRecDepth 20000 in
theorem cw_X9_182_30 : cwKV RX9 182 30 0 := ⟨⟨mb_30.1, Or.inl kw_706, mb_30.2.1, mb_30.2.2.1, mb_30.2.2.2.1, mb_30.2.2.2.2.1, by decide, by decide⟩, mb_30.2.2.2.2.2.1, mb_30.2.2.2.2.2.2⟩
set_option maxRecDepth 20000 in
theorem cw_X9_187_131 : cwKV RX9 187 131 2 := ⟨⟨mb_131.1, Or.inl kw_718, mb_131.2.1, mb_131.2.2.1, mb_131.2.2.2.1, mb_131.2.2.2.2.1, by decide, by decide⟩, mb_131.2.2.2.2.2.1, mb_131.2.2.2.2.2.2⟩
set_option maxRecDepth 20000 in
theorem cw_X9_214_83 : cwKS RX9 214 83 2 := ⟨⟨mb_83.1, Or.inl kw_730, mb_83.2.1, mb_83.2.2.1, mb_83.2.2.2.1, mb_83.2.2.2.2.1, by decide, by decide⟩, mb_83.2.2.2.2.2⟩
set_option maxRecDepth 20000 in
theorem cw_X9_218_133 : cwKS RX9 218 133 3 := ⟨⟨mb_133.1, Or.inl kw_737, mb_133.2.1, mb_133.2.2.1, mb_133.2.2.2.1, mb_133.2.2.2.2.1, by decide, by decide⟩, mb_133.2.2.2.2.2⟩
set_option maxRecDepth 20000 in
theorem cw_X9_222_31 : cwKV RX9 222 31 0 := ⟨⟨mb_31.1, Or.inl kw_744, mb_31.2.1, mb_31.2.2.1, mb_31.2.2.2.1, mb_31.2.2.2.2.1, by decide, by decide⟩, mb_31.2.2.2.2.2.1, mb_31.2.2.2.2.2.2⟩
set_option maxRecDepth 20000 in
theorem cw_X9_230_60 : cwKV RX9 230 60 1 := ⟨⟨mb_60.1, Or.inl kw_754, mb_60.2.1, mb_60.2.2.1, mb_60.2.2.2.1, mb_60.2.2.2.2.1, by decide, by decide⟩, mb_60.2.2.2.2.2.1, mb_60.2.2.2.2.2.2⟩
set_option maxRecDepth 20000 in
theorem cw_X9_233_11 : cwKV RX9 233 11 1 := ⟨⟨mb_11.1, Or.inl kw_755, mb_11.2.1, mb_11.2.2.1, mb_11.2.2.2.1, mb_11.2.2.2.2.1, by decide, by decide⟩, mb_11.2.2.2.2.2.1, mb_11.2.2.2.2.2.2⟩
set_option maxRecDepth 20000 in
theorem cw_X9_237_12 : cwKV RX9 237 12 1 := ⟨⟨mb_12.1, Or.inl kw_767, mb_12.2.1, mb_12.2.2.1, mb_12.2.2.2.1, mb_12.2.2.2.2.1, by decide, by decide⟩, mb_12.2.2.2.2.2.1, mb_12.2.2.2.2.2.2⟩
set_option maxRecDepth 20000 in
theorem cw_X9_243_132 : cwKV RX9 243 132 2 := ⟨⟨mb_132.1, Or.inl kw_783, mb_132.2.1, mb_132.2.2.1, mb_132.2.2.2.1, mb_132.2.2.2.2.1, by decide, by decide⟩, mb_132.2.2.2.2.2.1, mb_132.2.2.2.2.2.2⟩
set_option maxRecDepth 20000 in
theorem cw_X9_269_13 : cwKV RX9 269 13 0 := ⟨⟨mb_13.1, Or.inl kw_795, mb_13.2.1, mb_13.2.2.1, mb_13.2.2.2.1, mb_13.2.2.2.2.1, by decide, by decide⟩, mb_13.2.2.2.2.2.1, mb_13.2.2.2.2.2.2⟩
set_option maxRecDepth 20000 in
theorem cw_X9_272_14 : cwKV RX9 272 14 0 := ⟨⟨mb_14.1, Or.inl kw_803, mb_14.2.1, mb_14.2.2.1, mb_14.2.2.2.1, mb_14.2.2.2.2.1, by decide, by decide⟩, mb_14.2.2.2.2.2.1, mb_14.2.2.2.2.2.2⟩
set_option maxRecDepth 20000 in
theorem cw_X9_281_98 : cwKV RX9 281 98 1 := ⟨⟨mb_98.1, Or.inl kw_819, mb_98.2.1, mb_98.2.2.1, mb_98.2.2.2.1, mb_98.2.2.2.2.1, by decide, by decide⟩, mb_98.2.2.2.2.2.1, mb_98.2.2.2.2.2.2⟩
set_option maxRecDepth 20000 in
theorem cw_X9_284_109 : cwKV RX9 284 109 0 := ⟨⟨mb_109.1, Or.inl kw_847, mb_109.2.1, mb_109.2.2.1, mb_109.2.2.2.1, mb_109.2.2.2.2.1, by decide, by decide⟩, mb_109.2.2.2.2.2.1, mb_109.2.2.2.2.2.2⟩
set_option maxRecDepth 20000 in
theorem cw_X9_291_16 : cwKV RX9 291 16 0 := ⟨⟨mb_16.1, Or.inl kw_867, mb_16.2.1, mb_16.2.2.1, mb_16.2.2.2.1, mb_16.2.2.2.2.1, by decide, by decide⟩, mb_16.2.2.2.2.2.1, mb_16.2.2.2.2.2.2⟩
set_option maxRecDepth 20000 in
theorem cw_X9_294_17 : cwKV RX9 294 17 0 := ⟨⟨mb_17.1, Or.inl kw_875, mb_17.2.1, mb_17.2.2.1, mb_17.2.2.2.1, mb_17.2.2.2.2.1, by decide, by decide⟩, mb_17.2.2.2.2.2.1, mb_17.2.2.2.2.2.2⟩
set_option maxRecDepth 20000 in
theorem cw_X9_300_19 : cwKV RX9 300 19 1 := ⟨⟨mb_19.1, Or.inl kw_883, mb_19.2.1, mb_19.2.2.1, mb_19.2.2.2.1, mb_19.2.2.2.2.1, by decide, by decide⟩, mb_19.2.2.2.2.2.1, mb_19.2.2.2.2.2.2⟩
set_option maxRecDepth 20000 in
theorem cw_X9_303_18 : cwKV RX9 303 18 1 := ⟨⟨mb_18.1, Or.inl kw_896, mb_18.2.1, mb_18.2.2.1, mb_18.2.2.2.1, mb_18.2.2.2.2.1, by decide, by decide⟩, mb_18.2.2.2.2.2.1, mb_18.2.2.2.2.2.2⟩
set_option maxRecDepth 20000 in
theorem cw_X9_306_111 : cwKV RX9 306 111 0 := ⟨⟨mb_111.1, Or.inl kw_855, mb_111.2.1, mb_111.2.2.1, mb_111.2.2.2.1, mb_111.2.2.2.2.1, by decide, by decide⟩, mb_111.2.2.2.2.2.1, mb_111.2.2.2.2.2.2⟩
set_option maxRecDepth 20000 in
theorem cw_X9_309_110 : cwKV RX9 309 110 1 := ⟨⟨mb_110.1, Or.inl kw_851, mb_110.2.1, mb_110.2.2.1, mb_110.2.2.2.1, mb_110.2.2.2.2.1, by decide, by decide⟩, mb_110.2.2.2.2.2.1, mb_110.2.2.2.2.2.2⟩
set_option maxRecDepth 20000 in
theorem cw_X9_328_114 : cwKV RX9 328 114 2 := ⟨⟨mb_114.1, Or.inl kw_906, mb_114.2.1, mb_114.2.2.1, mb_114.2.2.2.1, mb_114.2.2.2.2.1, by decide, by decide⟩, mb_114.2.2.2.2.2.1, mb_114.2.2.2.2.2.2⟩
set_option maxRecDepth 20000 in
theorem cw_X9_332_62 : cwKV RX9 332 62 0 := ⟨⟨mb_62.1, Or.inl kw_910, mb_62.2.1, mb_62.2.2.1, mb_62.2.2.2.1, mb_62.2.2.2.2.1, by decide, by decide⟩, mb_62.2.2.2.2.2.1, mb_62.2.2.2.2.2.2⟩
set_option maxRecDepth 20000 in
theorem cw_X9_335_115 : cwKS RX9 335 115 1 := ⟨⟨mb_115.1, Or.inl kw_915, mb_115.2.1, mb_115.2.2.1, mb_115.2.2.2.1, mb_115.2.2.2.2.1, by decide, by decide⟩, mb_115.2.2.2.2.2⟩
set_option maxRecDepth 20000 in
theorem cw_X9_338_5 : cwKV RX9 338 5 6 := ⟨⟨mb_5.1, Or.inl kw_919, mb_5.2.1, mb_5.2.2.1, mb_5.2.2.2.1, mb_5.2.2.2.2.1, by decide, by decide⟩, mb_5.2.2.2.2.2.1, mb_5.2.2.2.2.2.2⟩
set_option maxRecDepth 20000 in
theorem cw_X9_342_4 : cwKV RX9 342 4 5 := ⟨⟨mb_4.1, Or.inl kw_920, mb_4.2.1, mb_4.2.2.1, mb_4.2.2.2.1, mb_4.2.2.2.2.1, by decide, by decide⟩, mb_4.2.2.2.2.2.1, mb_4.2.2.2.2.2.2⟩
set_option maxRecDepth 20000 in
theorem cw_X9_347_119 : cwKV RX9 347 119 6 := ⟨⟨mb_119.1, Or.inl kw_929, mb_119.2.1, mb_119.2.2.1, mb_119.2.2.2.1, mb_119.2.2.2.2.1, by decide, by decide⟩, mb_119.2.2.2.2.2.1, mb_119.2.2.2.2.2.2⟩
set_option maxRecDepth 20000 in
theorem cw_X9_351_61 : cwKV RX9 351 61 0 := ⟨⟨mb_61.1, Or.inl kw_951, mb_61.2.1, mb_61.2.2.1, mb_61.2.2.2.1, mb_61.2.2.2.2.1, by decide, by decide⟩, mb_61.2.2.2.2.2.1, mb_61.2.2.2.2.2.2⟩
set_option maxRecDepth 20000 in
theorem cw_X9_354_64 : cwKV RX9 354 64 6 := ⟨⟨mb_64.1, Or.inl kw_933, mb_64.2.1, mb_64.2.2.1, mb_64.2.2.2.1, mb_64.2.2.2.2.1, by decide, by decide⟩, mb_64.2.2.2.2.2.1, mb_64.2.2.2.2.2.2⟩
set_option maxRecDepth 20000 in
theorem cw_X9_358_122 : cwKV RX9 358 122 0 := ⟨⟨mb_122.1, Or.inl kw_934, mb_122.2.1, mb_122.2.2.1, mb_122.2.2.2.1, mb_122.2.2.2.2.1, by decide, by decide⟩, mb_122.2.2.2.2.2.1, mb_122.2.2.2.2.2.2⟩
set_option maxRecDepth 20000 in
theorem cw_X9_362_65 : cwKV RX9 362 65 1 := ⟨⟨mb_65.1, Or.inl kw_956, mb_65.2.1, mb_65.2.2.1, mb_65.2.2.2.1, mb_65.2.2.2.2.1, by decide, by decide⟩, mb_65.2.2.2.2.2.1, mb_65.2.2.2.2.2.2⟩
set_option maxRecDepth 20000 in
theorem cw_X9_365_21 : cwKV RX9 365 21 1 := ⟨⟨mb_21.1, Or.inl kw_938, mb_21.2.1, mb_21.2.2.1, mb_21.2.2.2.1, mb_21.2.2.2.2.1, by decide, by decide⟩, mb_21.2.2.2.2.2.1, mb_21.2.2.2.2.2.2⟩
set_option maxRecDepth 20000 in
theorem cw_X9_368_22 : cwKV RX9 368 22 1 := ⟨⟨mb_22.1, Or.inl kw_968, mb_22.2.1, mb_22.2.2.1, mb_22.2.2.2.1, mb_22.2.2.2.2.1, by decide, by decide⟩, mb_22.2.2.2.2.2.1, mb_22.2.2.2.2.2.2⟩
set_option maxRecDepth 20000 in
theorem cw_X11_101_138 : cwKV RX11 101 138 1 := ⟨⟨mb_138.1, Or.inl kw_1234, mb_138.2.1, mb_138.2.2.1, mb_138.2.2.2.1, mb_138.2.2.2.2.1, by decide, by decide⟩, mb_138.2.2.2.2.2.1, mb_138.2.2.2.2.2.2⟩
set_option maxRecDepth 20000 in
theorem cw_X11_105_140 : cwKV RX11 105 140 1 := ⟨⟨mb_140.1, Or.inl kw_1477, mb_140.2.1, mb_140.2.2.1, mb_140.2.2.2.1, mb_140.2.2.2.2.1, by decide, by decide⟩, mb_140.2.2.2.2.2.1, mb_140.2.2.2.2.2.2⟩
set_option maxRecDepth 20000 in
theorem cw_X11_108_144 : cwKS RX11 108 144 2 := ⟨⟨mb_144.1, Or.inl kw_1549, mb_144.2.1, mb_144.2.2.1, mb_144.2.2.2.1, mb_144.2.2.2.2.1, by decide, by decide⟩, mb_144.2.2.2.2.2⟩
set_option maxRecDepth 20000 in
theorem cw_X11_112_146 : cwKS RX11 112 146 3 := ⟨⟨mb_146.1, Or.inl kw_1375, mb_146.2.1, mb_146.2.2.1, mb_146.2.2.2.1, mb_146.2.2.2.2.1, by decide, by decide⟩, mb_146.2.2.2.2.2⟩
set_option maxRecDepth 20000 in
theorem cw_X11_137_149 : cwKV RX11 137 149 1 := ⟨⟨mb_149.1, Or.inl kw_1281, mb_149.2.1, mb_149.2.2.1, mb_149.2.2.2.1, mb_149.2.2.2.2.1, by decide, by decide⟩, mb_149.2.2.2.2.2.1, mb_149.2.2.2.2.2.2⟩
set_option maxRecDepth 20000 in
theorem cw_X11_143_150 : cwKS RX11 143 150 1 := ⟨⟨mb_150.1, Or.inl kw_1285, mb_150.2.1, mb_150.2.2.1, mb_150.2.2.2.1, mb_150.2.2.2.2.1, by decide, by decide⟩, mb_150.2.2.2.2.2⟩
set_option maxRecDepth 20000 in
theorem cw_X11_151_151 : cwKS RX11 151 151 1 := ⟨⟨mb_151.1, Or.inl kw_1289, mb_151.2.1, mb_151.2.2.1, mb_151.2.2.2.1, mb_151.2.2.2.2.1, by decide, by decide⟩, mb_151.2.2.2.2.2⟩
set_option maxRecDepth 20000 in
theorem cw_X11_163_152 : cwKS RX11 163 152 1 := ⟨⟨mb_152.1, Or.inl kw_1305, mb_152.2.1, mb_152.2.2.1, mb_152.2.2.2.1, mb_152.2.2.2.2.1, by decide, by decide⟩, mb_152.2.2.2.2.2⟩
set_option maxRecDepth 20000 in
theorem cw_X11_167_153 : cwKV RX11 167 153 0 := ⟨⟨mb_153.1, Or.inl kw_1277, mb_153.2.1, mb_153.2.2.1, mb_153.2.2.2.1, mb_153.2.2.2.2.1, by decide, by decide⟩, mb_153.2.2.2.2.2.1, mb_153.2.2.2.2.2.2⟩
set_option maxRecDepth 20000 in
theorem cw_X11_170_156 : cwKV RX11 170 156 1 := ⟨⟨mb_156.1, Or.inl kw_1301, mb_156.2.1, mb_156.2.2.1, mb_156.2.2.2.1, mb_156.2.2.2.2.1, by decide, by decide⟩, mb_156.2.2.2.2.2.1, mb_156.2.2.2.2.2.2⟩
set_option maxRecDepth 20000 in
theorem cw_X11_174_155 : cwKV RX11 174 155 1 := ⟨⟨mb_155.1, Or.inl kw_1314, mb_155.2.1, mb_155.2.2.1, mb_155.2.2.2.1, mb_155.2.2.2.2.1, by decide, by decide⟩, mb_155.2.2.2.2.2.1, mb_155.2.2.2.2.2.2⟩
set_option maxRecDepth 20000 in
theorem cw_X11_178_142 : cwKS RX11 178 142 3 := ⟨⟨mb_142.1, Or.inl kw_1335, mb_142.2.1, mb_142.2.2.1, mb_142.2.2.2.1, mb_142.2.2.2.2.1, by decide, by decide⟩, mb_142.2.2.2.2.2⟩
set_option maxRecDepth 20000 in
theorem cw_X11_182_159 : cwKV RX11 182 159 2 := ⟨⟨mb_159.1, Or.inl kw_1331, mb_159.2.1, mb_159.2.2.1, mb_159.2.2.2.1, mb_159.2.2.2.2.1, by decide, by decide⟩, mb_159.2.2.2.2.2.1, mb_159.2.2.2.2.2.2⟩
set_option maxRecDepth 20000 in
theorem cw_X11_186_158 : cwKV RX11 186 158 1 := ⟨⟨mb_158.1, Or.inl kw_1323, mb_158.2.1, mb_158.2.2.1, mb_158.2.2.2.1, mb_158.2.2.2.2.1, by decide, by decide⟩, mb_158.2.2.2.2.2.1, mb_158.2.2.2.2.2.2⟩
set_option maxRecDepth 20000 in
theorem cw_X11_190_160 : cwKV RX11 190 160 2 := ⟨⟨mb_160.1, Or.inl kw_1327, mb_160.2.1, mb_160.2.2.1, mb_160.2.2.2.1, mb_160.2.2.2.2.1, by decide, by decide⟩, mb_160.2.2.2.2.2.1, mb_160.2.2.2.2.2.2⟩
set_option maxRecDepth 20000 in
theorem cw_X11_206_164 : cwKV RX11 206 164 3 := ⟨⟨mb_164.1, Or.inl kw_1387, mb_164.2.1, mb_164.2.2.1, mb_164.2.2.2.1, mb_164.2.2.2.2.1, by decide, by decide⟩, mb_164.2.2.2.2.2.1, mb_164.2.2.2.2.2.2⟩
set_option maxRecDepth 20000 in
theorem cw_X11_209_154 : cwKV RX11 209 154 0 := ⟨⟨mb_154.1, Or.inl kw_1338, mb_154.2.1, mb_154.2.2.1, mb_154.2.2.2.1, mb_154.2.2.2.2.1, by decide, by decide⟩, mb_154.2.2.2.2.2.1, mb_154.2.2.2.2.2.2⟩
set_option maxRecDepth 20000 in
theorem cw_X11_213_166 : cwKV RX11 213 166 0 := ⟨⟨mb_166.1, Or.inl kw_1296, mb_166.2.1, mb_166.2.2.1, mb_166.2.2.2.1, mb_166.2.2.2.2.1, by decide, by decide⟩, mb_166.2.2.2.2.2.1, mb_166.2.2.2.2.2.2⟩
set_option maxRecDepth 20000 in
theorem cw_X11_216_157 : cwKV RX11 216 157 0 := ⟨⟨mb_157.1, Or.inl kw_1402, mb_157.2.1, mb_157.2.2.1, mb_157.2.2.2.1, mb_157.2.2.2.2.1, by decide, by decide⟩, mb_157.2.2.2.2.2.1, mb_157.2.2.2.2.2.2⟩
set_option maxRecDepth 20000 in
theorem cw_X11_219_178 : cwKS RX11 219 178 2 := ⟨⟨mb_178.1, Or.inl kw_1406, mb_178.2.1, mb_178.2.2.1, mb_178.2.2.2.1, mb_178.2.2.2.2.1, by decide, by decide⟩, mb_178.2.2.2.2.2⟩
set_option maxRecDepth 20000 in
theorem cw_X11_226_191 : cwKV RX11 226 191 2 := ⟨⟨mb_191.1, Or.inl kw_1409, mb_191.2.1, mb_191.2.2.1, mb_191.2.2.2.1, mb_191.2.2.2.2.1, by decide, by decide⟩, mb_191.2.2.2.2.2.1, mb_191.2.2.2.2.2.2⟩
set_option maxRecDepth 20000 in
theorem cw_X11_235_167 : cwKV RX11 235 167 0 := ⟨⟨mb_167.1, Or.inl kw_1310, mb_167.2.1, mb_167.2.2.1, mb_167.2.2.2.1, mb_167.2.2.2.2.1, by decide, by decide⟩, mb_167.2.2.2.2.2.1, mb_167.2.2.2.2.2.2⟩
set_option maxRecDepth 20000 in
theorem cw_X11_240_169 : cwKV RX11 240 169 1 := ⟨⟨mb_169.1, Or.inl kw_1343, mb_169.2.1, mb_169.2.2.1, mb_169.2.2.2.1, mb_169.2.2.2.2.1, by decide, by decide⟩, mb_169.2.2.2.2.2.1, mb_169.2.2.2.2.2.2⟩
set_option maxRecDepth 20000 in
theorem cw_X11_247_171 : cwKV RX11 247 171 0 := ⟨⟨mb_171.1, Or.inl kw_1368, mb_171.2.1, mb_171.2.2.1, mb_171.2.2.2.1, mb_171.2.2.2.2.1, by decide, by decide⟩, mb_171.2.2.2.2.2.1, mb_171.2.2.2.2.2.2⟩
set_option maxRecDepth 20000 in
theorem cw_X11_252_172 : cwKV RX11 252 172 0 := ⟨⟨mb_172.1, Or.inl kw_1379, mb_172.2.1, mb_172.2.2.1, mb_172.2.2.2.1, mb_172.2.2.2.2.1, by decide, by decide⟩, mb_172.2.2.2.2.2.1, mb_172.2.2.2.2.2.2⟩
set_option maxRecDepth 20000 in
theorem cw_X11_257_173 : cwKV RX11 257 173 0 := ⟨⟨mb_173.1, Or.inl kw_1395, mb_173.2.1, mb_173.2.2.1, mb_173.2.2.2.1, mb_173.2.2.2.2.1, by decide, by decide⟩, mb_173.2.2.2.2.2.1, mb_173.2.2.2.2.2.2⟩
set_option maxRecDepth 20000 in
theorem cw_X11_261_161 : cwKV RX11 261 161 3 := ⟨⟨mb_161.1, Or.inl kw_1319, mb_161.2.1, mb_161.2.2.1, mb_161.2.2.2.1, mb_161.2.2.2.2.1, by decide, by decide⟩, mb_161.2.2.2.2.2.1, mb_161.2.2.2.2.2.2⟩
set_option maxRecDepth 20000 in
theorem cw_X11_265_168 : cwKV RX11 265 168 0 := ⟨⟨mb_168.1, Or.inl kw_1347, mb_168.2.1, mb_168.2.2.1, mb_168.2.2.2.1, mb_168.2.2.2.2.1, by decide, by decide⟩, mb_168.2.2.2.2.2.1, mb_168.2.2.2.2.2.2⟩
set_option maxRecDepth 20000 in
theorem cw_X11_268_162 : cwKV RX11 268 162 1 := ⟨⟨mb_162.1, Or.inl kw_1351, mb_162.2.1, mb_162.2.2.1, mb_162.2.2.2.1, mb_162.2.2.2.2.1, by decide, by decide⟩, mb_162.2.2.2.2.2.1, mb_162.2.2.2.2.2.2⟩
set_option maxRecDepth 20000 in
theorem cw_X11_272_170 : cwKV RX11 272 170 0 := ⟨⟨mb_170.1, Or.inl kw_1355, mb_170.2.1, mb_170.2.2.1, mb_170.2.2.2.1, mb_170.2.2.2.2.1, by decide, by decide⟩, mb_170.2.2.2.2.2.1, mb_170.2.2.2.2.2.2⟩
set_option maxRecDepth 20000 in
theorem cw_X11_275_147 : cwKS RX11 275 147 7 := ⟨⟨mb_147.1, Or.inl kw_1363, mb_147.2.1, mb_147.2.2.1, mb_147.2.2.2.1, mb_147.2.2.2.2.1, by decide, by decide⟩, mb_147.2.2.2.2.2⟩
set_option maxRecDepth 20000 in
theorem cw_X11_287_148 : cwKS RX11 287 148 1 := ⟨⟨mb_148.1, Or.inl kw_1372, mb_148.2.1, mb_148.2.2.1, mb_148.2.2.2.1, mb_148.2.2.2.2.1, by decide, by decide⟩, mb_148.2.2.2.2.2⟩
set_option maxRecDepth 20000 in
theorem cw_X11_294_163 : cwKV RX11 294 163 2 := ⟨⟨mb_163.1, Or.inl kw_1383, mb_163.2.1, mb_163.2.2.1, mb_163.2.2.2.1, mb_163.2.2.2.2.1, by decide, by decide⟩, mb_163.2.2.2.2.2.1, mb_163.2.2.2.2.2.2⟩
set_option maxRecDepth 20000 in
theorem cw_X11_299_135 : cwKS RX11 299 135 3 := ⟨⟨mb_135.1, Or.inr ⟨RX11, by decide +kernel⟩, mb_135.2.1, mb_135.2.2.1, mb_135.2.2.2.1, mb_135.2.2.2.2.1, by decide, by decide⟩, mb_135.2.2.2.2.2⟩
set_option maxRecDepth 20000 in
theorem cw_X11_321_134 : cwKI RX11 321 134 0 := ⟨⟨mb_134.1, Or.inr ⟨RX11, by decide +kernel⟩, mb_134.2.1, mb_134.2.2.1, mb_134.2.2.2.1, mb_134.2.2.2.2.1, by decide, by decide⟩, mb_134.2.2.2.2.2.1, rfl, rfl⟩
set_option maxRecDepth 20000 in
theorem cw_X11_322_165 : cwKV RX11 322 165 0 := ⟨⟨mb_165.1, Or.inl kw_1292, mb_165.2.1, mb_165.2.2.1, mb_165.2.2.2.1, mb_165.2.2.2.2.1, by decide, by decide⟩, mb_165.2.2.2.2.2.1, mb_165.2.2.2.2.2.2⟩
set_option maxRecDepth 20000 in
theorem cw_X11_333_181 : cwKV RX11 333 181 2 := ⟨⟨mb_181.1, Or.inl kw_1417, mb_181.2.1, mb_181.2.2.1, mb_181.2.2.2.1, mb_181.2.2.2.2.1, by decide, by decide⟩, mb_181.2.2.2.2.2.1, mb_181.2.2.2.2.2.2⟩
set_option maxRecDepth 20000 in
theorem cw_X11_337_183 : cwKV RX11 337 183 1 := ⟨⟨mb_183.1, Or.inl kw_1433, mb_183.2.1, mb_183.2.2.1, mb_183.2.2.2.1, mb_183.2.2.2.2.1, by decide, by decide⟩, mb_183.2.2.2.2.2.1, mb_183.2.2.2.2.2.2⟩
set_option maxRecDepth 20000 in
theorem cw_X11_340_182 : cwKV RX11 340 182 2 := ⟨⟨mb_182.1, Or.inl kw_1445, mb_182.2.1, mb_182.2.2.1, mb_182.2.2.2.1, mb_182.2.2.2.2.1, by decide, by decide⟩, mb_182.2.2.2.2.2.1, mb_182.2.2.2.2.2.2⟩
set_option maxRecDepth 20000 in
theorem cw_X11_346_185 : cwKV RX11 346 185 3 := ⟨⟨mb_185.1, Or.inl kw_1441, mb_185.2.1, mb_185.2.2.1, mb_185.2.2.2.1, mb_185.2.2.2.2.1, by decide, by decide⟩, mb_185.2.2.2.2.2.1, mb_185.2.2.2.2.2.2⟩
set_option maxRecDepth 20000 in
theorem cw_X11_351_180 : cwKV RX11 351 180 0 := ⟨⟨mb_180.1, Or.inl kw_1413, mb_180.2.1, mb_180.2.2.1, mb_180.2.2.2.1, mb_180.2.2.2.2.1, by decide, by decide⟩, mb_180.2.2.2.2.2.1, mb_180.2.2.2.2.2.2⟩
set_option maxRecDepth 20000 in
theorem cw_X11_357_192 : cwKV RX11 357 192 2 := ⟨⟨mb_192.1, Or.inl kw_1421, mb_192.2.1, mb_192.2.2.1, mb_192.2.2.2.1, mb_192.2.2.2.2.1, by decide, by decide⟩, mb_192.2.2.2.2.2.1, mb_192.2.2.2.2.2.2⟩
set_option maxRecDepth 20000 in
theorem cw_X11_360_193 : cwKV RX11 360 193 3 := ⟨⟨mb_193.1, Or.inl kw_1425, mb_193.2.1, mb_193.2.2.1, mb_193.2.2.2.1, mb_193.2.2.2.2.1, by decide, by decide⟩, mb_193.2.2.2.2.2.1, mb_193.2.2.2.2.2.2⟩
set_option maxRecDepth 20000 in
theorem cw_X11_363_194 : cwKV RX11 363 194 3 := ⟨⟨mb_194.1, Or.inl kw_1429, mb_194.2.1, mb_194.2.2.1, mb_194.2.2.2.1, mb_194.2.2.2.2.1, by decide, by decide⟩, mb_194.2.2.2.2.2.1, mb_194.2.2.2.2.2.2⟩
set_option maxRecDepth 20000 in
theorem cw_X11_366_195 : cwKV RX11 366 195 2 := ⟨⟨mb_195.1, Or.inl kw_1449, mb_195.2.1, mb_195.2.2.1, mb_195.2.2.2.1, mb_195.2.2.2.2.1, by decide, by decide⟩, mb_195.2.2.2.2.2.1, mb_195.2.2.2.2.2.2⟩
set_option maxRecDepth 20000 in
theorem cw_X11_369_197 : cwKV RX11 369 197 4 := ⟨⟨mb_197.1, Or.inl kw_1473, mb_197.2.1, mb_197.2.2.1, mb_197.2.2.2.1, mb_197.2.2.2.2.1, by decide, by decide⟩, mb_197.2.2.2.2.2.1, mb_197.2.2.2.2.2.2⟩
set_option maxRecDepth 20000 in
theorem cw_X11_373_190 : cwKV RX11 373 190 3 := ⟨⟨mb_190.1, Or.inl kw_1437, mb_190.2.1, mb_190.2.2.1, mb_190.2.2.2.1, mb_190.2.2.2.2.1, by decide, by decide⟩, mb_190.2.2.2.2.2.1, mb_190.2.2.2.2.2.2⟩
set_option maxRecDepth 20000 in
theorem cw_X11_376_186 : cwKV RX11 376 186 1 := ⟨⟨mb_186.1, Or.inl kw_1453, mb_186.2.1, mb_186.2.2.1, mb_186.2.2.2.1, mb_186.2.2.2.2.1, by decide, by decide⟩, mb_186.2.2.2.2.2.1, mb_186.2.2.2.2.2.2⟩
set_option maxRecDepth 20000 in
theorem cw_X11_379_188 : cwKV RX11 379 188 2 := ⟨⟨mb_188.1, Or.inl kw_1457, mb_188.2.1, mb_188.2.2.1, mb_188.2.2.2.1, mb_188.2.2.2.2.1, by decide, by decide⟩, mb_188.2.2.2.2.2.1, mb_188.2.2.2.2.2.2⟩
set_option maxRecDepth 20000 in
theorem cw_X11_382_189 : cwKV RX11 382 189 3 := ⟨⟨mb_189.1, Or.inl kw_1461, mb_189.2.1, mb_189.2.2.1, mb_189.2.2.2.1, mb_189.2.2.2.2.1, by decide, by decide⟩, mb_189.2.2.2.2.2.1, mb_189.2.2.2.2.2.2⟩
set_option maxRecDepth 20000 in
theorem cw_X11_385_184 : cwKV RX11 385 184 2 := ⟨⟨mb_184.1, Or.inl kw_1465, mb_184.2.1, mb_184.2.2.1, mb_184.2.2.2.1, mb_184.2.2.2.2.1, by decide, by decide⟩, mb_184.2.2.2.2.2.1, mb_184.2.2.2.2.2.2⟩
set_option maxRecDepth 20000 in
theorem cw_X11_388_196 : cwKV RX11 388 196 2 := ⟨⟨mb_196.1, Or.inl kw_1469, mb_196.2.1, mb_196.2.2.1, mb_196.2.2.2.1, mb_196.2.2.2.2.1, by decide, by decide⟩, mb_196.2.2.2.2.2.1, mb_196.2.2.2.2.2.2⟩
set_option maxRecDepth 20000 in
theorem cw_X11_391_179 : cwKV RX11 391 179 0 := ⟨⟨mb_179.1, Or.inl kw_1497, mb_179.2.1, mb_179.2.2.1, mb_179.2.2.2.1, mb_179.2.2.2.2.1, by decide, by decide⟩, mb_179.2.2.2.2.2.1, mb_179.2.2.2.2.2.2⟩
set_option maxRecDepth 20000 in
theorem cw_X11_394_203 : cwKV RX11 394 203 1 := ⟨⟨mb_203.1, Or.inl kw_1493, mb_203.2.1, mb_203.2.2.1, mb_203.2.2.2.1, mb_203.2.2.2.2.1, by decide, by decide⟩, mb_203.2.2.2.2.2.1, mb_203.2.2.2.2.2.2⟩
set_option maxRecDepth 20000 in
theorem cw_X11_397_202 : cwKV RX11 397 202 1 := ⟨⟨mb_202.1, Or.inl kw_1509, mb_202.2.1, mb_202.2.2.1, mb_202.2.2.2.1, mb_202.2.2.2.2.1, by decide, by decide⟩, mb_202.2.2.2.2.2.1, mb_202.2.2.2.2.2.2⟩
set_option maxRecDepth 20000 in
theorem cw_X11_400_198 : cwKV RX11 400 198 0 := ⟨⟨mb_198.1, Or.inl kw_1513, mb_198.2.1, mb_198.2.2.1, mb_198.2.2.2.1, mb_198.2.2.2.2.1, by decide, by decide⟩, mb_198.2.2.2.2.2.1, mb_198.2.2.2.2.2.2⟩
set_option maxRecDepth 20000 in
theorem cw_X11_403_187 : cwKV RX11 403 187 1 := ⟨⟨mb_187.1, Or.inl kw_1521, mb_187.2.1, mb_187.2.2.1, mb_187.2.2.2.1, mb_187.2.2.2.2.1, by decide, by decide⟩, mb_187.2.2.2.2.2.1, mb_187.2.2.2.2.2.2⟩
set_option maxRecDepth 20000 in
theorem cw_X11_407_210 : cwKV RX11 407 210 2 := ⟨⟨mb_210.1, Or.inl kw_1533, mb_210.2.1, mb_210.2.2.1, mb_210.2.2.2.1, mb_210.2.2.2.2.1, by decide, by decide⟩, mb_210.2.2.2.2.2.1, mb_210.2.2.2.2.2.2⟩
set_option maxRecDepth 20000 in
theorem cw_X11_410_145 : cwKV RX11 410 145 3 := ⟨⟨mb_145.1, Or.inl kw_1545, mb_145.2.1, mb_145.2.2.1, mb_145.2.2.2.1, mb_145.2.2.2.2.1, by decide, by decide⟩, mb_145.2.2.2.2.2.1, mb_145.2.2.2.2.2.2⟩
set_option maxRecDepth 20000 in
theorem cw_X11_414_214 : cwKV RX11 414 214 1 := ⟨⟨mb_214.1, Or.inl kw_1556, mb_214.2.1, mb_214.2.2.1, mb_214.2.2.2.1, mb_214.2.2.2.2.1, by decide, by decide⟩, mb_214.2.2.2.2.2.1, mb_214.2.2.2.2.2.2⟩
set_option maxRecDepth 20000 in
theorem cw_X11_417_215 : cwKV RX11 417 215 1 := ⟨⟨mb_215.1, Or.inl kw_1560, mb_215.2.1, mb_215.2.2.1, mb_215.2.2.2.1, mb_215.2.2.2.2.1, by decide, by decide⟩, mb_215.2.2.2.2.2.1, mb_215.2.2.2.2.2.2⟩
set_option maxRecDepth 20000 in
theorem cw_X11_421_204 : cwKV RX11 421 204 1 := ⟨⟨mb_204.1, Or.inl kw_1572, mb_204.2.1, mb_204.2.2.1, mb_204.2.2.2.1, mb_204.2.2.2.2.1, by decide, by decide⟩, mb_204.2.2.2.2.2.1, mb_204.2.2.2.2.2.2⟩
set_option maxRecDepth 20000 in
theorem cw_X11_424_199 : cwKV RX11 424 199 1 := ⟨⟨mb_199.1, Or.inl kw_1576, mb_199.2.1, mb_199.2.2.1, mb_199.2.2.2.1, mb_199.2.2.2.2.1, by decide, by decide⟩, mb_199.2.2.2.2.2.1, mb_199.2.2.2.2.2.2⟩
set_option maxRecDepth 20000 in
theorem cw_X11_427_200 : cwKV RX11 427 200 1 := ⟨⟨mb_200.1, Or.inl kw_1584, mb_200.2.1, mb_200.2.2.1, mb_200.2.2.2.1, mb_200.2.2.2.2.1, by decide, by decide⟩, mb_200.2.2.2.2.2.1, mb_200.2.2.2.2.2.2⟩
set_option maxRecDepth 20000 in
theorem cw_X11_430_221 : cwKV RX11 430 221 2 := ⟨⟨mb_221.1, Or.inl kw_1596, mb_221.2.1, mb_221.2.2.1, mb_221.2.2.2.1, mb_221.2.2.2.2.1, by decide, by decide⟩, mb_221.2.2.2.2.2.1, mb_221.2.2.2.2.2.2⟩
set_option maxRecDepth 20000 in
theorem cw_X11_433_201 : cwKV RX11 433 201 0 := ⟨⟨mb_201.1, Or.inl kw_1608, mb_201.2.1, mb_201.2.2.1, mb_201.2.2.2.1, mb_201.2.2.2.2.1, by decide, by decide⟩, mb_201.2.2.2.2.2.1, mb_201.2.2.2.2.2.2⟩
set_option maxRecDepth 20000 in
theorem cw_X11_437_228 : cwKV RX11 437 228 2 := ⟨⟨mb_228.1, Or.inl kw_1628, mb_228.2.1, mb_228.2.2.1, mb_228.2.2.2.1, mb_228.2.2.2.2.1, by decide, by decide⟩, mb_228.2.2.2.2.2.1, mb_228.2.2.2.2.2.2⟩
set_option maxRecDepth 20000 in
theorem cw_X11_440_143 : cwKS RX11 440 143 2 := ⟨⟨mb_143.1, Or.inl kw_1668, mb_143.2.1, mb_143.2.2.1, mb_143.2.2.2.1, mb_143.2.2.2.2.1, by decide, by decide⟩, mb_143.2.2.2.2.2⟩
set_option maxRecDepth 20000 in
theorem cw_X11_443_235 : cwKV RX11 443 235 1 := ⟨⟨mb_235.1, Or.inl kw_1664, mb_235.2.1, mb_235.2.2.1, mb_235.2.2.2.1, mb_235.2.2.2.2.1, by decide, by decide⟩, mb_235.2.2.2.2.2.1, mb_235.2.2.2.2.2.2⟩
set_option maxRecDepth 20000 in
theorem cw_X11_446_236 : cwKV RX11 446 236 0 := ⟨⟨mb_236.1, Or.inl kw_1671, mb_236.2.1, mb_236.2.2.1, mb_236.2.2.2.1, mb_236.2.2.2.2.1, by decide, by decide⟩, mb_236.2.2.2.2.2.1, mb_236.2.2.2.2.2.2⟩
set_option maxRecDepth 20000 in
theorem cw_X11_458_237 : cwKV RX11 458 237 1 := ⟨⟨mb_237.1, Or.inl kw_1660, mb_237.2.1, mb_237.2.2.1, mb_237.2.2.2.1, mb_237.2.2.2.2.1, by decide, by decide⟩, mb_237.2.2.2.2.2.1, mb_237.2.2.2.2.2.2⟩
set_option maxRecDepth 20000 in
theorem cw_X11_461_238 : cwKV RX11 461 238 1 := ⟨⟨mb_238.1, Or.inl kw_1656, mb_238.2.1, mb_238.2.2.1, mb_238.2.2.2.1, mb_238.2.2.2.2.1, by decide, by decide⟩, mb_238.2.2.2.2.2.1, mb_238.2.2.2.2.2.2⟩
set_option maxRecDepth 20000 in
theorem cw_X11_467_243 : cwKV RX11 467 243 0 := ⟨⟨mb_243.1, Or.inl kw_1691, mb_243.2.1, mb_243.2.2.1, mb_243.2.2.2.1, mb_243.2.2.2.2.1, by decide, by decide⟩, mb_243.2.2.2.2.2.1, mb_243.2.2.2.2.2.2⟩
set_option maxRecDepth 20000 in
theorem cw_X11_479_248 : cwKV RX11 479 248 0 := ⟨⟨mb_248.1, Or.inl kw_1716, mb_248.2.1, mb_248.2.2.1, mb_248.2.2.2.1, mb_248.2.2.2.2.1, by decide, by decide⟩, mb_248.2.2.2.2.2.1, mb_248.2.2.2.2.2.2⟩
set_option maxRecDepth 20000 in
theorem cw_X11_482_247 : cwKV RX11 482 247 1 := ⟨⟨mb_247.1, Or.inl kw_1720, mb_247.2.1, mb_247.2.2.1, mb_247.2.2.2.1, mb_247.2.2.2.2.1, by decide, by decide⟩, mb_247.2.2.2.2.2.1, mb_247.2.2.2.2.2.2⟩
set_option maxRecDepth 20000 in
theorem cw_X11_486_250 : cwKV RX11 486 250 3 := ⟨⟨mb_250.1, Or.inl kw_1707, mb_250.2.1, mb_250.2.2.1, mb_250.2.2.2.1, mb_250.2.2.2.2.1, by decide, by decide⟩, mb_250.2.2.2.2.2.1, mb_250.2.2.2.2.2.2⟩
set_option maxRecDepth 20000 in
theorem cw_X11_490_249 : cwKV RX11 490 249 2 := ⟨⟨mb_249.1, Or.inl kw_1712, mb_249.2.1, mb_249.2.2.1, mb_249.2.2.2.1, mb_249.2.2.2.2.1, by decide, by decide⟩, mb_249.2.2.2.2.2.1, mb_249.2.2.2.2.2.2⟩
set_option maxRecDepth 20000 in
theorem cw_X11_493_253 : cwKV RX11 493 253 0 := ⟨⟨mb_253.1, Or.inl kw_1746, mb_253.2.1, mb_253.2.2.1, mb_253.2.2.2.1, mb_253.2.2.2.2.1, by decide, by decide⟩, mb_253.2.2.2.2.2.1, mb_253.2.2.2.2.2.2⟩
set_option maxRecDepth 20000 in
theorem cw_X11_496_255 : cwKS RX11 496 255 3 := ⟨⟨mb_255.1, Or.inl kw_1735, mb_255.2.1, mb_255.2.2.1, mb_255.2.2.2.1, mb_255.2.2.2.2.1, by decide, by decide⟩, mb_255.2.2.2.2.2⟩
set_option maxRecDepth 20000 in
theorem cw_X11_499_254 : cwKV RX11 499 254 3 := ⟨⟨mb_254.1, Or.inl kw_1738, mb_254.2.1, mb_254.2.2.1, mb_254.2.2.2.1, mb_254.2.2.2.2.1, by decide, by decide⟩, mb_254.2.2.2.2.2.1, mb_254.2.2.2.2.2.2⟩
set_option maxRecDepth 20000 in
theorem cw_X11_503_256 : cwKV RX11 503 256 6 := ⟨⟨mb_256.1, Or.inl kw_1742, mb_256.2.1, mb_256.2.2.1, mb_256.2.2.2.1, mb_256.2.2.2.2.1, by decide, by decide⟩, mb_256.2.2.2.2.2.1, mb_256.2.2.2.2.2.2⟩
set_option maxRecDepth 20000 in
theorem cw_X11_507_139 : cwKV RX11 507 139 1 := ⟨⟨mb_139.1, Or.inl kw_1770, mb_139.2.1, mb_139.2.2.1, mb_139.2.2.2.1, mb_139.2.2.2.2.1, by decide, by decide⟩, mb_139.2.2.2.2.2.1, mb_139.2.2.2.2.2.2⟩
set_option maxRecDepth 20000 in
theorem cw_X11_510_141 : cwKV RX11 510 141 0 := ⟨⟨mb_141.1, Or.inl kw_1774, mb_141.2.1, mb_141.2.2.1, mb_141.2.2.2.1, mb_141.2.2.2.2.1, by decide, by decide⟩, mb_141.2.2.2.2.2.1, mb_141.2.2.2.2.2.2⟩
