/-! THE CONSTRUCTORS, cell by cell -/
abbrev mX0_init : Mth := (yX0_init, cX0_init, 1, none)
set_option maxRecDepth 100000 in
theorem mo_X0_init : Cond.instanceMethod yX0_init ∈ tG ∧ Cond.initialized yX0_init.cls ∈ tG ∧ Cond.code yX0_init cX0_init 1 none ∈ tG ∧ yX0_init.name = "<init>" ∧ (none : Option FieldType) = none ∧ (yX0_init.cls ≠ "java/lang/invoke/MethodHandle" ∧ yX0_init.cls ≠ "java/lang/invoke/VarHandle" ∧ (parseMethodDescriptor yX0_init.desc).map (fun d => d.parameters.length) = some 0) ∧ 1 ≤ 60 := ⟨(tG_of (tb1 (List.mem_of_getElem? (i := 95) rfl)) (by decide +kernel)), (tG_of (tb1 (List.mem_of_getElem? (i := 5) rfl)) (by decide +kernel)), (tG_of (tb1 (List.mem_of_getElem? (i := 96) rfl)) (by decide +kernel)), rfl, rfl, ⟨by decide, by decide, by decide +kernel⟩, by decide⟩
abbrev mX10_init : Mth := (yX10_init, cX10_init, 2, none)
set_option maxRecDepth 100000 in
theorem mo_X10_init : Cond.instanceMethod yX10_init ∈ tG ∧ Cond.initialized yX10_init.cls ∈ tG ∧ Cond.code yX10_init cX10_init 2 none ∈ tG ∧ yX10_init.name = "<init>" ∧ (none : Option FieldType) = none ∧ (yX10_init.cls ≠ "java/lang/invoke/MethodHandle" ∧ yX10_init.cls ≠ "java/lang/invoke/VarHandle" ∧ (parseMethodDescriptor yX10_init.desc).map (fun d => d.parameters.length) = some 0) ∧ 2 ≤ 60 := ⟨(tG_of (tb1 (List.mem_of_getElem? (i := 23) rfl)) (by decide +kernel)), (tG_of (tb1 (List.mem_of_getElem? (i := 1) rfl)) (by decide +kernel)), (tG_of (tb1 (List.mem_of_getElem? (i := 24) rfl)) (by decide +kernel)), rfl, rfl, ⟨by decide, by decide, by decide +kernel⟩, by decide⟩
abbrev mX11_init : Mth := (yX11_init, cX11_init, 1, none)
set_option maxRecDepth 100000 in
theorem mo_X11_init : Cond.instanceMethod yX11_init ∈ tG ∧ Cond.initialized yX11_init.cls ∈ tG ∧ Cond.code yX11_init cX11_init 1 none ∈ tG ∧ yX11_init.name = "<init>" ∧ (none : Option FieldType) = none ∧ (yX11_init.cls ≠ "java/lang/invoke/MethodHandle" ∧ yX11_init.cls ≠ "java/lang/invoke/VarHandle" ∧ (parseMethodDescriptor yX11_init.desc).map (fun d => d.parameters.length) = some 0) ∧ 1 ≤ 60 := ⟨(tG_of (tb5 (List.mem_of_getElem? (i := 105) rfl)) (by decide +kernel)), (tG_of (tb1 (List.mem_of_getElem? (i := 12) rfl)) (by decide +kernel)), (tG_of (tb5 (List.mem_of_getElem? (i := 106) rfl)) (by decide +kernel)), rfl, rfl, ⟨by decide, by decide, by decide +kernel⟩, by decide⟩
abbrev mX1_init : Mth := (yX1_init, cX1_init, 2, none)
set_option maxRecDepth 100000 in
theorem mo_X1_init : Cond.instanceMethod yX1_init ∈ tG ∧ Cond.initialized yX1_init.cls ∈ tG ∧ Cond.code yX1_init cX1_init 2 none ∈ tG ∧ yX1_init.name = "<init>" ∧ (none : Option FieldType) = none ∧ (yX1_init.cls ≠ "java/lang/invoke/MethodHandle" ∧ yX1_init.cls ≠ "java/lang/invoke/VarHandle" ∧ (parseMethodDescriptor yX1_init.desc).map (fun d => d.parameters.length) = some 1) ∧ 2 ≤ 60 := ⟨(tG_of (tb1 (List.mem_of_getElem? (i := 182) rfl)) (by decide +kernel)), (tG_of (tb1 (List.mem_of_getElem? (i := 8) rfl)) (by decide +kernel)), (tG_of (tb1 (List.mem_of_getElem? (i := 183) rfl)) (by decide +kernel)), rfl, rfl, ⟨by decide, by decide, by decide +kernel⟩, by decide⟩
abbrev mX2_init : Mth := (yX2_init, cX2_init, 2, none)
set_option maxRecDepth 100000 in
theorem mo_X2_init : Cond.instanceMethod yX2_init ∈ tG ∧ Cond.initialized yX2_init.cls ∈ tG ∧ Cond.code yX2_init cX2_init 2 none ∈ tG ∧ yX2_init.name = "<init>" ∧ (none : Option FieldType) = none ∧ (yX2_init.cls ≠ "java/lang/invoke/MethodHandle" ∧ yX2_init.cls ≠ "java/lang/invoke/VarHandle" ∧ (parseMethodDescriptor yX2_init.desc).map (fun d => d.parameters.length) = some 1) ∧ 2 ≤ 60 := ⟨(tG_of (tb1 (List.mem_of_getElem? (i := 70) rfl)) (by decide +kernel)), (tG_of (tb1 (List.mem_of_getElem? (i := 4) rfl)) (by decide +kernel)), (tG_of (tb1 (List.mem_of_getElem? (i := 71) rfl)) (by decide +kernel)), rfl, rfl, ⟨by decide, by decide, by decide +kernel⟩, by decide⟩
abbrev mX3_init : Mth := (yX3_init, cX3_init, 1, none)
set_option maxRecDepth 100000 in
theorem mo_X3_init : Cond.instanceMethod yX3_init ∈ tG ∧ Cond.initialized yX3_init.cls ∈ tG ∧ Cond.code yX3_init cX3_init 1 none ∈ tG ∧ yX3_init.name = "<init>" ∧ (none : Option FieldType) = none ∧ (yX3_init.cls ≠ "java/lang/invoke/MethodHandle" ∧ yX3_init.cls ≠ "java/lang/invoke/VarHandle" ∧ (parseMethodDescriptor yX3_init.desc).map (fun d => d.parameters.length) = some 0) ∧ 1 ≤ 60 := ⟨(tG_of (tb1 (List.mem_of_getElem? (i := 141) rfl)) (by decide +kernel)), (tG_of (tb1 (List.mem_of_getElem? (i := 6) rfl)) (by decide +kernel)), (tG_of (tb1 (List.mem_of_getElem? (i := 142) rfl)) (by decide +kernel)), rfl, rfl, ⟨by decide, by decide, by decide +kernel⟩, by decide⟩
abbrev mX4_init : Mth := (yX4_init, cX4_init, 2, none)
set_option maxRecDepth 100000 in
theorem mo_X4_init : Cond.instanceMethod yX4_init ∈ tG ∧ Cond.initialized yX4_init.cls ∈ tG ∧ Cond.code yX4_init cX4_init 2 none ∈ tG ∧ yX4_init.name = "<init>" ∧ (none : Option FieldType) = none ∧ (yX4_init.cls ≠ "java/lang/invoke/MethodHandle" ∧ yX4_init.cls ≠ "java/lang/invoke/VarHandle" ∧ (parseMethodDescriptor yX4_init.desc).map (fun d => d.parameters.length) = some 1) ∧ 2 ≤ 60 := ⟨(tG_of (tb1 (List.mem_of_getElem? (i := 48) rfl)) (by decide +kernel)), (tG_of (tb1 (List.mem_of_getElem? (i := 3) rfl)) (by decide +kernel)), (tG_of (tb1 (List.mem_of_getElem? (i := 49) rfl)) (by decide +kernel)), rfl, rfl, ⟨by decide, by decide, by decide +kernel⟩, by decide⟩
abbrev mX5_init : Mth := (yX5_init, cX5_init, 1, none)
set_option maxRecDepth 100000 in
theorem mo_X5_init : Cond.instanceMethod yX5_init ∈ tG ∧ Cond.initialized yX5_init.cls ∈ tG ∧ Cond.code yX5_init cX5_init 1 none ∈ tG ∧ yX5_init.name = "<init>" ∧ (none : Option FieldType) = none ∧ (yX5_init.cls ≠ "java/lang/invoke/MethodHandle" ∧ yX5_init.cls ≠ "java/lang/invoke/VarHandle" ∧ (parseMethodDescriptor yX5_init.desc).map (fun d => d.parameters.length) = some 0) ∧ 1 ≤ 60 := ⟨(tG_of (tb1 (List.mem_of_getElem? (i := 220) rfl)) (by decide +kernel)), (tG_of (tb1 (List.mem_of_getElem? (i := 9) rfl)) (by decide +kernel)), (tG_of (tb1 (List.mem_of_getElem? (i := 221) rfl)) (by decide +kernel)), rfl, rfl, ⟨by decide, by decide, by decide +kernel⟩, by decide⟩
abbrev mX6_init : Mth := (yX6_init, cX6_init, 2, none)
set_option maxRecDepth 100000 in
theorem mo_X6_init : Cond.instanceMethod yX6_init ∈ tG ∧ Cond.initialized yX6_init.cls ∈ tG ∧ Cond.code yX6_init cX6_init 2 none ∈ tG ∧ yX6_init.name = "<init>" ∧ (none : Option FieldType) = none ∧ (yX6_init.cls ≠ "java/lang/invoke/MethodHandle" ∧ yX6_init.cls ≠ "java/lang/invoke/VarHandle" ∧ (parseMethodDescriptor yX6_init.desc).map (fun d => d.parameters.length) = some 1) ∧ 2 ≤ 60 := ⟨(tG_of (tb2 (List.mem_of_getElem? (i := 25) rfl)) (by decide +kernel)), (tG_of (tb1 (List.mem_of_getElem? (i := 10) rfl)) (by decide +kernel)), (tG_of (tb2 (List.mem_of_getElem? (i := 26) rfl)) (by decide +kernel)), rfl, rfl, ⟨by decide, by decide, by decide +kernel⟩, by decide⟩
abbrev mX7_init : Mth := (yX7_init, cX7_init, 1, none)
set_option maxRecDepth 100000 in
theorem mo_X7_init : Cond.instanceMethod yX7_init ∈ tG ∧ Cond.initialized yX7_init.cls ∈ tG ∧ Cond.code yX7_init cX7_init 1 none ∈ tG ∧ yX7_init.name = "<init>" ∧ (none : Option FieldType) = none ∧ (yX7_init.cls ≠ "java/lang/invoke/MethodHandle" ∧ yX7_init.cls ≠ "java/lang/invoke/VarHandle" ∧ (parseMethodDescriptor yX7_init.desc).map (fun d => d.parameters.length) = some 0) ∧ 1 ≤ 60 := ⟨(tG_of (tb1 (List.mem_of_getElem? (i := 31) rfl)) (by decide +kernel)), (tG_of (tb1 (List.mem_of_getElem? (i := 2) rfl)) (by decide +kernel)), (tG_of (tb1 (List.mem_of_getElem? (i := 32) rfl)) (by decide +kernel)), rfl, rfl, ⟨by decide, by decide, by decide +kernel⟩, by decide⟩
abbrev mX8_init : Mth := (yX8_init, cX8_init, 2, none)
set_option maxRecDepth 100000 in
theorem mo_X8_init : Cond.instanceMethod yX8_init ∈ tG ∧ Cond.initialized yX8_init.cls ∈ tG ∧ Cond.code yX8_init cX8_init 2 none ∈ tG ∧ yX8_init.name = "<init>" ∧ (none : Option FieldType) = none ∧ (yX8_init.cls ≠ "java/lang/invoke/MethodHandle" ∧ yX8_init.cls ≠ "java/lang/invoke/VarHandle" ∧ (parseMethodDescriptor yX8_init.desc).map (fun d => d.parameters.length) = some 1) ∧ 2 ≤ 60 := ⟨(tG_of (tb2 (List.mem_of_getElem? (i := 61) rfl)) (by decide +kernel)), (tG_of (tb1 (List.mem_of_getElem? (i := 11) rfl)) (by decide +kernel)), (tG_of (tb2 (List.mem_of_getElem? (i := 62) rfl)) (by decide +kernel)), rfl, rfl, ⟨by decide, by decide, by decide +kernel⟩, by decide⟩
abbrev mX9_init : Mth := (yX9_init, cX9_init, 1, none)
set_option maxRecDepth 100000 in
theorem mo_X9_init : Cond.instanceMethod yX9_init ∈ tG ∧ Cond.initialized yX9_init.cls ∈ tG ∧ Cond.code yX9_init cX9_init 1 none ∈ tG ∧ yX9_init.name = "<init>" ∧ (none : Option FieldType) = none ∧ (yX9_init.cls ≠ "java/lang/invoke/MethodHandle" ∧ yX9_init.cls ≠ "java/lang/invoke/VarHandle" ∧ (parseMethodDescriptor yX9_init.desc).map (fun d => d.parameters.length) = some 0) ∧ 1 ≤ 60 := ⟨(tG_of (tb1 (List.mem_of_getElem? (i := 166) rfl)) (by decide +kernel)), (tG_of (tb1 (List.mem_of_getElem? (i := 7) rfl)) (by decide +kernel)), (tG_of (tb1 (List.mem_of_getElem? (i := 167) rfl)) (by decide +kernel)), rfl, rfl, ⟨by decide, by decide, by decide +kernel⟩, by decide⟩
theorem dX0_init_0 : decode cX0_init 0 = .ok (.aload_n 0, 1) := dc_42 (byA eNcX0_init (p := 0) (v := 42) (by decide +kernel))
theorem dX0_init_1 : decode cX0_init 1 = .ok (.invokespecial 3, 3) := dc_183 (byA eNcX0_init (p := 1) (v := 183) (by decide +kernel)) (byA eNcX0_init (p := 2) (v := 0) (by decide +kernel)) (byA eNcX0_init (p := 3) (v := 3) (by decide +kernel)) rfl
theorem dX0_init_4 : decode cX0_init 4 = .ok (.aload_n 0, 1) := dc_42 (byA eNcX0_init (p := 4) (v := 42) (by decide +kernel))
theorem dX0_init_5 : decode cX0_init 5 = .ok (.bipush 60, 2) := dc_16 (byA eNcX0_init (p := 5) (v := 16) (by decide +kernel)) (byA eNcX0_init (p := 6) (v := 60) (by decide +kernel)) (by decide +kernel)
theorem dX0_init_7 : decode cX0_init 7 = .ok (.newarray .int, 2) := by decide +kernel
theorem dX0_init_9 : decode cX0_init 9 = .ok (.putfield 9, 3) := dc_181 (byA eNcX0_init (p := 9) (v := 181) (by decide +kernel)) (byA eNcX0_init (p := 10) (v := 0) (by decide +kernel)) (byA eNcX0_init (p := 11) (v := 9) (by decide +kernel)) rfl
theorem dX0_init_12 : decode cX0_init 12 = .ok (.aload_n 0, 1) := dc_42 (byA eNcX0_init (p := 12) (v := 42) (by decide +kernel))
theorem dX0_init_13 : decode cX0_init 13 = .ok (.bipush 8, 2) := dc_16 (byA eNcX0_init (p := 13) (v := 16) (by decide +kernel)) (byA eNcX0_init (p := 14) (v := 8) (by decide +kernel)) (by decide +kernel)
theorem dX0_init_15 : decode cX0_init 15 = .ok (.newarray .int, 2) := by decide +kernel
theorem dX0_init_17 : decode cX0_init 17 = .ok (.putfield 15, 3) := dc_181 (byA eNcX0_init (p := 17) (v := 181) (by decide +kernel)) (byA eNcX0_init (p := 18) (v := 0) (by decide +kernel)) (byA eNcX0_init (p := 19) (v := 15) (by decide +kernel)) rfl
theorem dX0_init_20 : decode cX0_init 20 = .ok (.aload_n 0, 1) := dc_42 (byA eNcX0_init (p := 20) (v := 42) (by decide +kernel))
theorem dX0_init_21 : decode cX0_init 21 = .ok (.bipush 8, 2) := dc_16 (byA eNcX0_init (p := 21) (v := 16) (by decide +kernel)) (byA eNcX0_init (p := 22) (v := 8) (by decide +kernel)) (by decide +kernel)
theorem dX0_init_23 : decode cX0_init 23 = .ok (.newarray .int, 2) := by decide +kernel
theorem dX0_init_25 : decode cX0_init 25 = .ok (.putfield 18, 3) := dc_181 (byA eNcX0_init (p := 25) (v := 181) (by decide +kernel)) (byA eNcX0_init (p := 26) (v := 0) (by decide +kernel)) (byA eNcX0_init (p := 27) (v := 18) (by decide +kernel)) rfl
theorem dX0_init_28 : decode cX0_init 28 = .ok (.aload_n 0, 1) := dc_42 (byA eNcX0_init (p := 28) (v := 42) (by decide +kernel))
theorem dX0_init_29 : decode cX0_init 29 = .ok (.invokevirtual 21, 3) := dc_182 (byA eNcX0_init (p := 29) (v := 182) (by decide +kernel)) (byA eNcX0_init (p := 30) (v := 0) (by decide +kernel)) (byA eNcX0_init (p := 31) (v := 21) (by decide +kernel)) rfl
theorem dX0_init_32 : decode cX0_init 32 = .ok (.return_, 1) := dc_177 (byA eNcX0_init (p := 32) (v := 177) (by decide +kernel))
theorem dX10_init_0 : decode cX10_init 0 = .ok (.aload_n 0, 1) := dc_42 (byA eNcX10_init (p := 0) (v := 42) (by decide +kernel))
theorem dX10_init_1 : decode cX10_init 1 = .ok (.invokespecial 1, 3) := dc_183 (byA eNcX10_init (p := 1) (v := 183) (by decide +kernel)) (byA eNcX10_init (p := 2) (v := 0) (by decide +kernel)) (byA eNcX10_init (p := 3) (v := 1) (by decide +kernel)) rfl
theorem dX10_init_4 : decode cX10_init 4 = .ok (.aload_n 0, 1) := dc_42 (byA eNcX10_init (p := 4) (v := 42) (by decide +kernel))
theorem dX10_init_5 : decode cX10_init 5 = .ok (.new 7, 3) := dc_187 (byA eNcX10_init (p := 5) (v := 187) (by decide +kernel)) (byA eNcX10_init (p := 6) (v := 0) (by decide +kernel)) (byA eNcX10_init (p := 7) (v := 7) (by decide +kernel)) rfl
theorem dX10_init_8 : decode cX10_init 8 = .ok (.dup, 1) := dc_89 (byA eNcX10_init (p := 8) (v := 89) (by decide +kernel))
theorem dX10_init_9 : decode cX10_init 9 = .ok (.invokespecial 9, 3) := dc_183 (byA eNcX10_init (p := 9) (v := 183) (by decide +kernel)) (byA eNcX10_init (p := 10) (v := 0) (by decide +kernel)) (byA eNcX10_init (p := 11) (v := 9) (by decide +kernel)) rfl
theorem dX10_init_12 : decode cX10_init 12 = .ok (.putfield 10, 3) := dc_181 (byA eNcX10_init (p := 12) (v := 181) (by decide +kernel)) (byA eNcX10_init (p := 13) (v := 0) (by decide +kernel)) (byA eNcX10_init (p := 14) (v := 10) (by decide +kernel)) rfl
theorem dX10_init_15 : decode cX10_init 15 = .ok (.aload_n 0, 1) := dc_42 (byA eNcX10_init (p := 15) (v := 42) (by decide +kernel))
theorem dX10_init_16 : decode cX10_init 16 = .ok (.new 16, 3) := dc_187 (byA eNcX10_init (p := 16) (v := 187) (by decide +kernel)) (byA eNcX10_init (p := 17) (v := 0) (by decide +kernel)) (byA eNcX10_init (p := 18) (v := 16) (by decide +kernel)) rfl
theorem dX10_init_19 : decode cX10_init 19 = .ok (.dup, 1) := dc_89 (byA eNcX10_init (p := 19) (v := 89) (by decide +kernel))
theorem dX10_init_20 : decode cX10_init 20 = .ok (.aload_n 0, 1) := dc_42 (byA eNcX10_init (p := 20) (v := 42) (by decide +kernel))
theorem dX10_init_21 : decode cX10_init 21 = .ok (.getfield 10, 3) := dc_180 (byA eNcX10_init (p := 21) (v := 180) (by decide +kernel)) (byA eNcX10_init (p := 22) (v := 0) (by decide +kernel)) (byA eNcX10_init (p := 23) (v := 10) (by decide +kernel)) rfl
theorem dX10_init_24 : decode cX10_init 24 = .ok (.invokespecial 18, 3) := dc_183 (byA eNcX10_init (p := 24) (v := 183) (by decide +kernel)) (byA eNcX10_init (p := 25) (v := 0) (by decide +kernel)) (byA eNcX10_init (p := 26) (v := 18) (by decide +kernel)) rfl
theorem dX10_init_27 : decode cX10_init 27 = .ok (.putfield 21, 3) := dc_181 (byA eNcX10_init (p := 27) (v := 181) (by decide +kernel)) (byA eNcX10_init (p := 28) (v := 0) (by decide +kernel)) (byA eNcX10_init (p := 29) (v := 21) (by decide +kernel)) rfl
theorem dX10_init_30 : decode cX10_init 30 = .ok (.aload_n 0, 1) := dc_42 (byA eNcX10_init (p := 30) (v := 42) (by decide +kernel))
theorem dX10_init_31 : decode cX10_init 31 = .ok (.new 25, 3) := dc_187 (byA eNcX10_init (p := 31) (v := 187) (by decide +kernel)) (byA eNcX10_init (p := 32) (v := 0) (by decide +kernel)) (byA eNcX10_init (p := 33) (v := 25) (by decide +kernel)) rfl
theorem dX10_init_34 : decode cX10_init 34 = .ok (.dup, 1) := dc_89 (byA eNcX10_init (p := 34) (v := 89) (by decide +kernel))
theorem dX10_init_35 : decode cX10_init 35 = .ok (.aload_n 0, 1) := dc_42 (byA eNcX10_init (p := 35) (v := 42) (by decide +kernel))
theorem dX10_init_36 : decode cX10_init 36 = .ok (.getfield 21, 3) := dc_180 (byA eNcX10_init (p := 36) (v := 180) (by decide +kernel)) (byA eNcX10_init (p := 37) (v := 0) (by decide +kernel)) (byA eNcX10_init (p := 38) (v := 21) (by decide +kernel)) rfl
theorem dX10_init_39 : decode cX10_init 39 = .ok (.invokespecial 27, 3) := dc_183 (byA eNcX10_init (p := 39) (v := 183) (by decide +kernel)) (byA eNcX10_init (p := 40) (v := 0) (by decide +kernel)) (byA eNcX10_init (p := 41) (v := 27) (by decide +kernel)) rfl
theorem dX10_init_42 : decode cX10_init 42 = .ok (.putfield 30, 3) := dc_181 (byA eNcX10_init (p := 42) (v := 181) (by decide +kernel)) (byA eNcX10_init (p := 43) (v := 0) (by decide +kernel)) (byA eNcX10_init (p := 44) (v := 30) (by decide +kernel)) rfl
theorem dX10_init_45 : decode cX10_init 45 = .ok (.aload_n 0, 1) := dc_42 (byA eNcX10_init (p := 45) (v := 42) (by decide +kernel))
theorem dX10_init_46 : decode cX10_init 46 = .ok (.new 34, 3) := dc_187 (byA eNcX10_init (p := 46) (v := 187) (by decide +kernel)) (byA eNcX10_init (p := 47) (v := 0) (by decide +kernel)) (byA eNcX10_init (p := 48) (v := 34) (by decide +kernel)) rfl
theorem dX10_init_49 : decode cX10_init 49 = .ok (.dup, 1) := dc_89 (byA eNcX10_init (p := 49) (v := 89) (by decide +kernel))
theorem dX10_init_50 : decode cX10_init 50 = .ok (.invokespecial 36, 3) := dc_183 (byA eNcX10_init (p := 50) (v := 183) (by decide +kernel)) (byA eNcX10_init (p := 51) (v := 0) (by decide +kernel)) (byA eNcX10_init (p := 52) (v := 36) (by decide +kernel)) rfl
theorem dX10_init_53 : decode cX10_init 53 = .ok (.putfield 37, 3) := dc_181 (byA eNcX10_init (p := 53) (v := 181) (by decide +kernel)) (byA eNcX10_init (p := 54) (v := 0) (by decide +kernel)) (byA eNcX10_init (p := 55) (v := 37) (by decide +kernel)) rfl
theorem dX10_init_56 : decode cX10_init 56 = .ok (.aload_n 0, 1) := dc_42 (byA eNcX10_init (p := 56) (v := 42) (by decide +kernel))
theorem dX10_init_57 : decode cX10_init 57 = .ok (.new 34, 3) := dc_187 (byA eNcX10_init (p := 57) (v := 187) (by decide +kernel)) (byA eNcX10_init (p := 58) (v := 0) (by decide +kernel)) (byA eNcX10_init (p := 59) (v := 34) (by decide +kernel)) rfl
theorem dX10_init_60 : decode cX10_init 60 = .ok (.dup, 1) := dc_89 (byA eNcX10_init (p := 60) (v := 89) (by decide +kernel))
theorem dX10_init_61 : decode cX10_init 61 = .ok (.invokespecial 36, 3) := dc_183 (byA eNcX10_init (p := 61) (v := 183) (by decide +kernel)) (byA eNcX10_init (p := 62) (v := 0) (by decide +kernel)) (byA eNcX10_init (p := 63) (v := 36) (by decide +kernel)) rfl
theorem dX10_init_64 : decode cX10_init 64 = .ok (.putfield 41, 3) := dc_181 (byA eNcX10_init (p := 64) (v := 181) (by decide +kernel)) (byA eNcX10_init (p := 65) (v := 0) (by decide +kernel)) (byA eNcX10_init (p := 66) (v := 41) (by decide +kernel)) rfl
theorem dX10_init_67 : decode cX10_init 67 = .ok (.aload_n 0, 1) := dc_42 (byA eNcX10_init (p := 67) (v := 42) (by decide +kernel))
theorem dX10_init_68 : decode cX10_init 68 = .ok (.new 34, 3) := dc_187 (byA eNcX10_init (p := 68) (v := 187) (by decide +kernel)) (byA eNcX10_init (p := 69) (v := 0) (by decide +kernel)) (byA eNcX10_init (p := 70) (v := 34) (by decide +kernel)) rfl
theorem dX10_init_71 : decode cX10_init 71 = .ok (.dup, 1) := dc_89 (byA eNcX10_init (p := 71) (v := 89) (by decide +kernel))
theorem dX10_init_72 : decode cX10_init 72 = .ok (.invokespecial 36, 3) := dc_183 (byA eNcX10_init (p := 72) (v := 183) (by decide +kernel)) (byA eNcX10_init (p := 73) (v := 0) (by decide +kernel)) (byA eNcX10_init (p := 74) (v := 36) (by decide +kernel)) rfl
theorem dX10_init_75 : decode cX10_init 75 = .ok (.putfield 44, 3) := dc_181 (byA eNcX10_init (p := 75) (v := 181) (by decide +kernel)) (byA eNcX10_init (p := 76) (v := 0) (by decide +kernel)) (byA eNcX10_init (p := 77) (v := 44) (by decide +kernel)) rfl
theorem dX10_init_78 : decode cX10_init 78 = .ok (.aload_n 0, 1) := dc_42 (byA eNcX10_init (p := 78) (v := 42) (by decide +kernel))
theorem dX10_init_79 : decode cX10_init 79 = .ok (.iconst 5, 1) := dc_8 (byA eNcX10_init (p := 79) (v := 8) (by decide +kernel))
theorem dX10_init_80 : decode cX10_init 80 = .ok (.anewarray 47, 3) := dc_189 (byA eNcX10_init (p := 80) (v := 189) (by decide +kernel)) (byA eNcX10_init (p := 81) (v := 0) (by decide +kernel)) (byA eNcX10_init (p := 82) (v := 47) (by decide +kernel)) rfl
theorem dX10_init_83 : decode cX10_init 83 = .ok (.putfield 49, 3) := dc_181 (byA eNcX10_init (p := 83) (v := 181) (by decide +kernel)) (byA eNcX10_init (p := 84) (v := 0) (by decide +kernel)) (byA eNcX10_init (p := 85) (v := 49) (by decide +kernel)) rfl
theorem dX10_init_86 : decode cX10_init 86 = .ok (.iconst 0, 1) := dc_3 (byA eNcX10_init (p := 86) (v := 3) (by decide +kernel))
theorem dX10_init_87 : decode cX10_init 87 = .ok (.istore_n 1, 1) := dc_60 (byA eNcX10_init (p := 87) (v := 60) (by decide +kernel))
theorem dX10_init_88 : decode cX10_init 88 = .ok (.iload_n 1, 1) := dc_27 (byA eNcX10_init (p := 88) (v := 27) (by decide +kernel))
theorem dX10_init_89 : decode cX10_init 89 = .ok (.iconst 5, 1) := dc_8 (byA eNcX10_init (p := 89) (v := 8) (by decide +kernel))
theorem dX10_init_90 : decode cX10_init 90 = .ok (.if_icmp .ge 22, 3) := dc_162 (byA eNcX10_init (p := 90) (v := 162) (by decide +kernel)) (byA eNcX10_init (p := 91) (v := 0) (by decide +kernel)) (byA eNcX10_init (p := 92) (v := 22) (by decide +kernel)) (by decide +kernel)
theorem dX10_init_93 : decode cX10_init 93 = .ok (.aload_n 0, 1) := dc_42 (byA eNcX10_init (p := 93) (v := 42) (by decide +kernel))
theorem dX10_init_94 : decode cX10_init 94 = .ok (.getfield 49, 3) := dc_180 (byA eNcX10_init (p := 94) (v := 180) (by decide +kernel)) (byA eNcX10_init (p := 95) (v := 0) (by decide +kernel)) (byA eNcX10_init (p := 96) (v := 49) (by decide +kernel)) rfl
theorem dX10_init_97 : decode cX10_init 97 = .ok (.iload_n 1, 1) := dc_27 (byA eNcX10_init (p := 97) (v := 27) (by decide +kernel))
theorem dX10_init_98 : decode cX10_init 98 = .ok (.new 47, 3) := dc_187 (byA eNcX10_init (p := 98) (v := 187) (by decide +kernel)) (byA eNcX10_init (p := 99) (v := 0) (by decide +kernel)) (byA eNcX10_init (p := 100) (v := 47) (by decide +kernel)) rfl
theorem dX10_init_101 : decode cX10_init 101 = .ok (.dup, 1) := dc_89 (byA eNcX10_init (p := 101) (v := 89) (by decide +kernel))
theorem dX10_init_102 : decode cX10_init 102 = .ok (.invokespecial 53, 3) := dc_183 (byA eNcX10_init (p := 102) (v := 183) (by decide +kernel)) (byA eNcX10_init (p := 103) (v := 0) (by decide +kernel)) (byA eNcX10_init (p := 104) (v := 53) (by decide +kernel)) rfl
theorem dX10_init_105 : decode cX10_init 105 = .ok (.aastore, 1) := dc_83 (byA eNcX10_init (p := 105) (v := 83) (by decide +kernel))
theorem dX10_init_106 : decode cX10_init 106 = .ok (.iinc 1 1, 3) := dc_132 (byA eNcX10_init (p := 106) (v := 132) (by decide +kernel)) (byA eNcX10_init (p := 107) (v := 1) (by decide +kernel)) (byA eNcX10_init (p := 108) (v := 1) (by decide +kernel)) (by decide +kernel)
theorem dX10_init_109 : decode cX10_init 109 = .ok (.goto (-21), 3) := dc_167 (byA eNcX10_init (p := 109) (v := 167) (by decide +kernel)) (byA eNcX10_init (p := 110) (v := 255) (by decide +kernel)) (byA eNcX10_init (p := 111) (v := 235) (by decide +kernel)) (by decide +kernel)
theorem dX10_init_112 : decode cX10_init 112 = .ok (.aload_n 0, 1) := dc_42 (byA eNcX10_init (p := 112) (v := 42) (by decide +kernel))
theorem dX10_init_113 : decode cX10_init 113 = .ok (.new 47, 3) := dc_187 (byA eNcX10_init (p := 113) (v := 187) (by decide +kernel)) (byA eNcX10_init (p := 114) (v := 0) (by decide +kernel)) (byA eNcX10_init (p := 115) (v := 47) (by decide +kernel)) rfl
theorem dX10_init_116 : decode cX10_init 116 = .ok (.dup, 1) := dc_89 (byA eNcX10_init (p := 116) (v := 89) (by decide +kernel))
theorem dX10_init_117 : decode cX10_init 117 = .ok (.invokespecial 53, 3) := dc_183 (byA eNcX10_init (p := 117) (v := 183) (by decide +kernel)) (byA eNcX10_init (p := 118) (v := 0) (by decide +kernel)) (byA eNcX10_init (p := 119) (v := 53) (by decide +kernel)) rfl
theorem dX10_init_120 : decode cX10_init 120 = .ok (.putfield 54, 3) := dc_181 (byA eNcX10_init (p := 120) (v := 181) (by decide +kernel)) (byA eNcX10_init (p := 121) (v := 0) (by decide +kernel)) (byA eNcX10_init (p := 122) (v := 54) (by decide +kernel)) rfl
theorem dX10_init_123 : decode cX10_init 123 = .ok (.aload_n 0, 1) := dc_42 (byA eNcX10_init (p := 123) (v := 42) (by decide +kernel))
theorem dX10_init_124 : decode cX10_init 124 = .ok (.iconst 4, 1) := dc_7 (byA eNcX10_init (p := 124) (v := 7) (by decide +kernel))
theorem dX10_init_125 : decode cX10_init 125 = .ok (.anewarray 7, 3) := dc_189 (byA eNcX10_init (p := 125) (v := 189) (by decide +kernel)) (byA eNcX10_init (p := 126) (v := 0) (by decide +kernel)) (byA eNcX10_init (p := 127) (v := 7) (by decide +kernel)) rfl
theorem dX10_init_128 : decode cX10_init 128 = .ok (.putfield 58, 3) := dc_181 (byA eNcX10_init (p := 128) (v := 181) (by decide +kernel)) (byA eNcX10_init (p := 129) (v := 0) (by decide +kernel)) (byA eNcX10_init (p := 130) (v := 58) (by decide +kernel)) rfl
theorem dX10_init_131 : decode cX10_init 131 = .ok (.iconst 0, 1) := dc_3 (byA eNcX10_init (p := 131) (v := 3) (by decide +kernel))
theorem dX10_init_132 : decode cX10_init 132 = .ok (.istore_n 1, 1) := dc_60 (byA eNcX10_init (p := 132) (v := 60) (by decide +kernel))
theorem dX10_init_133 : decode cX10_init 133 = .ok (.iload_n 1, 1) := dc_27 (byA eNcX10_init (p := 133) (v := 27) (by decide +kernel))
theorem dX10_init_134 : decode cX10_init 134 = .ok (.iconst 4, 1) := dc_7 (byA eNcX10_init (p := 134) (v := 7) (by decide +kernel))
theorem dX10_init_135 : decode cX10_init 135 = .ok (.if_icmp .ge 22, 3) := dc_162 (byA eNcX10_init (p := 135) (v := 162) (by decide +kernel)) (byA eNcX10_init (p := 136) (v := 0) (by decide +kernel)) (byA eNcX10_init (p := 137) (v := 22) (by decide +kernel)) (by decide +kernel)
theorem dX10_init_138 : decode cX10_init 138 = .ok (.aload_n 0, 1) := dc_42 (byA eNcX10_init (p := 138) (v := 42) (by decide +kernel))
theorem dX10_init_139 : decode cX10_init 139 = .ok (.getfield 58, 3) := dc_180 (byA eNcX10_init (p := 139) (v := 180) (by decide +kernel)) (byA eNcX10_init (p := 140) (v := 0) (by decide +kernel)) (byA eNcX10_init (p := 141) (v := 58) (by decide +kernel)) rfl
theorem dX10_init_142 : decode cX10_init 142 = .ok (.iload_n 1, 1) := dc_27 (byA eNcX10_init (p := 142) (v := 27) (by decide +kernel))
theorem dX10_init_143 : decode cX10_init 143 = .ok (.new 7, 3) := dc_187 (byA eNcX10_init (p := 143) (v := 187) (by decide +kernel)) (byA eNcX10_init (p := 144) (v := 0) (by decide +kernel)) (byA eNcX10_init (p := 145) (v := 7) (by decide +kernel)) rfl
theorem dX10_init_146 : decode cX10_init 146 = .ok (.dup, 1) := dc_89 (byA eNcX10_init (p := 146) (v := 89) (by decide +kernel))
theorem dX10_init_147 : decode cX10_init 147 = .ok (.invokespecial 9, 3) := dc_183 (byA eNcX10_init (p := 147) (v := 183) (by decide +kernel)) (byA eNcX10_init (p := 148) (v := 0) (by decide +kernel)) (byA eNcX10_init (p := 149) (v := 9) (by decide +kernel)) rfl
theorem dX10_init_150 : decode cX10_init 150 = .ok (.aastore, 1) := dc_83 (byA eNcX10_init (p := 150) (v := 83) (by decide +kernel))
theorem dX10_init_151 : decode cX10_init 151 = .ok (.iinc 1 1, 3) := dc_132 (byA eNcX10_init (p := 151) (v := 132) (by decide +kernel)) (byA eNcX10_init (p := 152) (v := 1) (by decide +kernel)) (byA eNcX10_init (p := 153) (v := 1) (by decide +kernel)) (by decide +kernel)
theorem dX10_init_154 : decode cX10_init 154 = .ok (.goto (-21), 3) := dc_167 (byA eNcX10_init (p := 154) (v := 167) (by decide +kernel)) (byA eNcX10_init (p := 155) (v := 255) (by decide +kernel)) (byA eNcX10_init (p := 156) (v := 235) (by decide +kernel)) (by decide +kernel)
theorem dX10_init_157 : decode cX10_init 157 = .ok (.aload_n 0, 1) := dc_42 (byA eNcX10_init (p := 157) (v := 42) (by decide +kernel))
theorem dX10_init_158 : decode cX10_init 158 = .ok (.new 62, 3) := dc_187 (byA eNcX10_init (p := 158) (v := 187) (by decide +kernel)) (byA eNcX10_init (p := 159) (v := 0) (by decide +kernel)) (byA eNcX10_init (p := 160) (v := 62) (by decide +kernel)) rfl
theorem dX10_init_161 : decode cX10_init 161 = .ok (.dup, 1) := dc_89 (byA eNcX10_init (p := 161) (v := 89) (by decide +kernel))
theorem dX10_init_162 : decode cX10_init 162 = .ok (.invokespecial 64, 3) := dc_183 (byA eNcX10_init (p := 162) (v := 183) (by decide +kernel)) (byA eNcX10_init (p := 163) (v := 0) (by decide +kernel)) (byA eNcX10_init (p := 164) (v := 64) (by decide +kernel)) rfl
theorem dX10_init_165 : decode cX10_init 165 = .ok (.putfield 65, 3) := dc_181 (byA eNcX10_init (p := 165) (v := 181) (by decide +kernel)) (byA eNcX10_init (p := 166) (v := 0) (by decide +kernel)) (byA eNcX10_init (p := 167) (v := 65) (by decide +kernel)) rfl
theorem dX10_init_168 : decode cX10_init 168 = .ok (.aload_n 0, 1) := dc_42 (byA eNcX10_init (p := 168) (v := 42) (by decide +kernel))
theorem dX10_init_169 : decode cX10_init 169 = .ok (.new 69, 3) := dc_187 (byA eNcX10_init (p := 169) (v := 187) (by decide +kernel)) (byA eNcX10_init (p := 170) (v := 0) (by decide +kernel)) (byA eNcX10_init (p := 171) (v := 69) (by decide +kernel)) rfl
theorem dX10_init_172 : decode cX10_init 172 = .ok (.dup, 1) := dc_89 (byA eNcX10_init (p := 172) (v := 89) (by decide +kernel))
theorem dX10_init_173 : decode cX10_init 173 = .ok (.aload_n 0, 1) := dc_42 (byA eNcX10_init (p := 173) (v := 42) (by decide +kernel))
theorem dX10_init_174 : decode cX10_init 174 = .ok (.getfield 65, 3) := dc_180 (byA eNcX10_init (p := 174) (v := 180) (by decide +kernel)) (byA eNcX10_init (p := 175) (v := 0) (by decide +kernel)) (byA eNcX10_init (p := 176) (v := 65) (by decide +kernel)) rfl
theorem dX10_init_177 : decode cX10_init 177 = .ok (.invokespecial 71, 3) := dc_183 (byA eNcX10_init (p := 177) (v := 183) (by decide +kernel)) (byA eNcX10_init (p := 178) (v := 0) (by decide +kernel)) (byA eNcX10_init (p := 179) (v := 71) (by decide +kernel)) rfl
theorem dX10_init_180 : decode cX10_init 180 = .ok (.putfield 74, 3) := dc_181 (byA eNcX10_init (p := 180) (v := 181) (by decide +kernel)) (byA eNcX10_init (p := 181) (v := 0) (by decide +kernel)) (byA eNcX10_init (p := 182) (v := 74) (by decide +kernel)) rfl
theorem dX10_init_183 : decode cX10_init 183 = .ok (.aload_n 0, 1) := dc_42 (byA eNcX10_init (p := 183) (v := 42) (by decide +kernel))
theorem dX10_init_184 : decode cX10_init 184 = .ok (.new 69, 3) := dc_187 (byA eNcX10_init (p := 184) (v := 187) (by decide +kernel)) (byA eNcX10_init (p := 185) (v := 0) (by decide +kernel)) (byA eNcX10_init (p := 186) (v := 69) (by decide +kernel)) rfl
theorem dX10_init_187 : decode cX10_init 187 = .ok (.dup, 1) := dc_89 (byA eNcX10_init (p := 187) (v := 89) (by decide +kernel))
theorem dX10_init_188 : decode cX10_init 188 = .ok (.aload_n 0, 1) := dc_42 (byA eNcX10_init (p := 188) (v := 42) (by decide +kernel))
theorem dX10_init_189 : decode cX10_init 189 = .ok (.getfield 65, 3) := dc_180 (byA eNcX10_init (p := 189) (v := 180) (by decide +kernel)) (byA eNcX10_init (p := 190) (v := 0) (by decide +kernel)) (byA eNcX10_init (p := 191) (v := 65) (by decide +kernel)) rfl
theorem dX10_init_192 : decode cX10_init 192 = .ok (.invokespecial 71, 3) := dc_183 (byA eNcX10_init (p := 192) (v := 183) (by decide +kernel)) (byA eNcX10_init (p := 193) (v := 0) (by decide +kernel)) (byA eNcX10_init (p := 194) (v := 71) (by decide +kernel)) rfl
theorem dX10_init_195 : decode cX10_init 195 = .ok (.putfield 78, 3) := dc_181 (byA eNcX10_init (p := 195) (v := 181) (by decide +kernel)) (byA eNcX10_init (p := 196) (v := 0) (by decide +kernel)) (byA eNcX10_init (p := 197) (v := 78) (by decide +kernel)) rfl
theorem dX10_init_198 : decode cX10_init 198 = .ok (.aload_n 0, 1) := dc_42 (byA eNcX10_init (p := 198) (v := 42) (by decide +kernel))
theorem dX10_init_199 : decode cX10_init 199 = .ok (.new 81, 3) := dc_187 (byA eNcX10_init (p := 199) (v := 187) (by decide +kernel)) (byA eNcX10_init (p := 200) (v := 0) (by decide +kernel)) (byA eNcX10_init (p := 201) (v := 81) (by decide +kernel)) rfl
theorem dX10_init_202 : decode cX10_init 202 = .ok (.dup, 1) := dc_89 (byA eNcX10_init (p := 202) (v := 89) (by decide +kernel))
theorem dX10_init_203 : decode cX10_init 203 = .ok (.invokespecial 83, 3) := dc_183 (byA eNcX10_init (p := 203) (v := 183) (by decide +kernel)) (byA eNcX10_init (p := 204) (v := 0) (by decide +kernel)) (byA eNcX10_init (p := 205) (v := 83) (by decide +kernel)) rfl
theorem dX10_init_206 : decode cX10_init 206 = .ok (.putfield 84, 3) := dc_181 (byA eNcX10_init (p := 206) (v := 181) (by decide +kernel)) (byA eNcX10_init (p := 207) (v := 0) (by decide +kernel)) (byA eNcX10_init (p := 208) (v := 84) (by decide +kernel)) rfl
theorem dX10_init_209 : decode cX10_init 209 = .ok (.aload_n 0, 1) := dc_42 (byA eNcX10_init (p := 209) (v := 42) (by decide +kernel))
theorem dX10_init_210 : decode cX10_init 210 = .ok (.new 88, 3) := dc_187 (byA eNcX10_init (p := 210) (v := 187) (by decide +kernel)) (byA eNcX10_init (p := 211) (v := 0) (by decide +kernel)) (byA eNcX10_init (p := 212) (v := 88) (by decide +kernel)) rfl
theorem dX10_init_213 : decode cX10_init 213 = .ok (.dup, 1) := dc_89 (byA eNcX10_init (p := 213) (v := 89) (by decide +kernel))
theorem dX10_init_214 : decode cX10_init 214 = .ok (.aload_n 0, 1) := dc_42 (byA eNcX10_init (p := 214) (v := 42) (by decide +kernel))
theorem dX10_init_215 : decode cX10_init 215 = .ok (.getfield 74, 3) := dc_180 (byA eNcX10_init (p := 215) (v := 180) (by decide +kernel)) (byA eNcX10_init (p := 216) (v := 0) (by decide +kernel)) (byA eNcX10_init (p := 217) (v := 74) (by decide +kernel)) rfl
theorem dX10_init_218 : decode cX10_init 218 = .ok (.invokespecial 90, 3) := dc_183 (byA eNcX10_init (p := 218) (v := 183) (by decide +kernel)) (byA eNcX10_init (p := 219) (v := 0) (by decide +kernel)) (byA eNcX10_init (p := 220) (v := 90) (by decide +kernel)) rfl
theorem dX10_init_221 : decode cX10_init 221 = .ok (.putfield 93, 3) := dc_181 (byA eNcX10_init (p := 221) (v := 181) (by decide +kernel)) (byA eNcX10_init (p := 222) (v := 0) (by decide +kernel)) (byA eNcX10_init (p := 223) (v := 93) (by decide +kernel)) rfl
theorem dX10_init_224 : decode cX10_init 224 = .ok (.aload_n 0, 1) := dc_42 (byA eNcX10_init (p := 224) (v := 42) (by decide +kernel))
theorem dX10_init_225 : decode cX10_init 225 = .ok (.new 97, 3) := dc_187 (byA eNcX10_init (p := 225) (v := 187) (by decide +kernel)) (byA eNcX10_init (p := 226) (v := 0) (by decide +kernel)) (byA eNcX10_init (p := 227) (v := 97) (by decide +kernel)) rfl
theorem dX10_init_228 : decode cX10_init 228 = .ok (.dup, 1) := dc_89 (byA eNcX10_init (p := 228) (v := 89) (by decide +kernel))
theorem dX10_init_229 : decode cX10_init 229 = .ok (.aload_n 0, 1) := dc_42 (byA eNcX10_init (p := 229) (v := 42) (by decide +kernel))
theorem dX10_init_230 : decode cX10_init 230 = .ok (.getfield 74, 3) := dc_180 (byA eNcX10_init (p := 230) (v := 180) (by decide +kernel)) (byA eNcX10_init (p := 231) (v := 0) (by decide +kernel)) (byA eNcX10_init (p := 232) (v := 74) (by decide +kernel)) rfl
theorem dX10_init_233 : decode cX10_init 233 = .ok (.invokespecial 99, 3) := dc_183 (byA eNcX10_init (p := 233) (v := 183) (by decide +kernel)) (byA eNcX10_init (p := 234) (v := 0) (by decide +kernel)) (byA eNcX10_init (p := 235) (v := 99) (by decide +kernel)) rfl
theorem dX10_init_236 : decode cX10_init 236 = .ok (.putfield 100, 3) := dc_181 (byA eNcX10_init (p := 236) (v := 181) (by decide +kernel)) (byA eNcX10_init (p := 237) (v := 0) (by decide +kernel)) (byA eNcX10_init (p := 238) (v := 100) (by decide +kernel)) rfl
theorem dX10_init_239 : decode cX10_init 239 = .ok (.aload_n 0, 1) := dc_42 (byA eNcX10_init (p := 239) (v := 42) (by decide +kernel))
theorem dX10_init_240 : decode cX10_init 240 = .ok (.iconst (-1), 1) := dc_2 (byA eNcX10_init (p := 240) (v := 2) (by decide +kernel))
theorem dX10_init_241 : decode cX10_init 241 = .ok (.putfield 104, 3) := dc_181 (byA eNcX10_init (p := 241) (v := 181) (by decide +kernel)) (byA eNcX10_init (p := 242) (v := 0) (by decide +kernel)) (byA eNcX10_init (p := 243) (v := 104) (by decide +kernel)) rfl
theorem dX10_init_244 : decode cX10_init 244 = .ok (.return_, 1) := dc_177 (byA eNcX10_init (p := 244) (v := 177) (by decide +kernel))
theorem dX11_init_0 : decode cX11_init 0 = .ok (.aload_n 0, 1) := dc_42 (byA eNcX11_init (p := 0) (v := 42) (by decide +kernel))
theorem dX11_init_1 : decode cX11_init 1 = .ok (.invokespecial 3, 3) := dc_183 (byA eNcX11_init (p := 1) (v := 183) (by decide +kernel)) (byA eNcX11_init (p := 2) (v := 0) (by decide +kernel)) (byA eNcX11_init (p := 3) (v := 3) (by decide +kernel)) rfl
theorem dX11_init_4 : decode cX11_init 4 = .ok (.aload_n 0, 1) := dc_42 (byA eNcX11_init (p := 4) (v := 42) (by decide +kernel))
theorem dX11_init_5 : decode cX11_init 5 = .ok (.sipush 160, 3) := dc_17 (byA eNcX11_init (p := 5) (v := 17) (by decide +kernel)) (byA eNcX11_init (p := 6) (v := 0) (by decide +kernel)) (byA eNcX11_init (p := 7) (v := 160) (by decide +kernel)) (by decide +kernel)
theorem dX11_init_8 : decode cX11_init 8 = .ok (.newarray .int, 2) := by decide +kernel
theorem dX11_init_10 : decode cX11_init 10 = .ok (.putfield 9, 3) := dc_181 (byA eNcX11_init (p := 10) (v := 181) (by decide +kernel)) (byA eNcX11_init (p := 11) (v := 0) (by decide +kernel)) (byA eNcX11_init (p := 12) (v := 9) (by decide +kernel)) rfl
theorem dX11_init_13 : decode cX11_init 13 = .ok (.aload_n 0, 1) := dc_42 (byA eNcX11_init (p := 13) (v := 42) (by decide +kernel))
theorem dX11_init_14 : decode cX11_init 14 = .ok (.sipush 1700, 3) := dc_17 (byA eNcX11_init (p := 14) (v := 17) (by decide +kernel)) (byA eNcX11_init (p := 15) (v := 6) (by decide +kernel)) (byA eNcX11_init (p := 16) (v := 164) (by decide +kernel)) (by decide +kernel)
theorem dX11_init_17 : decode cX11_init 17 = .ok (.newarray .int, 2) := by decide +kernel
theorem dX11_init_19 : decode cX11_init 19 = .ok (.putfield 13, 3) := dc_181 (byA eNcX11_init (p := 19) (v := 181) (by decide +kernel)) (byA eNcX11_init (p := 20) (v := 0) (by decide +kernel)) (byA eNcX11_init (p := 21) (v := 13) (by decide +kernel)) rfl
theorem dX11_init_22 : decode cX11_init 22 = .ok (.aload_n 0, 1) := dc_42 (byA eNcX11_init (p := 22) (v := 42) (by decide +kernel))
theorem dX11_init_23 : decode cX11_init 23 = .ok (.sipush 1700, 3) := dc_17 (byA eNcX11_init (p := 23) (v := 17) (by decide +kernel)) (byA eNcX11_init (p := 24) (v := 6) (by decide +kernel)) (byA eNcX11_init (p := 25) (v := 164) (by decide +kernel)) (by decide +kernel)
theorem dX11_init_26 : decode cX11_init 26 = .ok (.newarray .int, 2) := by decide +kernel
theorem dX11_init_28 : decode cX11_init 28 = .ok (.putfield 16, 3) := dc_181 (byA eNcX11_init (p := 28) (v := 181) (by decide +kernel)) (byA eNcX11_init (p := 29) (v := 0) (by decide +kernel)) (byA eNcX11_init (p := 30) (v := 16) (by decide +kernel)) rfl
theorem dX11_init_31 : decode cX11_init 31 = .ok (.aload_n 0, 1) := dc_42 (byA eNcX11_init (p := 31) (v := 42) (by decide +kernel))
theorem dX11_init_32 : decode cX11_init 32 = .ok (.iconst 5, 1) := dc_8 (byA eNcX11_init (p := 32) (v := 8) (by decide +kernel))
theorem dX11_init_33 : decode cX11_init 33 = .ok (.newarray .int, 2) := by decide +kernel
theorem dX11_init_35 : decode cX11_init 35 = .ok (.putfield 19, 3) := dc_181 (byA eNcX11_init (p := 35) (v := 181) (by decide +kernel)) (byA eNcX11_init (p := 36) (v := 0) (by decide +kernel)) (byA eNcX11_init (p := 37) (v := 19) (by decide +kernel)) rfl
theorem dX11_init_38 : decode cX11_init 38 = .ok (.aload_n 0, 1) := dc_42 (byA eNcX11_init (p := 38) (v := 42) (by decide +kernel))
theorem dX11_init_39 : decode cX11_init 39 = .ok (.iconst 5, 1) := dc_8 (byA eNcX11_init (p := 39) (v := 8) (by decide +kernel))
theorem dX11_init_40 : decode cX11_init 40 = .ok (.newarray .int, 2) := by decide +kernel
theorem dX11_init_42 : decode cX11_init 42 = .ok (.putfield 22, 3) := dc_181 (byA eNcX11_init (p := 42) (v := 181) (by decide +kernel)) (byA eNcX11_init (p := 43) (v := 0) (by decide +kernel)) (byA eNcX11_init (p := 44) (v := 22) (by decide +kernel)) rfl
theorem dX11_init_45 : decode cX11_init 45 = .ok (.aload_n 0, 1) := dc_42 (byA eNcX11_init (p := 45) (v := 42) (by decide +kernel))
theorem dX11_init_46 : decode cX11_init 46 = .ok (.sipush 450, 3) := dc_17 (byA eNcX11_init (p := 46) (v := 17) (by decide +kernel)) (byA eNcX11_init (p := 47) (v := 1) (by decide +kernel)) (byA eNcX11_init (p := 48) (v := 194) (by decide +kernel)) (by decide +kernel)
theorem dX11_init_49 : decode cX11_init 49 = .ok (.newarray .int, 2) := by decide +kernel
theorem dX11_init_51 : decode cX11_init 51 = .ok (.putfield 25, 3) := dc_181 (byA eNcX11_init (p := 51) (v := 181) (by decide +kernel)) (byA eNcX11_init (p := 52) (v := 0) (by decide +kernel)) (byA eNcX11_init (p := 53) (v := 25) (by decide +kernel)) rfl
theorem dX11_init_54 : decode cX11_init 54 = .ok (.aload_n 0, 1) := dc_42 (byA eNcX11_init (p := 54) (v := 42) (by decide +kernel))
theorem dX11_init_55 : decode cX11_init 55 = .ok (.sipush 450, 3) := dc_17 (byA eNcX11_init (p := 55) (v := 17) (by decide +kernel)) (byA eNcX11_init (p := 56) (v := 1) (by decide +kernel)) (byA eNcX11_init (p := 57) (v := 194) (by decide +kernel)) (by decide +kernel)
theorem dX11_init_58 : decode cX11_init 58 = .ok (.newarray .int, 2) := by decide +kernel
theorem dX11_init_60 : decode cX11_init 60 = .ok (.putfield 28, 3) := dc_181 (byA eNcX11_init (p := 60) (v := 181) (by decide +kernel)) (byA eNcX11_init (p := 61) (v := 0) (by decide +kernel)) (byA eNcX11_init (p := 62) (v := 28) (by decide +kernel)) rfl
theorem dX11_init_63 : decode cX11_init 63 = .ok (.aload_n 0, 1) := dc_42 (byA eNcX11_init (p := 63) (v := 42) (by decide +kernel))
theorem dX11_init_64 : decode cX11_init 64 = .ok (.sipush 450, 3) := dc_17 (byA eNcX11_init (p := 64) (v := 17) (by decide +kernel)) (byA eNcX11_init (p := 65) (v := 1) (by decide +kernel)) (byA eNcX11_init (p := 66) (v := 194) (by decide +kernel)) (by decide +kernel)
theorem dX11_init_67 : decode cX11_init 67 = .ok (.newarray .int, 2) := by decide +kernel
theorem dX11_init_69 : decode cX11_init 69 = .ok (.putfield 31, 3) := dc_181 (byA eNcX11_init (p := 69) (v := 181) (by decide +kernel)) (byA eNcX11_init (p := 70) (v := 0) (by decide +kernel)) (byA eNcX11_init (p := 71) (v := 31) (by decide +kernel)) rfl
theorem dX11_init_72 : decode cX11_init 72 = .ok (.aload_n 0, 1) := dc_42 (byA eNcX11_init (p := 72) (v := 42) (by decide +kernel))
theorem dX11_init_73 : decode cX11_init 73 = .ok (.iconst 5, 1) := dc_8 (byA eNcX11_init (p := 73) (v := 8) (by decide +kernel))
theorem dX11_init_74 : decode cX11_init 74 = .ok (.newarray .int, 2) := by decide +kernel
theorem dX11_init_76 : decode cX11_init 76 = .ok (.putfield 34, 3) := dc_181 (byA eNcX11_init (p := 76) (v := 181) (by decide +kernel)) (byA eNcX11_init (p := 77) (v := 0) (by decide +kernel)) (byA eNcX11_init (p := 78) (v := 34) (by decide +kernel)) rfl
theorem dX11_init_79 : decode cX11_init 79 = .ok (.aload_n 0, 1) := dc_42 (byA eNcX11_init (p := 79) (v := 42) (by decide +kernel))
theorem dX11_init_80 : decode cX11_init 80 = .ok (.bipush 80, 2) := dc_16 (byA eNcX11_init (p := 80) (v := 16) (by decide +kernel)) (byA eNcX11_init (p := 81) (v := 80) (by decide +kernel)) (by decide +kernel)
theorem dX11_init_82 : decode cX11_init 82 = .ok (.newarray .int, 2) := by decide +kernel
theorem dX11_init_84 : decode cX11_init 84 = .ok (.putfield 37, 3) := dc_181 (byA eNcX11_init (p := 84) (v := 181) (by decide +kernel)) (byA eNcX11_init (p := 85) (v := 0) (by decide +kernel)) (byA eNcX11_init (p := 86) (v := 37) (by decide +kernel)) rfl
theorem dX11_init_87 : decode cX11_init 87 = .ok (.aload_n 0, 1) := dc_42 (byA eNcX11_init (p := 87) (v := 42) (by decide +kernel))
theorem dX11_init_88 : decode cX11_init 88 = .ok (.bipush 60, 2) := dc_16 (byA eNcX11_init (p := 88) (v := 16) (by decide +kernel)) (byA eNcX11_init (p := 89) (v := 60) (by decide +kernel)) (by decide +kernel)
theorem dX11_init_90 : decode cX11_init 90 = .ok (.newarray .int, 2) := by decide +kernel
theorem dX11_init_92 : decode cX11_init 92 = .ok (.putfield 40, 3) := dc_181 (byA eNcX11_init (p := 92) (v := 181) (by decide +kernel)) (byA eNcX11_init (p := 93) (v := 0) (by decide +kernel)) (byA eNcX11_init (p := 94) (v := 40) (by decide +kernel)) rfl
theorem dX11_init_95 : decode cX11_init 95 = .ok (.aload_n 0, 1) := dc_42 (byA eNcX11_init (p := 95) (v := 42) (by decide +kernel))
theorem dX11_init_96 : decode cX11_init 96 = .ok (.bipush 60, 2) := dc_16 (byA eNcX11_init (p := 96) (v := 16) (by decide +kernel)) (byA eNcX11_init (p := 97) (v := 60) (by decide +kernel)) (by decide +kernel)
theorem dX11_init_98 : decode cX11_init 98 = .ok (.newarray .int, 2) := by decide +kernel
theorem dX11_init_100 : decode cX11_init 100 = .ok (.putfield 43, 3) := dc_181 (byA eNcX11_init (p := 100) (v := 181) (by decide +kernel)) (byA eNcX11_init (p := 101) (v := 0) (by decide +kernel)) (byA eNcX11_init (p := 102) (v := 43) (by decide +kernel)) rfl
theorem dX11_init_103 : decode cX11_init 103 = .ok (.aload_n 0, 1) := dc_42 (byA eNcX11_init (p := 103) (v := 42) (by decide +kernel))
theorem dX11_init_104 : decode cX11_init 104 = .ok (.bipush 48, 2) := dc_16 (byA eNcX11_init (p := 104) (v := 16) (by decide +kernel)) (byA eNcX11_init (p := 105) (v := 48) (by decide +kernel)) (by decide +kernel)
theorem dX11_init_106 : decode cX11_init 106 = .ok (.newarray .int, 2) := by decide +kernel
theorem dX11_init_108 : decode cX11_init 108 = .ok (.putfield 46, 3) := dc_181 (byA eNcX11_init (p := 108) (v := 181) (by decide +kernel)) (byA eNcX11_init (p := 109) (v := 0) (by decide +kernel)) (byA eNcX11_init (p := 110) (v := 46) (by decide +kernel)) rfl
theorem dX11_init_111 : decode cX11_init 111 = .ok (.aload_n 0, 1) := dc_42 (byA eNcX11_init (p := 111) (v := 42) (by decide +kernel))
theorem dX11_init_112 : decode cX11_init 112 = .ok (.bipush 48, 2) := dc_16 (byA eNcX11_init (p := 112) (v := 16) (by decide +kernel)) (byA eNcX11_init (p := 113) (v := 48) (by decide +kernel)) (by decide +kernel)
theorem dX11_init_114 : decode cX11_init 114 = .ok (.newarray .int, 2) := by decide +kernel
theorem dX11_init_116 : decode cX11_init 116 = .ok (.putfield 49, 3) := dc_181 (byA eNcX11_init (p := 116) (v := 181) (by decide +kernel)) (byA eNcX11_init (p := 117) (v := 0) (by decide +kernel)) (byA eNcX11_init (p := 118) (v := 49) (by decide +kernel)) rfl
theorem dX11_init_119 : decode cX11_init 119 = .ok (.aload_n 0, 1) := dc_42 (byA eNcX11_init (p := 119) (v := 42) (by decide +kernel))
theorem dX11_init_120 : decode cX11_init 120 = .ok (.bipush 6, 2) := dc_16 (byA eNcX11_init (p := 120) (v := 16) (by decide +kernel)) (byA eNcX11_init (p := 121) (v := 6) (by decide +kernel)) (by decide +kernel)
theorem dX11_init_122 : decode cX11_init 122 = .ok (.newarray .int, 2) := by decide +kernel
theorem dX11_init_124 : decode cX11_init 124 = .ok (.putfield 52, 3) := dc_181 (byA eNcX11_init (p := 124) (v := 181) (by decide +kernel)) (byA eNcX11_init (p := 125) (v := 0) (by decide +kernel)) (byA eNcX11_init (p := 126) (v := 52) (by decide +kernel)) rfl
theorem dX11_init_127 : decode cX11_init 127 = .ok (.aload_n 0, 1) := dc_42 (byA eNcX11_init (p := 127) (v := 42) (by decide +kernel))
theorem dX11_init_128 : decode cX11_init 128 = .ok (.bipush 8, 2) := dc_16 (byA eNcX11_init (p := 128) (v := 16) (by decide +kernel)) (byA eNcX11_init (p := 129) (v := 8) (by decide +kernel)) (by decide +kernel)
theorem dX11_init_130 : decode cX11_init 130 = .ok (.newarray .int, 2) := by decide +kernel
theorem dX11_init_132 : decode cX11_init 132 = .ok (.putfield 55, 3) := dc_181 (byA eNcX11_init (p := 132) (v := 181) (by decide +kernel)) (byA eNcX11_init (p := 133) (v := 0) (by decide +kernel)) (byA eNcX11_init (p := 134) (v := 55) (by decide +kernel)) rfl
theorem dX11_init_135 : decode cX11_init 135 = .ok (.aload_n 0, 1) := dc_42 (byA eNcX11_init (p := 135) (v := 42) (by decide +kernel))
theorem dX11_init_136 : decode cX11_init 136 = .ok (.iconst 1, 1) := dc_4 (byA eNcX11_init (p := 136) (v := 4) (by decide +kernel))
theorem dX11_init_137 : decode cX11_init 137 = .ok (.putfield 58, 3) := dc_181 (byA eNcX11_init (p := 137) (v := 181) (by decide +kernel)) (byA eNcX11_init (p := 138) (v := 0) (by decide +kernel)) (byA eNcX11_init (p := 139) (v := 58) (by decide +kernel)) rfl
theorem dX11_init_140 : decode cX11_init 140 = .ok (.aload_n 0, 1) := dc_42 (byA eNcX11_init (p := 140) (v := 42) (by decide +kernel))
theorem dX11_init_141 : decode cX11_init 141 = .ok (.iconst (-1), 1) := dc_2 (byA eNcX11_init (p := 141) (v := 2) (by decide +kernel))
theorem dX11_init_142 : decode cX11_init 142 = .ok (.putfield 62, 3) := dc_181 (byA eNcX11_init (p := 142) (v := 181) (by decide +kernel)) (byA eNcX11_init (p := 143) (v := 0) (by decide +kernel)) (byA eNcX11_init (p := 144) (v := 62) (by decide +kernel)) rfl
theorem dX11_init_145 : decode cX11_init 145 = .ok (.aload_n 0, 1) := dc_42 (byA eNcX11_init (p := 145) (v := 42) (by decide +kernel))
theorem dX11_init_146 : decode cX11_init 146 = .ok (.bipush 60, 2) := dc_16 (byA eNcX11_init (p := 146) (v := 16) (by decide +kernel)) (byA eNcX11_init (p := 147) (v := 60) (by decide +kernel)) (by decide +kernel)
theorem dX11_init_148 : decode cX11_init 148 = .ok (.newarray .int, 2) := by decide +kernel
theorem dX11_init_150 : decode cX11_init 150 = .ok (.putfield 65, 3) := dc_181 (byA eNcX11_init (p := 150) (v := 181) (by decide +kernel)) (byA eNcX11_init (p := 151) (v := 0) (by decide +kernel)) (byA eNcX11_init (p := 152) (v := 65) (by decide +kernel)) rfl
theorem dX11_init_153 : decode cX11_init 153 = .ok (.aload_n 0, 1) := dc_42 (byA eNcX11_init (p := 153) (v := 42) (by decide +kernel))
theorem dX11_init_154 : decode cX11_init 154 = .ok (.bipush 8, 2) := dc_16 (byA eNcX11_init (p := 154) (v := 16) (by decide +kernel)) (byA eNcX11_init (p := 155) (v := 8) (by decide +kernel)) (by decide +kernel)
theorem dX11_init_156 : decode cX11_init 156 = .ok (.newarray .int, 2) := by decide +kernel
theorem dX11_init_158 : decode cX11_init 158 = .ok (.putfield 68, 3) := dc_181 (byA eNcX11_init (p := 158) (v := 181) (by decide +kernel)) (byA eNcX11_init (p := 159) (v := 0) (by decide +kernel)) (byA eNcX11_init (p := 160) (v := 68) (by decide +kernel)) rfl
theorem dX11_init_161 : decode cX11_init 161 = .ok (.aload_n 0, 1) := dc_42 (byA eNcX11_init (p := 161) (v := 42) (by decide +kernel))
theorem dX11_init_162 : decode cX11_init 162 = .ok (.bipush 72, 2) := dc_16 (byA eNcX11_init (p := 162) (v := 16) (by decide +kernel)) (byA eNcX11_init (p := 163) (v := 72) (by decide +kernel)) (by decide +kernel)
theorem dX11_init_164 : decode cX11_init 164 = .ok (.newarray .int, 2) := by decide +kernel
theorem dX11_init_166 : decode cX11_init 166 = .ok (.putfield 71, 3) := dc_181 (byA eNcX11_init (p := 166) (v := 181) (by decide +kernel)) (byA eNcX11_init (p := 167) (v := 0) (by decide +kernel)) (byA eNcX11_init (p := 168) (v := 71) (by decide +kernel)) rfl
theorem dX11_init_169 : decode cX11_init 169 = .ok (.aload_n 0, 1) := dc_42 (byA eNcX11_init (p := 169) (v := 42) (by decide +kernel))
theorem dX11_init_170 : decode cX11_init 170 = .ok (.bipush 8, 2) := dc_16 (byA eNcX11_init (p := 170) (v := 16) (by decide +kernel)) (byA eNcX11_init (p := 171) (v := 8) (by decide +kernel)) (by decide +kernel)
theorem dX11_init_172 : decode cX11_init 172 = .ok (.newarray .int, 2) := by decide +kernel
theorem dX11_init_174 : decode cX11_init 174 = .ok (.putfield 74, 3) := dc_181 (byA eNcX11_init (p := 174) (v := 181) (by decide +kernel)) (byA eNcX11_init (p := 175) (v := 0) (by decide +kernel)) (byA eNcX11_init (p := 176) (v := 74) (by decide +kernel)) rfl
theorem dX11_init_177 : decode cX11_init 177 = .ok (.aload_n 0, 1) := dc_42 (byA eNcX11_init (p := 177) (v := 42) (by decide +kernel))
theorem dX11_init_178 : decode cX11_init 178 = .ok (.bipush 8, 2) := dc_16 (byA eNcX11_init (p := 178) (v := 16) (by decide +kernel)) (byA eNcX11_init (p := 179) (v := 8) (by decide +kernel)) (by decide +kernel)
theorem dX11_init_180 : decode cX11_init 180 = .ok (.newarray .int, 2) := by decide +kernel
theorem dX11_init_182 : decode cX11_init 182 = .ok (.putfield 77, 3) := dc_181 (byA eNcX11_init (p := 182) (v := 181) (by decide +kernel)) (byA eNcX11_init (p := 183) (v := 0) (by decide +kernel)) (byA eNcX11_init (p := 184) (v := 77) (by decide +kernel)) rfl
theorem dX11_init_185 : decode cX11_init 185 = .ok (.aload_n 0, 1) := dc_42 (byA eNcX11_init (p := 185) (v := 42) (by decide +kernel))
theorem dX11_init_186 : decode cX11_init 186 = .ok (.bipush 8, 2) := dc_16 (byA eNcX11_init (p := 186) (v := 16) (by decide +kernel)) (byA eNcX11_init (p := 187) (v := 8) (by decide +kernel)) (by decide +kernel)
theorem dX11_init_188 : decode cX11_init 188 = .ok (.newarray .int, 2) := by decide +kernel
theorem dX11_init_190 : decode cX11_init 190 = .ok (.putfield 80, 3) := dc_181 (byA eNcX11_init (p := 190) (v := 181) (by decide +kernel)) (byA eNcX11_init (p := 191) (v := 0) (by decide +kernel)) (byA eNcX11_init (p := 192) (v := 80) (by decide +kernel)) rfl
theorem dX11_init_193 : decode cX11_init 193 = .ok (.aload_n 0, 1) := dc_42 (byA eNcX11_init (p := 193) (v := 42) (by decide +kernel))
theorem dX11_init_194 : decode cX11_init 194 = .ok (.bipush 10, 2) := dc_16 (byA eNcX11_init (p := 194) (v := 16) (by decide +kernel)) (byA eNcX11_init (p := 195) (v := 10) (by decide +kernel)) (by decide +kernel)
theorem dX11_init_196 : decode cX11_init 196 = .ok (.newarray .int, 2) := by decide +kernel
theorem dX11_init_198 : decode cX11_init 198 = .ok (.putfield 83, 3) := dc_181 (byA eNcX11_init (p := 198) (v := 181) (by decide +kernel)) (byA eNcX11_init (p := 199) (v := 0) (by decide +kernel)) (byA eNcX11_init (p := 200) (v := 83) (by decide +kernel)) rfl
theorem dX11_init_201 : decode cX11_init 201 = .ok (.aload_n 0, 1) := dc_42 (byA eNcX11_init (p := 201) (v := 42) (by decide +kernel))
theorem dX11_init_202 : decode cX11_init 202 = .ok (.bipush 10, 2) := dc_16 (byA eNcX11_init (p := 202) (v := 16) (by decide +kernel)) (byA eNcX11_init (p := 203) (v := 10) (by decide +kernel)) (by decide +kernel)
theorem dX11_init_204 : decode cX11_init 204 = .ok (.newarray .int, 2) := by decide +kernel
theorem dX11_init_206 : decode cX11_init 206 = .ok (.putfield 86, 3) := dc_181 (byA eNcX11_init (p := 206) (v := 181) (by decide +kernel)) (byA eNcX11_init (p := 207) (v := 0) (by decide +kernel)) (byA eNcX11_init (p := 208) (v := 86) (by decide +kernel)) rfl
theorem dX11_init_209 : decode cX11_init 209 = .ok (.aload_n 0, 1) := dc_42 (byA eNcX11_init (p := 209) (v := 42) (by decide +kernel))
theorem dX11_init_210 : decode cX11_init 210 = .ok (.sipush 256, 3) := dc_17 (byA eNcX11_init (p := 210) (v := 17) (by decide +kernel)) (byA eNcX11_init (p := 211) (v := 1) (by decide +kernel)) (byA eNcX11_init (p := 212) (v := 0) (by decide +kernel)) (by decide +kernel)
theorem dX11_init_213 : decode cX11_init 213 = .ok (.newarray .int, 2) := by decide +kernel
theorem dX11_init_215 : decode cX11_init 215 = .ok (.putfield 89, 3) := dc_181 (byA eNcX11_init (p := 215) (v := 181) (by decide +kernel)) (byA eNcX11_init (p := 216) (v := 0) (by decide +kernel)) (byA eNcX11_init (p := 217) (v := 89) (by decide +kernel)) rfl
theorem dX11_init_218 : decode cX11_init 218 = .ok (.aload_n 0, 1) := dc_42 (byA eNcX11_init (p := 218) (v := 42) (by decide +kernel))
theorem dX11_init_219 : decode cX11_init 219 = .ok (.bipush 60, 2) := dc_16 (byA eNcX11_init (p := 219) (v := 16) (by decide +kernel)) (byA eNcX11_init (p := 220) (v := 60) (by decide +kernel)) (by decide +kernel)
theorem dX11_init_221 : decode cX11_init 221 = .ok (.newarray .int, 2) := by decide +kernel
theorem dX11_init_223 : decode cX11_init 223 = .ok (.putfield 92, 3) := dc_181 (byA eNcX11_init (p := 223) (v := 181) (by decide +kernel)) (byA eNcX11_init (p := 224) (v := 0) (by decide +kernel)) (byA eNcX11_init (p := 225) (v := 92) (by decide +kernel)) rfl
theorem dX11_init_226 : decode cX11_init 226 = .ok (.aload_n 0, 1) := dc_42 (byA eNcX11_init (p := 226) (v := 42) (by decide +kernel))
theorem dX11_init_227 : decode cX11_init 227 = .ok (.bipush 8, 2) := dc_16 (byA eNcX11_init (p := 227) (v := 16) (by decide +kernel)) (byA eNcX11_init (p := 228) (v := 8) (by decide +kernel)) (by decide +kernel)
theorem dX11_init_229 : decode cX11_init 229 = .ok (.newarray .int, 2) := by decide +kernel
theorem dX11_init_231 : decode cX11_init 231 = .ok (.putfield 95, 3) := dc_181 (byA eNcX11_init (p := 231) (v := 181) (by decide +kernel)) (byA eNcX11_init (p := 232) (v := 0) (by decide +kernel)) (byA eNcX11_init (p := 233) (v := 95) (by decide +kernel)) rfl
theorem dX11_init_234 : decode cX11_init 234 = .ok (.return_, 1) := dc_177 (byA eNcX11_init (p := 234) (v := 177) (by decide +kernel))
theorem dX1_init_0 : decode cX1_init 0 = .ok (.aload_n 0, 1) := dc_42 (byA eNcX1_init (p := 0) (v := 42) (by decide +kernel))
theorem dX1_init_1 : decode cX1_init 1 = .ok (.invokespecial 3, 3) := dc_183 (byA eNcX1_init (p := 1) (v := 183) (by decide +kernel)) (byA eNcX1_init (p := 2) (v := 0) (by decide +kernel)) (byA eNcX1_init (p := 3) (v := 3) (by decide +kernel)) rfl
theorem dX1_init_4 : decode cX1_init 4 = .ok (.aload_n 0, 1) := dc_42 (byA eNcX1_init (p := 4) (v := 42) (by decide +kernel))
theorem dX1_init_5 : decode cX1_init 5 = .ok (.bipush 8, 2) := dc_16 (byA eNcX1_init (p := 5) (v := 16) (by decide +kernel)) (byA eNcX1_init (p := 6) (v := 8) (by decide +kernel)) (by decide +kernel)
theorem dX1_init_7 : decode cX1_init 7 = .ok (.newarray .int, 2) := by decide +kernel
theorem dX1_init_9 : decode cX1_init 9 = .ok (.putfield 9, 3) := dc_181 (byA eNcX1_init (p := 9) (v := 181) (by decide +kernel)) (byA eNcX1_init (p := 10) (v := 0) (by decide +kernel)) (byA eNcX1_init (p := 11) (v := 9) (by decide +kernel)) rfl
theorem dX1_init_12 : decode cX1_init 12 = .ok (.aload_n 0, 1) := dc_42 (byA eNcX1_init (p := 12) (v := 42) (by decide +kernel))
theorem dX1_init_13 : decode cX1_init 13 = .ok (.bipush 8, 2) := dc_16 (byA eNcX1_init (p := 13) (v := 16) (by decide +kernel)) (byA eNcX1_init (p := 14) (v := 8) (by decide +kernel)) (by decide +kernel)
theorem dX1_init_15 : decode cX1_init 15 = .ok (.newarray .int, 2) := by decide +kernel
theorem dX1_init_17 : decode cX1_init 17 = .ok (.putfield 15, 3) := dc_181 (byA eNcX1_init (p := 17) (v := 181) (by decide +kernel)) (byA eNcX1_init (p := 18) (v := 0) (by decide +kernel)) (byA eNcX1_init (p := 19) (v := 15) (by decide +kernel)) rfl
theorem dX1_init_20 : decode cX1_init 20 = .ok (.aload_n 0, 1) := dc_42 (byA eNcX1_init (p := 20) (v := 42) (by decide +kernel))
theorem dX1_init_21 : decode cX1_init 21 = .ok (.bipush 8, 2) := dc_16 (byA eNcX1_init (p := 21) (v := 16) (by decide +kernel)) (byA eNcX1_init (p := 22) (v := 8) (by decide +kernel)) (by decide +kernel)
theorem dX1_init_23 : decode cX1_init 23 = .ok (.newarray .int, 2) := by decide +kernel
theorem dX1_init_25 : decode cX1_init 25 = .ok (.putfield 18, 3) := dc_181 (byA eNcX1_init (p := 25) (v := 181) (by decide +kernel)) (byA eNcX1_init (p := 26) (v := 0) (by decide +kernel)) (byA eNcX1_init (p := 27) (v := 18) (by decide +kernel)) rfl
theorem dX1_init_28 : decode cX1_init 28 = .ok (.aload_n 0, 1) := dc_42 (byA eNcX1_init (p := 28) (v := 42) (by decide +kernel))
theorem dX1_init_29 : decode cX1_init 29 = .ok (.bipush 72, 2) := dc_16 (byA eNcX1_init (p := 29) (v := 16) (by decide +kernel)) (byA eNcX1_init (p := 30) (v := 72) (by decide +kernel)) (by decide +kernel)
theorem dX1_init_31 : decode cX1_init 31 = .ok (.newarray .int, 2) := by decide +kernel
theorem dX1_init_33 : decode cX1_init 33 = .ok (.putfield 21, 3) := dc_181 (byA eNcX1_init (p := 33) (v := 181) (by decide +kernel)) (byA eNcX1_init (p := 34) (v := 0) (by decide +kernel)) (byA eNcX1_init (p := 35) (v := 21) (by decide +kernel)) rfl
theorem dX1_init_36 : decode cX1_init 36 = .ok (.aload_n 0, 1) := dc_42 (byA eNcX1_init (p := 36) (v := 42) (by decide +kernel))
theorem dX1_init_37 : decode cX1_init 37 = .ok (.aload_n 1, 1) := dc_43 (byA eNcX1_init (p := 37) (v := 43) (by decide +kernel))
theorem dX1_init_38 : decode cX1_init 38 = .ok (.putfield 24, 3) := dc_181 (byA eNcX1_init (p := 38) (v := 181) (by decide +kernel)) (byA eNcX1_init (p := 39) (v := 0) (by decide +kernel)) (byA eNcX1_init (p := 40) (v := 24) (by decide +kernel)) rfl
theorem dX1_init_41 : decode cX1_init 41 = .ok (.return_, 1) := dc_177 (byA eNcX1_init (p := 41) (v := 177) (by decide +kernel))
theorem dX2_init_0 : decode cX2_init 0 = .ok (.aload_n 0, 1) := dc_42 (byA eNcX2_init (p := 0) (v := 42) (by decide +kernel))
theorem dX2_init_1 : decode cX2_init 1 = .ok (.invokespecial 3, 3) := dc_183 (byA eNcX2_init (p := 1) (v := 183) (by decide +kernel)) (byA eNcX2_init (p := 2) (v := 0) (by decide +kernel)) (byA eNcX2_init (p := 3) (v := 3) (by decide +kernel)) rfl
theorem dX2_init_4 : decode cX2_init 4 = .ok (.aload_n 0, 1) := dc_42 (byA eNcX2_init (p := 4) (v := 42) (by decide +kernel))
theorem dX2_init_5 : decode cX2_init 5 = .ok (.aload_n 1, 1) := dc_43 (byA eNcX2_init (p := 5) (v := 43) (by decide +kernel))
theorem dX2_init_6 : decode cX2_init 6 = .ok (.putfield 9, 3) := dc_181 (byA eNcX2_init (p := 6) (v := 181) (by decide +kernel)) (byA eNcX2_init (p := 7) (v := 0) (by decide +kernel)) (byA eNcX2_init (p := 8) (v := 9) (by decide +kernel)) rfl
theorem dX2_init_9 : decode cX2_init 9 = .ok (.return_, 1) := dc_177 (byA eNcX2_init (p := 9) (v := 177) (by decide +kernel))
theorem dX3_init_0 : decode cX3_init 0 = .ok (.aload_n 0, 1) := dc_42 (byA eNcX3_init (p := 0) (v := 42) (by decide +kernel))
theorem dX3_init_1 : decode cX3_init 1 = .ok (.invokespecial 3, 3) := dc_183 (byA eNcX3_init (p := 1) (v := 183) (by decide +kernel)) (byA eNcX3_init (p := 2) (v := 0) (by decide +kernel)) (byA eNcX3_init (p := 3) (v := 3) (by decide +kernel)) rfl
theorem dX3_init_4 : decode cX3_init 4 = .ok (.aload_n 0, 1) := dc_42 (byA eNcX3_init (p := 4) (v := 42) (by decide +kernel))
theorem dX3_init_5 : decode cX3_init 5 = .ok (.bipush 8, 2) := dc_16 (byA eNcX3_init (p := 5) (v := 16) (by decide +kernel)) (byA eNcX3_init (p := 6) (v := 8) (by decide +kernel)) (by decide +kernel)
theorem dX3_init_7 : decode cX3_init 7 = .ok (.newarray .int, 2) := by decide +kernel
theorem dX3_init_9 : decode cX3_init 9 = .ok (.putfield 9, 3) := dc_181 (byA eNcX3_init (p := 9) (v := 181) (by decide +kernel)) (byA eNcX3_init (p := 10) (v := 0) (by decide +kernel)) (byA eNcX3_init (p := 11) (v := 9) (by decide +kernel)) rfl
theorem dX3_init_12 : decode cX3_init 12 = .ok (.aload_n 0, 1) := dc_42 (byA eNcX3_init (p := 12) (v := 42) (by decide +kernel))
theorem dX3_init_13 : decode cX3_init 13 = .ok (.bipush 8, 2) := dc_16 (byA eNcX3_init (p := 13) (v := 16) (by decide +kernel)) (byA eNcX3_init (p := 14) (v := 8) (by decide +kernel)) (by decide +kernel)
theorem dX3_init_15 : decode cX3_init 15 = .ok (.newarray .int, 2) := by decide +kernel
theorem dX3_init_17 : decode cX3_init 17 = .ok (.putfield 15, 3) := dc_181 (byA eNcX3_init (p := 17) (v := 181) (by decide +kernel)) (byA eNcX3_init (p := 18) (v := 0) (by decide +kernel)) (byA eNcX3_init (p := 19) (v := 15) (by decide +kernel)) rfl
theorem dX3_init_20 : decode cX3_init 20 = .ok (.return_, 1) := dc_177 (byA eNcX3_init (p := 20) (v := 177) (by decide +kernel))
theorem dX4_init_0 : decode cX4_init 0 = .ok (.aload_n 0, 1) := dc_42 (byA eNcX4_init (p := 0) (v := 42) (by decide +kernel))
theorem dX4_init_1 : decode cX4_init 1 = .ok (.invokespecial 3, 3) := dc_183 (byA eNcX4_init (p := 1) (v := 183) (by decide +kernel)) (byA eNcX4_init (p := 2) (v := 0) (by decide +kernel)) (byA eNcX4_init (p := 3) (v := 3) (by decide +kernel)) rfl
theorem dX4_init_4 : decode cX4_init 4 = .ok (.aload_n 0, 1) := dc_42 (byA eNcX4_init (p := 4) (v := 42) (by decide +kernel))
theorem dX4_init_5 : decode cX4_init 5 = .ok (.aload_n 1, 1) := dc_43 (byA eNcX4_init (p := 5) (v := 43) (by decide +kernel))
theorem dX4_init_6 : decode cX4_init 6 = .ok (.putfield 9, 3) := dc_181 (byA eNcX4_init (p := 6) (v := 181) (by decide +kernel)) (byA eNcX4_init (p := 7) (v := 0) (by decide +kernel)) (byA eNcX4_init (p := 8) (v := 9) (by decide +kernel)) rfl
theorem dX4_init_9 : decode cX4_init 9 = .ok (.aload_n 0, 1) := dc_42 (byA eNcX4_init (p := 9) (v := 42) (by decide +kernel))
theorem dX4_init_10 : decode cX4_init 10 = .ok (.iconst (-1), 1) := dc_2 (byA eNcX4_init (p := 10) (v := 2) (by decide +kernel))
theorem dX4_init_11 : decode cX4_init 11 = .ok (.putfield 15, 3) := dc_181 (byA eNcX4_init (p := 11) (v := 181) (by decide +kernel)) (byA eNcX4_init (p := 12) (v := 0) (by decide +kernel)) (byA eNcX4_init (p := 13) (v := 15) (by decide +kernel)) rfl
theorem dX4_init_14 : decode cX4_init 14 = .ok (.return_, 1) := dc_177 (byA eNcX4_init (p := 14) (v := 177) (by decide +kernel))
theorem dX5_init_0 : decode cX5_init 0 = .ok (.aload_n 0, 1) := dc_42 (byA eNcX5_init (p := 0) (v := 42) (by decide +kernel))
theorem dX5_init_1 : decode cX5_init 1 = .ok (.invokespecial 3, 3) := dc_183 (byA eNcX5_init (p := 1) (v := 183) (by decide +kernel)) (byA eNcX5_init (p := 2) (v := 0) (by decide +kernel)) (byA eNcX5_init (p := 3) (v := 3) (by decide +kernel)) rfl
theorem dX5_init_4 : decode cX5_init 4 = .ok (.aload_n 0, 1) := dc_42 (byA eNcX5_init (p := 4) (v := 42) (by decide +kernel))
theorem dX5_init_5 : decode cX5_init 5 = .ok (.bipush 8, 2) := dc_16 (byA eNcX5_init (p := 5) (v := 16) (by decide +kernel)) (byA eNcX5_init (p := 6) (v := 8) (by decide +kernel)) (by decide +kernel)
theorem dX5_init_7 : decode cX5_init 7 = .ok (.newarray .int, 2) := by decide +kernel
theorem dX5_init_9 : decode cX5_init 9 = .ok (.putfield 9, 3) := dc_181 (byA eNcX5_init (p := 9) (v := 181) (by decide +kernel)) (byA eNcX5_init (p := 10) (v := 0) (by decide +kernel)) (byA eNcX5_init (p := 11) (v := 9) (by decide +kernel)) rfl
theorem dX5_init_12 : decode cX5_init 12 = .ok (.aload_n 0, 1) := dc_42 (byA eNcX5_init (p := 12) (v := 42) (by decide +kernel))
theorem dX5_init_13 : decode cX5_init 13 = .ok (.bipush 8, 2) := dc_16 (byA eNcX5_init (p := 13) (v := 16) (by decide +kernel)) (byA eNcX5_init (p := 14) (v := 8) (by decide +kernel)) (by decide +kernel)
theorem dX5_init_15 : decode cX5_init 15 = .ok (.newarray .int, 2) := by decide +kernel
theorem dX5_init_17 : decode cX5_init 17 = .ok (.putfield 15, 3) := dc_181 (byA eNcX5_init (p := 17) (v := 181) (by decide +kernel)) (byA eNcX5_init (p := 18) (v := 0) (by decide +kernel)) (byA eNcX5_init (p := 19) (v := 15) (by decide +kernel)) rfl
theorem dX5_init_20 : decode cX5_init 20 = .ok (.aload_n 0, 1) := dc_42 (byA eNcX5_init (p := 20) (v := 42) (by decide +kernel))
theorem dX5_init_21 : decode cX5_init 21 = .ok (.bipush 8, 2) := dc_16 (byA eNcX5_init (p := 21) (v := 16) (by decide +kernel)) (byA eNcX5_init (p := 22) (v := 8) (by decide +kernel)) (by decide +kernel)
theorem dX5_init_23 : decode cX5_init 23 = .ok (.newarray .int, 2) := by decide +kernel
theorem dX5_init_25 : decode cX5_init 25 = .ok (.putfield 18, 3) := dc_181 (byA eNcX5_init (p := 25) (v := 181) (by decide +kernel)) (byA eNcX5_init (p := 26) (v := 0) (by decide +kernel)) (byA eNcX5_init (p := 27) (v := 18) (by decide +kernel)) rfl
theorem dX5_init_28 : decode cX5_init 28 = .ok (.return_, 1) := dc_177 (byA eNcX5_init (p := 28) (v := 177) (by decide +kernel))
theorem dX6_init_0 : decode cX6_init 0 = .ok (.aload_n 0, 1) := dc_42 (byA eNcX6_init (p := 0) (v := 42) (by decide +kernel))
theorem dX6_init_1 : decode cX6_init 1 = .ok (.invokespecial 3, 3) := dc_183 (byA eNcX6_init (p := 1) (v := 183) (by decide +kernel)) (byA eNcX6_init (p := 2) (v := 0) (by decide +kernel)) (byA eNcX6_init (p := 3) (v := 3) (by decide +kernel)) rfl
theorem dX6_init_4 : decode cX6_init 4 = .ok (.aload_n 0, 1) := dc_42 (byA eNcX6_init (p := 4) (v := 42) (by decide +kernel))
theorem dX6_init_5 : decode cX6_init 5 = .ok (.sipush 2048, 3) := dc_17 (byA eNcX6_init (p := 5) (v := 17) (by decide +kernel)) (byA eNcX6_init (p := 6) (v := 8) (by decide +kernel)) (byA eNcX6_init (p := 7) (v := 0) (by decide +kernel)) (by decide +kernel)
theorem dX6_init_8 : decode cX6_init 8 = .ok (.newarray .int, 2) := by decide +kernel
theorem dX6_init_10 : decode cX6_init 10 = .ok (.putfield 9, 3) := dc_181 (byA eNcX6_init (p := 10) (v := 181) (by decide +kernel)) (byA eNcX6_init (p := 11) (v := 0) (by decide +kernel)) (byA eNcX6_init (p := 12) (v := 9) (by decide +kernel)) rfl
theorem dX6_init_13 : decode cX6_init 13 = .ok (.aload_n 0, 1) := dc_42 (byA eNcX6_init (p := 13) (v := 42) (by decide +kernel))
theorem dX6_init_14 : decode cX6_init 14 = .ok (.sipush 2048, 3) := dc_17 (byA eNcX6_init (p := 14) (v := 17) (by decide +kernel)) (byA eNcX6_init (p := 15) (v := 8) (by decide +kernel)) (byA eNcX6_init (p := 16) (v := 0) (by decide +kernel)) (by decide +kernel)
theorem dX6_init_17 : decode cX6_init 17 = .ok (.newarray .int, 2) := by decide +kernel
theorem dX6_init_19 : decode cX6_init 19 = .ok (.putfield 15, 3) := dc_181 (byA eNcX6_init (p := 19) (v := 181) (by decide +kernel)) (byA eNcX6_init (p := 20) (v := 0) (by decide +kernel)) (byA eNcX6_init (p := 21) (v := 15) (by decide +kernel)) rfl
theorem dX6_init_22 : decode cX6_init 22 = .ok (.aload_n 0, 1) := dc_42 (byA eNcX6_init (p := 22) (v := 42) (by decide +kernel))
theorem dX6_init_23 : decode cX6_init 23 = .ok (.sipush 256, 3) := dc_17 (byA eNcX6_init (p := 23) (v := 17) (by decide +kernel)) (byA eNcX6_init (p := 24) (v := 1) (by decide +kernel)) (byA eNcX6_init (p := 25) (v := 0) (by decide +kernel)) (by decide +kernel)
theorem dX6_init_26 : decode cX6_init 26 = .ok (.newarray .int, 2) := by decide +kernel
theorem dX6_init_28 : decode cX6_init 28 = .ok (.putfield 18, 3) := dc_181 (byA eNcX6_init (p := 28) (v := 181) (by decide +kernel)) (byA eNcX6_init (p := 29) (v := 0) (by decide +kernel)) (byA eNcX6_init (p := 30) (v := 18) (by decide +kernel)) rfl
theorem dX6_init_31 : decode cX6_init 31 = .ok (.aload_n 0, 1) := dc_42 (byA eNcX6_init (p := 31) (v := 42) (by decide +kernel))
theorem dX6_init_32 : decode cX6_init 32 = .ok (.sipush 256, 3) := dc_17 (byA eNcX6_init (p := 32) (v := 17) (by decide +kernel)) (byA eNcX6_init (p := 33) (v := 1) (by decide +kernel)) (byA eNcX6_init (p := 34) (v := 0) (by decide +kernel)) (by decide +kernel)
theorem dX6_init_35 : decode cX6_init 35 = .ok (.newarray .int, 2) := by decide +kernel
theorem dX6_init_37 : decode cX6_init 37 = .ok (.putfield 21, 3) := dc_181 (byA eNcX6_init (p := 37) (v := 181) (by decide +kernel)) (byA eNcX6_init (p := 38) (v := 0) (by decide +kernel)) (byA eNcX6_init (p := 39) (v := 21) (by decide +kernel)) rfl
theorem dX6_init_40 : decode cX6_init 40 = .ok (.aload_n 0, 1) := dc_42 (byA eNcX6_init (p := 40) (v := 42) (by decide +kernel))
theorem dX6_init_41 : decode cX6_init 41 = .ok (.aload_n 1, 1) := dc_43 (byA eNcX6_init (p := 41) (v := 43) (by decide +kernel))
theorem dX6_init_42 : decode cX6_init 42 = .ok (.putfield 24, 3) := dc_181 (byA eNcX6_init (p := 42) (v := 181) (by decide +kernel)) (byA eNcX6_init (p := 43) (v := 0) (by decide +kernel)) (byA eNcX6_init (p := 44) (v := 24) (by decide +kernel)) rfl
theorem dX6_init_45 : decode cX6_init 45 = .ok (.return_, 1) := dc_177 (byA eNcX6_init (p := 45) (v := 177) (by decide +kernel))
theorem dX7_init_0 : decode cX7_init 0 = .ok (.aload_n 0, 1) := dc_42 (byA eNcX7_init (p := 0) (v := 42) (by decide +kernel))
theorem dX7_init_1 : decode cX7_init 1 = .ok (.invokespecial 3, 3) := dc_183 (byA eNcX7_init (p := 1) (v := 183) (by decide +kernel)) (byA eNcX7_init (p := 2) (v := 0) (by decide +kernel)) (byA eNcX7_init (p := 3) (v := 3) (by decide +kernel)) rfl
theorem dX7_init_4 : decode cX7_init 4 = .ok (.aload_n 0, 1) := dc_42 (byA eNcX7_init (p := 4) (v := 42) (by decide +kernel))
theorem dX7_init_5 : decode cX7_init 5 = .ok (.sipush 160, 3) := dc_17 (byA eNcX7_init (p := 5) (v := 17) (by decide +kernel)) (byA eNcX7_init (p := 6) (v := 0) (by decide +kernel)) (byA eNcX7_init (p := 7) (v := 160) (by decide +kernel)) (by decide +kernel)
theorem dX7_init_8 : decode cX7_init 8 = .ok (.newarray .int, 2) := by decide +kernel
theorem dX7_init_10 : decode cX7_init 10 = .ok (.putfield 9, 3) := dc_181 (byA eNcX7_init (p := 10) (v := 181) (by decide +kernel)) (byA eNcX7_init (p := 11) (v := 0) (by decide +kernel)) (byA eNcX7_init (p := 12) (v := 9) (by decide +kernel)) rfl
theorem dX7_init_13 : decode cX7_init 13 = .ok (.return_, 1) := dc_177 (byA eNcX7_init (p := 13) (v := 177) (by decide +kernel))
theorem dX8_init_0 : decode cX8_init 0 = .ok (.aload_n 0, 1) := dc_42 (byA eNcX8_init (p := 0) (v := 42) (by decide +kernel))
theorem dX8_init_1 : decode cX8_init 1 = .ok (.invokespecial 3, 3) := dc_183 (byA eNcX8_init (p := 1) (v := 183) (by decide +kernel)) (byA eNcX8_init (p := 2) (v := 0) (by decide +kernel)) (byA eNcX8_init (p := 3) (v := 3) (by decide +kernel)) rfl
theorem dX8_init_4 : decode cX8_init 4 = .ok (.aload_n 0, 1) := dc_42 (byA eNcX8_init (p := 4) (v := 42) (by decide +kernel))
theorem dX8_init_5 : decode cX8_init 5 = .ok (.bipush 10, 2) := dc_16 (byA eNcX8_init (p := 5) (v := 16) (by decide +kernel)) (byA eNcX8_init (p := 6) (v := 10) (by decide +kernel)) (by decide +kernel)
theorem dX8_init_7 : decode cX8_init 7 = .ok (.newarray .int, 2) := by decide +kernel
theorem dX8_init_9 : decode cX8_init 9 = .ok (.putfield 9, 3) := dc_181 (byA eNcX8_init (p := 9) (v := 181) (by decide +kernel)) (byA eNcX8_init (p := 10) (v := 0) (by decide +kernel)) (byA eNcX8_init (p := 11) (v := 9) (by decide +kernel)) rfl
theorem dX8_init_12 : decode cX8_init 12 = .ok (.aload_n 0, 1) := dc_42 (byA eNcX8_init (p := 12) (v := 42) (by decide +kernel))
theorem dX8_init_13 : decode cX8_init 13 = .ok (.bipush 10, 2) := dc_16 (byA eNcX8_init (p := 13) (v := 16) (by decide +kernel)) (byA eNcX8_init (p := 14) (v := 10) (by decide +kernel)) (by decide +kernel)
theorem dX8_init_15 : decode cX8_init 15 = .ok (.newarray .int, 2) := by decide +kernel
theorem dX8_init_17 : decode cX8_init 17 = .ok (.putfield 15, 3) := dc_181 (byA eNcX8_init (p := 17) (v := 181) (by decide +kernel)) (byA eNcX8_init (p := 18) (v := 0) (by decide +kernel)) (byA eNcX8_init (p := 19) (v := 15) (by decide +kernel)) rfl
theorem dX8_init_20 : decode cX8_init 20 = .ok (.aload_n 0, 1) := dc_42 (byA eNcX8_init (p := 20) (v := 42) (by decide +kernel))
theorem dX8_init_21 : decode cX8_init 21 = .ok (.aload_n 1, 1) := dc_43 (byA eNcX8_init (p := 21) (v := 43) (by decide +kernel))
theorem dX8_init_22 : decode cX8_init 22 = .ok (.putfield 18, 3) := dc_181 (byA eNcX8_init (p := 22) (v := 181) (by decide +kernel)) (byA eNcX8_init (p := 23) (v := 0) (by decide +kernel)) (byA eNcX8_init (p := 24) (v := 18) (by decide +kernel)) rfl
theorem dX8_init_25 : decode cX8_init 25 = .ok (.return_, 1) := dc_177 (byA eNcX8_init (p := 25) (v := 177) (by decide +kernel))
theorem dX9_init_0 : decode cX9_init 0 = .ok (.aload_n 0, 1) := dc_42 (byA eNcX9_init (p := 0) (v := 42) (by decide +kernel))
theorem dX9_init_1 : decode cX9_init 1 = .ok (.invokespecial 3, 3) := dc_183 (byA eNcX9_init (p := 1) (v := 183) (by decide +kernel)) (byA eNcX9_init (p := 2) (v := 0) (by decide +kernel)) (byA eNcX9_init (p := 3) (v := 3) (by decide +kernel)) rfl
theorem dX9_init_4 : decode cX9_init 4 = .ok (.aload_n 0, 1) := dc_42 (byA eNcX9_init (p := 4) (v := 42) (by decide +kernel))
theorem dX9_init_5 : decode cX9_init 5 = .ok (.bipush 60, 2) := dc_16 (byA eNcX9_init (p := 5) (v := 16) (by decide +kernel)) (byA eNcX9_init (p := 6) (v := 60) (by decide +kernel)) (by decide +kernel)
theorem dX9_init_7 : decode cX9_init 7 = .ok (.newarray .int, 2) := by decide +kernel
theorem dX9_init_9 : decode cX9_init 9 = .ok (.putfield 9, 3) := dc_181 (byA eNcX9_init (p := 9) (v := 181) (by decide +kernel)) (byA eNcX9_init (p := 10) (v := 0) (by decide +kernel)) (byA eNcX9_init (p := 11) (v := 9) (by decide +kernel)) rfl
theorem dX9_init_12 : decode cX9_init 12 = .ok (.aload_n 0, 1) := dc_42 (byA eNcX9_init (p := 12) (v := 42) (by decide +kernel))
theorem dX9_init_13 : decode cX9_init 13 = .ok (.bipush 60, 2) := dc_16 (byA eNcX9_init (p := 13) (v := 16) (by decide +kernel)) (byA eNcX9_init (p := 14) (v := 60) (by decide +kernel)) (by decide +kernel)
theorem dX9_init_15 : decode cX9_init 15 = .ok (.newarray .int, 2) := by decide +kernel
theorem dX9_init_17 : decode cX9_init 17 = .ok (.putfield 15, 3) := dc_181 (byA eNcX9_init (p := 17) (v := 181) (by decide +kernel)) (byA eNcX9_init (p := 18) (v := 0) (by decide +kernel)) (byA eNcX9_init (p := 19) (v := 15) (by decide +kernel)) rfl
theorem dX9_init_20 : decode cX9_init 20 = .ok (.return_, 1) := dc_177 (byA eNcX9_init (p := 20) (v := 177) (by decide +kernel))
set_option maxRecDepth 100000 in
theorem fw_X0_15 : Cond.fieldLink RX0 15 (TX0 1).1 (TX0 1).2.1 (TX0 1).2.2.1 ∈ tG := (tG_of (tb1 (List.mem_of_getElem? (i := 103) rfl)) (by decide +kernel))
set_option maxRecDepth 100000 in
theorem fw_X0_18 : Cond.fieldLink RX0 18 (TX0 2).1 (TX0 2).2.1 (TX0 2).2.2.1 ∈ tG := (tG_of (tb1 (List.mem_of_getElem? (i := 104) rfl)) (by decide +kernel))
set_option maxRecDepth 100000 in
theorem fw_X0_24 : Cond.fieldLink RX0 24 (TX0 3).1 (TX0 3).2.1 (TX0 3).2.2.1 ∈ tG := (tG_of (tb1 (List.mem_of_getElem? (i := 105) rfl)) (by decide +kernel))
set_option maxRecDepth 100000 in
theorem fw_X0_28 : Cond.fieldLink RX0 28 (TX0 4).1 (TX0 4).2.1 (TX0 4).2.2.1 ∈ tG := (tG_of (tb1 (List.mem_of_getElem? (i := 108) rfl)) (by decide +kernel))
set_option maxRecDepth 100000 in
theorem fw_X0_31 : Cond.fieldLink RX0 31 (TX0 5).1 (TX0 5).2.1 (TX0 5).2.2.1 ∈ tG := (tG_of (tb1 (List.mem_of_getElem? (i := 109) rfl)) (by decide +kernel))
set_option maxRecDepth 100000 in
theorem fw_X0_34 : Cond.fieldLink RX0 34 (TX0 6).1 (TX0 6).2.1 (TX0 6).2.2.1 ∈ tG := (tG_of (tb1 (List.mem_of_getElem? (i := 111) rfl)) (by decide +kernel))
set_option maxRecDepth 100000 in
theorem fw_X0_37 : Cond.fieldLink RX0 37 (TX0 7).1 (TX0 7).2.1 (TX0 7).2.2.1 ∈ tG := (tG_of (tb1 (List.mem_of_getElem? (i := 114) rfl)) (by decide +kernel))
set_option maxRecDepth 100000 in
theorem fw_X0_9 : Cond.fieldLink RX0 9 (TX0 0).1 (TX0 0).2.1 (TX0 0).2.2.1 ∈ tG := (tG_of (tb1 (List.mem_of_getElem? (i := 102) rfl)) (by decide +kernel))
set_option maxRecDepth 100000 in
theorem fw_X1_15 : Cond.fieldLink RX1 15 (TX1 2).1 (TX1 2).2.1 (TX1 2).2.2.1 ∈ tG := (tG_of (tb1 (List.mem_of_getElem? (i := 189) rfl)) (by decide +kernel))
set_option maxRecDepth 100000 in
theorem fw_X1_18 : Cond.fieldLink RX1 18 (TX1 3).1 (TX1 3).2.1 (TX1 3).2.2.1 ∈ tG := (tG_of (tb1 (List.mem_of_getElem? (i := 193) rfl)) (by decide +kernel))
set_option maxRecDepth 100000 in
theorem fw_X1_21 : Cond.fieldLink RX1 21 (TX1 4).1 (TX1 4).2.1 (TX1 4).2.2.1 ∈ tG := (tG_of (tb1 (List.mem_of_getElem? (i := 195) rfl)) (by decide +kernel))
set_option maxRecDepth 100000 in
theorem fw_X1_24 : Cond.fieldLink RX1 24 (TX1 0).1 (TX1 0).2.1 (TX1 0).2.2.1 ∈ tG := (tG_of (tb1 (List.mem_of_getElem? (i := 185) rfl)) (by decide +kernel))
set_option maxRecDepth 100000 in
theorem fw_X1_9 : Cond.fieldLink RX1 9 (TX1 1).1 (TX1 1).2.1 (TX1 1).2.2.1 ∈ tG := (tG_of (tb1 (List.mem_of_getElem? (i := 186) rfl)) (by decide +kernel))
set_option maxRecDepth 100000 in
theorem fw_X2_9 : Cond.fieldLink RX2 9 (TX2 0).1 (TX2 0).2.1 (TX2 0).2.2.1 ∈ tG := (tG_of (tb1 (List.mem_of_getElem? (i := 73) rfl)) (by decide +kernel))
set_option maxRecDepth 100000 in
theorem fw_X3_15 : Cond.fieldLink RX3 15 (TX3 1).1 (TX3 1).2.1 (TX3 1).2.2.1 ∈ tG := (tG_of (tb1 (List.mem_of_getElem? (i := 148) rfl)) (by decide +kernel))
set_option maxRecDepth 100000 in
theorem fw_X3_9 : Cond.fieldLink RX3 9 (TX3 0).1 (TX3 0).2.1 (TX3 0).2.2.1 ∈ tG := (tG_of (tb1 (List.mem_of_getElem? (i := 144) rfl)) (by decide +kernel))
set_option maxRecDepth 100000 in
theorem fw_X4_15 : Cond.fieldLink RX4 15 (TX4 2).1 (TX4 2).2.1 (TX4 2).2.2.1 ∈ tG := (tG_of (tb1 (List.mem_of_getElem? (i := 56) rfl)) (by decide +kernel))
set_option maxRecDepth 100000 in
theorem fw_X4_9 : Cond.fieldLink RX4 9 (TX4 0).1 (TX4 0).2.1 (TX4 0).2.2.1 ∈ tG := (tG_of (tb1 (List.mem_of_getElem? (i := 51) rfl)) (by decide +kernel))
set_option maxRecDepth 100000 in
theorem fw_X5_15 : Cond.fieldLink RX5 15 (TX5 1).1 (TX5 1).2.1 (TX5 1).2.2.1 ∈ tG := (tG_of (tb1 (List.mem_of_getElem? (i := 224) rfl)) (by decide +kernel))
set_option maxRecDepth 100000 in
theorem fw_X5_18 : Cond.fieldLink RX5 18 (TX5 2).1 (TX5 2).2.1 (TX5 2).2.2.1 ∈ tG := (tG_of (tb1 (List.mem_of_getElem? (i := 226) rfl)) (by decide +kernel))
set_option maxRecDepth 100000 in
theorem fw_X5_9 : Cond.fieldLink RX5 9 (TX5 0).1 (TX5 0).2.1 (TX5 0).2.2.1 ∈ tG := (tG_of (tb1 (List.mem_of_getElem? (i := 223) rfl)) (by decide +kernel))
set_option maxRecDepth 100000 in
theorem fw_X6_15 : Cond.fieldLink RX6 15 (TX6 1).1 (TX6 1).2.1 (TX6 1).2.2.1 ∈ tG := (tG_of (tb2 (List.mem_of_getElem? (i := 29) rfl)) (by decide +kernel))
set_option maxRecDepth 100000 in
theorem fw_X6_18 : Cond.fieldLink RX6 18 (TX6 2).1 (TX6 2).2.1 (TX6 2).2.2.1 ∈ tG := (tG_of (tb2 (List.mem_of_getElem? (i := 30) rfl)) (by decide +kernel))
set_option maxRecDepth 100000 in
theorem fw_X6_21 : Cond.fieldLink RX6 21 (TX6 3).1 (TX6 3).2.1 (TX6 3).2.2.1 ∈ tG := (tG_of (tb2 (List.mem_of_getElem? (i := 31) rfl)) (by decide +kernel))
set_option maxRecDepth 100000 in
theorem fw_X6_24 : Cond.fieldLink RX6 24 (TX6 4).1 (TX6 4).2.1 (TX6 4).2.2.1 ∈ tG := (tG_of (tb2 (List.mem_of_getElem? (i := 32) rfl)) (by decide +kernel))
set_option maxRecDepth 100000 in
theorem fw_X6_9 : Cond.fieldLink RX6 9 (TX6 0).1 (TX6 0).2.1 (TX6 0).2.2.1 ∈ tG := (tG_of (tb2 (List.mem_of_getElem? (i := 28) rfl)) (by decide +kernel))
set_option maxRecDepth 100000 in
theorem fw_X7_9 : Cond.fieldLink RX7 9 (TX7 0).1 (TX7 0).2.1 (TX7 0).2.2.1 ∈ tG := (tG_of (tb1 (List.mem_of_getElem? (i := 34) rfl)) (by decide +kernel))
set_option maxRecDepth 100000 in
theorem fw_X8_15 : Cond.fieldLink RX8 15 (TX8 1).1 (TX8 1).2.1 (TX8 1).2.2.1 ∈ tG := (tG_of (tb2 (List.mem_of_getElem? (i := 65) rfl)) (by decide +kernel))
set_option maxRecDepth 100000 in
theorem fw_X8_18 : Cond.fieldLink RX8 18 (TX8 3).1 (TX8 3).2.1 (TX8 3).2.2.1 ∈ tG := (tG_of (tb2 (List.mem_of_getElem? (i := 68) rfl)) (by decide +kernel))
set_option maxRecDepth 100000 in
theorem fw_X8_9 : Cond.fieldLink RX8 9 (TX8 0).1 (TX8 0).2.1 (TX8 0).2.2.1 ∈ tG := (tG_of (tb2 (List.mem_of_getElem? (i := 64) rfl)) (by decide +kernel))
set_option maxRecDepth 100000 in
theorem fw_X9_15 : Cond.fieldLink RX9 15 (TX9 1).1 (TX9 1).2.1 (TX9 1).2.2.1 ∈ tG := (tG_of (tb1 (List.mem_of_getElem? (i := 170) rfl)) (by decide +kernel))
set_option maxRecDepth 100000 in
theorem fw_X9_9 : Cond.fieldLink RX9 9 (TX9 0).1 (TX9 0).2.1 (TX9 0).2.2.1 ∈ tG := (tG_of (tb1 (List.mem_of_getElem? (i := 169) rfl)) (by decide +kernel))
set_option maxRecDepth 100000 in
theorem fw_X10_10 : Cond.fieldLink RX10 10 (TX10 0).1 (TX10 0).2.1 (TX10 0).2.2.1 ∈ tG := (tG_of (tb2 (List.mem_of_getElem? (i := 87) rfl)) (by decide +kernel))
set_option maxRecDepth 100000 in
theorem fw_X10_100 : Cond.fieldLink RX10 100 (TX10 14).1 (TX10 14).2.1 (TX10 14).2.2.1 ∈ tG := (tG_of (tb2 (List.mem_of_getElem? (i := 101) rfl)) (by decide +kernel))
set_option maxRecDepth 100000 in
theorem fw_X10_104 : Cond.fieldLink RX10 104 (TX10 17).1 (TX10 17).2.1 (TX10 17).2.2.1 ∈ tG := (tG_of (tb2 (List.mem_of_getElem? (i := 104) rfl)) (by decide +kernel))
set_option maxRecDepth 100000 in
theorem fw_X10_21 : Cond.fieldLink RX10 21 (TX10 1).1 (TX10 1).2.1 (TX10 1).2.2.1 ∈ tG := (tG_of (tb2 (List.mem_of_getElem? (i := 88) rfl)) (by decide +kernel))
set_option maxRecDepth 100000 in
theorem fw_X10_30 : Cond.fieldLink RX10 30 (TX10 2).1 (TX10 2).2.1 (TX10 2).2.2.1 ∈ tG := (tG_of (tb2 (List.mem_of_getElem? (i := 89) rfl)) (by decide +kernel))
set_option maxRecDepth 100000 in
theorem fw_X10_37 : Cond.fieldLink RX10 37 (TX10 3).1 (TX10 3).2.1 (TX10 3).2.2.1 ∈ tG := (tG_of (tb2 (List.mem_of_getElem? (i := 90) rfl)) (by decide +kernel))
set_option maxRecDepth 100000 in
theorem fw_X10_41 : Cond.fieldLink RX10 41 (TX10 4).1 (TX10 4).2.1 (TX10 4).2.2.1 ∈ tG := (tG_of (tb2 (List.mem_of_getElem? (i := 91) rfl)) (by decide +kernel))
set_option maxRecDepth 100000 in
theorem fw_X10_44 : Cond.fieldLink RX10 44 (TX10 5).1 (TX10 5).2.1 (TX10 5).2.2.1 ∈ tG := (tG_of (tb2 (List.mem_of_getElem? (i := 92) rfl)) (by decide +kernel))
set_option maxRecDepth 100000 in
theorem fw_X10_49 : Cond.fieldLink RX10 49 (TX10 6).1 (TX10 6).2.1 (TX10 6).2.2.1 ∈ tG := (tG_of (tb2 (List.mem_of_getElem? (i := 93) rfl)) (by decide +kernel))
set_option maxRecDepth 100000 in
theorem fw_X10_54 : Cond.fieldLink RX10 54 (TX10 7).1 (TX10 7).2.1 (TX10 7).2.2.1 ∈ tG := (tG_of (tb2 (List.mem_of_getElem? (i := 94) rfl)) (by decide +kernel))
set_option maxRecDepth 100000 in
theorem fw_X10_58 : Cond.fieldLink RX10 58 (TX10 8).1 (TX10 8).2.1 (TX10 8).2.2.1 ∈ tG := (tG_of (tb2 (List.mem_of_getElem? (i := 95) rfl)) (by decide +kernel))
set_option maxRecDepth 100000 in
theorem fw_X10_65 : Cond.fieldLink RX10 65 (TX10 9).1 (TX10 9).2.1 (TX10 9).2.2.1 ∈ tG := (tG_of (tb2 (List.mem_of_getElem? (i := 96) rfl)) (by decide +kernel))
set_option maxRecDepth 100000 in
theorem fw_X10_74 : Cond.fieldLink RX10 74 (TX10 10).1 (TX10 10).2.1 (TX10 10).2.2.1 ∈ tG := (tG_of (tb2 (List.mem_of_getElem? (i := 97) rfl)) (by decide +kernel))
set_option maxRecDepth 100000 in
theorem fw_X10_78 : Cond.fieldLink RX10 78 (TX10 11).1 (TX10 11).2.1 (TX10 11).2.2.1 ∈ tG := (tG_of (tb2 (List.mem_of_getElem? (i := 98) rfl)) (by decide +kernel))
set_option maxRecDepth 100000 in
theorem fw_X10_84 : Cond.fieldLink RX10 84 (TX10 12).1 (TX10 12).2.1 (TX10 12).2.2.1 ∈ tG := (tG_of (tb2 (List.mem_of_getElem? (i := 99) rfl)) (by decide +kernel))
set_option maxRecDepth 100000 in
theorem fw_X10_93 : Cond.fieldLink RX10 93 (TX10 13).1 (TX10 13).2.1 (TX10 13).2.2.1 ∈ tG := (tG_of (tb2 (List.mem_of_getElem? (i := 100) rfl)) (by decide +kernel))
set_option maxRecDepth 100000 in
theorem fw_X11_13 : Cond.fieldLink RX11 13 (TX11 6).1 (TX11 6).2.1 (TX11 6).2.2.1 ∈ tG := (tG_of (tb5 (List.mem_of_getElem? (i := 114) rfl)) (by decide +kernel))
set_option maxRecDepth 100000 in
theorem fw_X11_16 : Cond.fieldLink RX11 16 (TX11 7).1 (TX11 7).2.1 (TX11 7).2.2.1 ∈ tG := (tG_of (tb5 (List.mem_of_getElem? (i := 115) rfl)) (by decide +kernel))
set_option maxRecDepth 100000 in
theorem fw_X11_19 : Cond.fieldLink RX11 19 (TX11 8).1 (TX11 8).2.1 (TX11 8).2.2.1 ∈ tG := (tG_of (tb5 (List.mem_of_getElem? (i := 116) rfl)) (by decide +kernel))
set_option maxRecDepth 100000 in
theorem fw_X11_22 : Cond.fieldLink RX11 22 (TX11 9).1 (TX11 9).2.1 (TX11 9).2.2.1 ∈ tG := (tG_of (tb5 (List.mem_of_getElem? (i := 117) rfl)) (by decide +kernel))
set_option maxRecDepth 100000 in
theorem fw_X11_25 : Cond.fieldLink RX11 25 (TX11 10).1 (TX11 10).2.1 (TX11 10).2.2.1 ∈ tG := (tG_of (tb5 (List.mem_of_getElem? (i := 118) rfl)) (by decide +kernel))
set_option maxRecDepth 100000 in
theorem fw_X11_28 : Cond.fieldLink RX11 28 (TX11 11).1 (TX11 11).2.1 (TX11 11).2.2.1 ∈ tG := (tG_of (tb5 (List.mem_of_getElem? (i := 119) rfl)) (by decide +kernel))
set_option maxRecDepth 100000 in
theorem fw_X11_31 : Cond.fieldLink RX11 31 (TX11 12).1 (TX11 12).2.1 (TX11 12).2.2.1 ∈ tG := (tG_of (tb5 (List.mem_of_getElem? (i := 120) rfl)) (by decide +kernel))
set_option maxRecDepth 100000 in
theorem fw_X11_34 : Cond.fieldLink RX11 34 (TX11 15).1 (TX11 15).2.1 (TX11 15).2.2.1 ∈ tG := (tG_of (tb5 (List.mem_of_getElem? (i := 123) rfl)) (by decide +kernel))
set_option maxRecDepth 100000 in
theorem fw_X11_37 : Cond.fieldLink RX11 37 (TX11 16).1 (TX11 16).2.1 (TX11 16).2.2.1 ∈ tG := (tG_of (tb5 (List.mem_of_getElem? (i := 124) rfl)) (by decide +kernel))
set_option maxRecDepth 100000 in
theorem fw_X11_40 : Cond.fieldLink RX11 40 (TX11 17).1 (TX11 17).2.1 (TX11 17).2.2.1 ∈ tG := (tG_of (tb5 (List.mem_of_getElem? (i := 125) rfl)) (by decide +kernel))
set_option maxRecDepth 100000 in
theorem fw_X11_43 : Cond.fieldLink RX11 43 (TX11 22).1 (TX11 22).2.1 (TX11 22).2.2.1 ∈ tG := (tG_of (tb5 (List.mem_of_getElem? (i := 130) rfl)) (by decide +kernel))
set_option maxRecDepth 100000 in
theorem fw_X11_46 : Cond.fieldLink RX11 46 (TX11 25).1 (TX11 25).2.1 (TX11 25).2.2.1 ∈ tG := (tG_of (tb5 (List.mem_of_getElem? (i := 133) rfl)) (by decide +kernel))
set_option maxRecDepth 100000 in
theorem fw_X11_49 : Cond.fieldLink RX11 49 (TX11 26).1 (TX11 26).2.1 (TX11 26).2.2.1 ∈ tG := (tG_of (tb5 (List.mem_of_getElem? (i := 134) rfl)) (by decide +kernel))
set_option maxRecDepth 100000 in
theorem fw_X11_52 : Cond.fieldLink RX11 52 (TX11 27).1 (TX11 27).2.1 (TX11 27).2.2.1 ∈ tG := (tG_of (tb5 (List.mem_of_getElem? (i := 135) rfl)) (by decide +kernel))
set_option maxRecDepth 100000 in
theorem fw_X11_55 : Cond.fieldLink RX11 55 (TX11 29).1 (TX11 29).2.1 (TX11 29).2.2.1 ∈ tG := (tG_of (tb5 (List.mem_of_getElem? (i := 137) rfl)) (by decide +kernel))
set_option maxRecDepth 100000 in
theorem fw_X11_58 : Cond.fieldLink RX11 58 (TX11 30).1 (TX11 30).2.1 (TX11 30).2.2.1 ∈ tG := (tG_of (tb5 (List.mem_of_getElem? (i := 138) rfl)) (by decide +kernel))
set_option maxRecDepth 100000 in
theorem fw_X11_62 : Cond.fieldLink RX11 62 (TX11 32).1 (TX11 32).2.1 (TX11 32).2.2.1 ∈ tG := (tG_of (tb5 (List.mem_of_getElem? (i := 140) rfl)) (by decide +kernel))
set_option maxRecDepth 100000 in
theorem fw_X11_65 : Cond.fieldLink RX11 65 (TX11 33).1 (TX11 33).2.1 (TX11 33).2.2.1 ∈ tG := (tG_of (tb5 (List.mem_of_getElem? (i := 141) rfl)) (by decide +kernel))
set_option maxRecDepth 100000 in
theorem fw_X11_68 : Cond.fieldLink RX11 68 (TX11 34).1 (TX11 34).2.1 (TX11 34).2.2.1 ∈ tG := (tG_of (tb5 (List.mem_of_getElem? (i := 142) rfl)) (by decide +kernel))
set_option maxRecDepth 100000 in
theorem fw_X11_71 : Cond.fieldLink RX11 71 (TX11 35).1 (TX11 35).2.1 (TX11 35).2.2.1 ∈ tG := (tG_of (tb5 (List.mem_of_getElem? (i := 143) rfl)) (by decide +kernel))
set_option maxRecDepth 100000 in
theorem fw_X11_74 : Cond.fieldLink RX11 74 (TX11 36).1 (TX11 36).2.1 (TX11 36).2.2.1 ∈ tG := (tG_of (tb5 (List.mem_of_getElem? (i := 144) rfl)) (by decide +kernel))
set_option maxRecDepth 100000 in
theorem fw_X11_77 : Cond.fieldLink RX11 77 (TX11 39).1 (TX11 39).2.1 (TX11 39).2.2.1 ∈ tG := (tG_of (tb5 (List.mem_of_getElem? (i := 147) rfl)) (by decide +kernel))
set_option maxRecDepth 100000 in
theorem fw_X11_80 : Cond.fieldLink RX11 80 (TX11 40).1 (TX11 40).2.1 (TX11 40).2.2.1 ∈ tG := (tG_of (tb5 (List.mem_of_getElem? (i := 148) rfl)) (by decide +kernel))
set_option maxRecDepth 100000 in
theorem fw_X11_83 : Cond.fieldLink RX11 83 (TX11 43).1 (TX11 43).2.1 (TX11 43).2.2.1 ∈ tG := (tG_of (tb5 (List.mem_of_getElem? (i := 151) rfl)) (by decide +kernel))
set_option maxRecDepth 100000 in
theorem fw_X11_86 : Cond.fieldLink RX11 86 (TX11 44).1 (TX11 44).2.1 (TX11 44).2.2.1 ∈ tG := (tG_of (tb5 (List.mem_of_getElem? (i := 152) rfl)) (by decide +kernel))
set_option maxRecDepth 100000 in
theorem fw_X11_89 : Cond.fieldLink RX11 89 (TX11 48).1 (TX11 48).2.1 (TX11 48).2.2.1 ∈ tG := (tG_of (tb5 (List.mem_of_getElem? (i := 156) rfl)) (by decide +kernel))
set_option maxRecDepth 100000 in
theorem fw_X11_9 : Cond.fieldLink RX11 9 (TX11 1).1 (TX11 1).2.1 (TX11 1).2.2.1 ∈ tG := (tG_of (tb5 (List.mem_of_getElem? (i := 109) rfl)) (by decide +kernel))
set_option maxRecDepth 100000 in
theorem fw_X11_92 : Cond.fieldLink RX11 92 (TX11 49).1 (TX11 49).2.1 (TX11 49).2.2.1 ∈ tG := (tG_of (tb5 (List.mem_of_getElem? (i := 157) rfl)) (by decide +kernel))
set_option maxRecDepth 100000 in
theorem fw_X11_95 : Cond.fieldLink RX11 95 (TX11 50).1 (TX11 50).2.1 (TX11 50).2.2.1 ∈ tG := (tG_of (tb5 (List.mem_of_getElem? (i := 158) rfl)) (by decide +kernel))
set_option maxRecDepth 100000 in
theorem ni_X10_18 : mI RX10 18 mX4_init 1 := ⟨Or.inl (tG_of (tb1 (List.mem_of_getElem? (i := 47) rfl)) (by decide +kernel)), mo_X4_init⟩
set_option maxRecDepth 100000 in
theorem ni_X10_27 : mI RX10 27 mX2_init 1 := ⟨Or.inl (tG_of (tb1 (List.mem_of_getElem? (i := 69) rfl)) (by decide +kernel)), mo_X2_init⟩
set_option maxRecDepth 100000 in
theorem ni_X10_36 : mI RX10 36 mX0_init 0 := ⟨Or.inl (tG_of (tb1 (List.mem_of_getElem? (i := 94) rfl)) (by decide +kernel)), mo_X0_init⟩
set_option maxRecDepth 100000 in
theorem ni_X10_53 : mI RX10 53 mX3_init 0 := ⟨Or.inr ⟨"UnderFloor", (tb1 (List.mem_of_getElem? (i := 140) rfl))⟩, mo_X3_init⟩
set_option maxRecDepth 100000 in
theorem ni_X10_64 : mI RX10 64 mX9_init 0 := ⟨Or.inr ⟨"UnderFloor", (tb1 (List.mem_of_getElem? (i := 165) rfl))⟩, mo_X9_init⟩
set_option maxRecDepth 100000 in
theorem ni_X10_71 : mI RX10 71 mX1_init 1 := ⟨Or.inl (tG_of (tb1 (List.mem_of_getElem? (i := 181) rfl)) (by decide +kernel)), mo_X1_init⟩
set_option maxRecDepth 100000 in
theorem ni_X10_83 : mI RX10 83 mX5_init 0 := ⟨Or.inr ⟨"UnderFloor", (tb1 (List.mem_of_getElem? (i := 219) rfl))⟩, mo_X5_init⟩
set_option maxRecDepth 100000 in
theorem ni_X10_9 : mI RX10 9 mX7_init 0 := ⟨Or.inr ⟨"UnderFloor", (tb1 (List.mem_of_getElem? (i := 30) rfl))⟩, mo_X7_init⟩
set_option maxRecDepth 100000 in
theorem ni_X10_90 : mI RX10 90 mX6_init 1 := ⟨Or.inl (tG_of (tb2 (List.mem_of_getElem? (i := 24) rfl)) (by decide +kernel)), mo_X6_init⟩
set_option maxRecDepth 100000 in
theorem ni_X10_99 : mI RX10 99 mX8_init 1 := ⟨Or.inl (tG_of (tb2 (List.mem_of_getElem? (i := 60) rfl)) (by decide +kernel)), mo_X8_init⟩
set_option maxRecDepth 100000 in
theorem nw_X10_16 : Cond.classLink RX10 16 RX4 ∈ tG ∧ Cond.instantiable RX4 3 ∈ tG ∧ Cond.initialized RX4 ∈ tG := ⟨(tG_of (tb1 (List.mem_of_getElem? (i := 45) rfl)) (by decide +kernel)), (tG_of (tb1 (List.mem_of_getElem? (i := 46) rfl)) (by decide +kernel)), (tG_of (tb1 (List.mem_of_getElem? (i := 3) rfl)) (by decide +kernel))⟩
set_option maxRecDepth 100000 in
theorem nw_X10_25 : Cond.classLink RX10 25 RX2 ∈ tG ∧ Cond.instantiable RX2 6 ∈ tG ∧ Cond.initialized RX2 ∈ tG := ⟨(tG_of (tb1 (List.mem_of_getElem? (i := 67) rfl)) (by decide +kernel)), (tG_of (tb1 (List.mem_of_getElem? (i := 68) rfl)) (by decide +kernel)), (tG_of (tb1 (List.mem_of_getElem? (i := 4) rfl)) (by decide +kernel))⟩
set_option maxRecDepth 100000 in
theorem nw_X10_34 : Cond.classLink RX10 34 RX0 ∈ tG ∧ Cond.instantiable RX0 9 ∈ tG ∧ Cond.initialized RX0 ∈ tG := ⟨(tG_of (tb1 (List.mem_of_getElem? (i := 92) rfl)) (by decide +kernel)), (tG_of (tb1 (List.mem_of_getElem? (i := 93) rfl)) (by decide +kernel)), (tG_of (tb1 (List.mem_of_getElem? (i := 5) rfl)) (by decide +kernel))⟩
set_option maxRecDepth 100000 in
theorem nw_X10_47 : Cond.classLink RX10 47 RX3 ∈ tG ∧ Cond.instantiable RX3 3 ∈ tG ∧ Cond.initialized RX3 ∈ tG := ⟨(tG_of (tb1 (List.mem_of_getElem? (i := 137) rfl)) (by decide +kernel)), (tG_of (tb1 (List.mem_of_getElem? (i := 139) rfl)) (by decide +kernel)), (tG_of (tb1 (List.mem_of_getElem? (i := 6) rfl)) (by decide +kernel))⟩
set_option maxRecDepth 100000 in
theorem nw_X10_62 : Cond.classLink RX10 62 RX9 ∈ tG ∧ Cond.instantiable RX9 3 ∈ tG ∧ Cond.initialized RX9 ∈ tG := ⟨(tG_of (tb1 (List.mem_of_getElem? (i := 163) rfl)) (by decide +kernel)), (tG_of (tb1 (List.mem_of_getElem? (i := 164) rfl)) (by decide +kernel)), (tG_of (tb1 (List.mem_of_getElem? (i := 7) rfl)) (by decide +kernel))⟩
set_option maxRecDepth 100000 in
theorem nw_X10_69 : Cond.classLink RX10 69 RX1 ∈ tG ∧ Cond.instantiable RX1 7 ∈ tG ∧ Cond.initialized RX1 ∈ tG := ⟨(tG_of (tb1 (List.mem_of_getElem? (i := 179) rfl)) (by decide +kernel)), (tG_of (tb1 (List.mem_of_getElem? (i := 180) rfl)) (by decide +kernel)), (tG_of (tb1 (List.mem_of_getElem? (i := 8) rfl)) (by decide +kernel))⟩
set_option maxRecDepth 100000 in
theorem nw_X10_7 : Cond.classLink RX10 7 RX7 ∈ tG ∧ Cond.instantiable RX7 2 ∈ tG ∧ Cond.initialized RX7 ∈ tG := ⟨(tG_of (tb1 (List.mem_of_getElem? (i := 28) rfl)) (by decide +kernel)), (tG_of (tb1 (List.mem_of_getElem? (i := 29) rfl)) (by decide +kernel)), (tG_of (tb1 (List.mem_of_getElem? (i := 2) rfl)) (by decide +kernel))⟩
set_option maxRecDepth 100000 in
theorem nw_X10_81 : Cond.classLink RX10 81 RX5 ∈ tG ∧ Cond.instantiable RX5 10 ∈ tG ∧ Cond.initialized RX5 ∈ tG := ⟨(tG_of (tb1 (List.mem_of_getElem? (i := 217) rfl)) (by decide +kernel)), (tG_of (tb1 (List.mem_of_getElem? (i := 218) rfl)) (by decide +kernel)), (tG_of (tb1 (List.mem_of_getElem? (i := 9) rfl)) (by decide +kernel))⟩
set_option maxRecDepth 100000 in
theorem nw_X10_88 : Cond.classLink RX10 88 RX6 ∈ tG ∧ Cond.instantiable RX6 9 ∈ tG ∧ Cond.initialized RX6 ∈ tG := ⟨(tG_of (tb2 (List.mem_of_getElem? (i := 22) rfl)) (by decide +kernel)), (tG_of (tb2 (List.mem_of_getElem? (i := 23) rfl)) (by decide +kernel)), (tG_of (tb1 (List.mem_of_getElem? (i := 10) rfl)) (by decide +kernel))⟩
set_option maxRecDepth 100000 in
theorem nw_X10_97 : Cond.classLink RX10 97 RX8 ∈ tG ∧ Cond.instantiable RX8 7 ∈ tG ∧ Cond.initialized RX8 ∈ tG := ⟨(tG_of (tb2 (List.mem_of_getElem? (i := 58) rfl)) (by decide +kernel)), (tG_of (tb2 (List.mem_of_getElem? (i := 59) rfl)) (by decide +kernel)), (tG_of (tb1 (List.mem_of_getElem? (i := 11) rfl)) (by decide +kernel))⟩
set_option maxRecDepth 100000 in
theorem ob_X0_3 : Cond.methodLink RX0 3 Lib.objectInit ∈ tG ∧ Cond.instanceMethod Lib.objectInit ∈ tG ∧ Cond.code Lib.objectInit ⟨#[0xb1]⟩ 1 none ∈ tG := ⟨(tG_of (tb1 (List.mem_of_getElem? (i := 97) rfl)) (by decide +kernel)), (tG_of (tb1 (List.mem_of_getElem? (i := 26) rfl)) (by decide +kernel)), (tG_of (tb1 (List.mem_of_getElem? (i := 27) rfl)) (by decide +kernel))⟩
set_option maxRecDepth 100000 in
theorem ob_X1_3 : Cond.methodLink RX1 3 Lib.objectInit ∈ tG ∧ Cond.instanceMethod Lib.objectInit ∈ tG ∧ Cond.code Lib.objectInit ⟨#[0xb1]⟩ 1 none ∈ tG := ⟨(tG_of (tb1 (List.mem_of_getElem? (i := 184) rfl)) (by decide +kernel)), (tG_of (tb1 (List.mem_of_getElem? (i := 26) rfl)) (by decide +kernel)), (tG_of (tb1 (List.mem_of_getElem? (i := 27) rfl)) (by decide +kernel))⟩
set_option maxRecDepth 100000 in
theorem ob_X2_3 : Cond.methodLink RX2 3 Lib.objectInit ∈ tG ∧ Cond.instanceMethod Lib.objectInit ∈ tG ∧ Cond.code Lib.objectInit ⟨#[0xb1]⟩ 1 none ∈ tG := ⟨(tG_of (tb1 (List.mem_of_getElem? (i := 72) rfl)) (by decide +kernel)), (tG_of (tb1 (List.mem_of_getElem? (i := 26) rfl)) (by decide +kernel)), (tG_of (tb1 (List.mem_of_getElem? (i := 27) rfl)) (by decide +kernel))⟩
set_option maxRecDepth 100000 in
theorem ob_X3_3 : Cond.methodLink RX3 3 Lib.objectInit ∈ tG ∧ Cond.instanceMethod Lib.objectInit ∈ tG ∧ Cond.code Lib.objectInit ⟨#[0xb1]⟩ 1 none ∈ tG := ⟨(tG_of (tb1 (List.mem_of_getElem? (i := 143) rfl)) (by decide +kernel)), (tG_of (tb1 (List.mem_of_getElem? (i := 26) rfl)) (by decide +kernel)), (tG_of (tb1 (List.mem_of_getElem? (i := 27) rfl)) (by decide +kernel))⟩
set_option maxRecDepth 100000 in
theorem ob_X4_3 : Cond.methodLink RX4 3 Lib.objectInit ∈ tG ∧ Cond.instanceMethod Lib.objectInit ∈ tG ∧ Cond.code Lib.objectInit ⟨#[0xb1]⟩ 1 none ∈ tG := ⟨(tG_of (tb1 (List.mem_of_getElem? (i := 50) rfl)) (by decide +kernel)), (tG_of (tb1 (List.mem_of_getElem? (i := 26) rfl)) (by decide +kernel)), (tG_of (tb1 (List.mem_of_getElem? (i := 27) rfl)) (by decide +kernel))⟩
set_option maxRecDepth 100000 in
theorem ob_X5_3 : Cond.methodLink RX5 3 Lib.objectInit ∈ tG ∧ Cond.instanceMethod Lib.objectInit ∈ tG ∧ Cond.code Lib.objectInit ⟨#[0xb1]⟩ 1 none ∈ tG := ⟨(tG_of (tb1 (List.mem_of_getElem? (i := 222) rfl)) (by decide +kernel)), (tG_of (tb1 (List.mem_of_getElem? (i := 26) rfl)) (by decide +kernel)), (tG_of (tb1 (List.mem_of_getElem? (i := 27) rfl)) (by decide +kernel))⟩
set_option maxRecDepth 100000 in
theorem ob_X6_3 : Cond.methodLink RX6 3 Lib.objectInit ∈ tG ∧ Cond.instanceMethod Lib.objectInit ∈ tG ∧ Cond.code Lib.objectInit ⟨#[0xb1]⟩ 1 none ∈ tG := ⟨(tG_of (tb2 (List.mem_of_getElem? (i := 27) rfl)) (by decide +kernel)), (tG_of (tb1 (List.mem_of_getElem? (i := 26) rfl)) (by decide +kernel)), (tG_of (tb1 (List.mem_of_getElem? (i := 27) rfl)) (by decide +kernel))⟩
set_option maxRecDepth 100000 in
theorem ob_X7_3 : Cond.methodLink RX7 3 Lib.objectInit ∈ tG ∧ Cond.instanceMethod Lib.objectInit ∈ tG ∧ Cond.code Lib.objectInit ⟨#[0xb1]⟩ 1 none ∈ tG := ⟨(tG_of (tb1 (List.mem_of_getElem? (i := 33) rfl)) (by decide +kernel)), (tG_of (tb1 (List.mem_of_getElem? (i := 26) rfl)) (by decide +kernel)), (tG_of (tb1 (List.mem_of_getElem? (i := 27) rfl)) (by decide +kernel))⟩
set_option maxRecDepth 100000 in
theorem ob_X8_3 : Cond.methodLink RX8 3 Lib.objectInit ∈ tG ∧ Cond.instanceMethod Lib.objectInit ∈ tG ∧ Cond.code Lib.objectInit ⟨#[0xb1]⟩ 1 none ∈ tG := ⟨(tG_of (tb2 (List.mem_of_getElem? (i := 63) rfl)) (by decide +kernel)), (tG_of (tb1 (List.mem_of_getElem? (i := 26) rfl)) (by decide +kernel)), (tG_of (tb1 (List.mem_of_getElem? (i := 27) rfl)) (by decide +kernel))⟩
set_option maxRecDepth 100000 in
theorem ob_X9_3 : Cond.methodLink RX9 3 Lib.objectInit ∈ tG ∧ Cond.instanceMethod Lib.objectInit ∈ tG ∧ Cond.code Lib.objectInit ⟨#[0xb1]⟩ 1 none ∈ tG := ⟨(tG_of (tb1 (List.mem_of_getElem? (i := 168) rfl)) (by decide +kernel)), (tG_of (tb1 (List.mem_of_getElem? (i := 26) rfl)) (by decide +kernel)), (tG_of (tb1 (List.mem_of_getElem? (i := 27) rfl)) (by decide +kernel))⟩
set_option maxRecDepth 100000 in
theorem ob_X10_1 : Cond.methodLink RX10 1 Lib.objectInit ∈ tG ∧ Cond.instanceMethod Lib.objectInit ∈ tG ∧ Cond.code Lib.objectInit ⟨#[0xb1]⟩ 1 none ∈ tG := ⟨(tG_of (tb1 (List.mem_of_getElem? (i := 25) rfl)) (by decide +kernel)), (tG_of (tb1 (List.mem_of_getElem? (i := 26) rfl)) (by decide +kernel)), (tG_of (tb1 (List.mem_of_getElem? (i := 27) rfl)) (by decide +kernel))⟩
set_option maxRecDepth 100000 in
theorem ob_X11_3 : Cond.methodLink RX11 3 Lib.objectInit ∈ tG ∧ Cond.instanceMethod Lib.objectInit ∈ tG ∧ Cond.code Lib.objectInit ⟨#[0xb1]⟩ 1 none ∈ tG := ⟨(tG_of (tb5 (List.mem_of_getElem? (i := 107) rfl)) (by decide +kernel)), (tG_of (tb1 (List.mem_of_getElem? (i := 26) rfl)) (by decide +kernel)), (tG_of (tb1 (List.mem_of_getElem? (i := 27) rfl)) (by decide +kernel))⟩
set_option maxRecDepth 100000 in
theorem nai : Cond.arrayClass .int ∈ tG := (tG_of (tb1 (List.mem_of_getElem? (i := 44) rfl)) (by decide +kernel))
theorem N_iincK {d : Nat} {M : Mth} {n0 pc q : Nat} {ls : List (Option AV)} {st : List AV} {n : Nat} {μ : Mm} {n1 : Nat} {μ1 : Mm} {i : Nat} {z a a2 : Int} (hd : decode M.2.1 pc = .ok (.iinc i z, 3)) (h2 : iA a z = a2) (hg : ls[i]? = some (some (vI a))) (hi : i < M.2.2.1) (hn0 : nL_ ls i) (hq : pc + 3 = q) (kk : NN d M n0 q (ls.set i (some (vI a2))) st n μ n1 μ1) : NN d M n0 pc ls st n μ n1 μ1 := by
  subst h2
  exact N_iinc hd hg hi hn0 hq kk
def clA (a : Nat) : Nat → Nat → Mm → Mm
  | 0, _, μ => μ
  | k + 1, i, μ => clA a k (i + 1) (sM μ a i (-1))
def clB (p w : Nat) : Nat → Nat → Mm → Mm
  | 0, _, μ => μ
  | k + 1, i, μ => clB p w k (i + 1) (sM (sM μ p i (-1)) w i 3)
theorem clA_ne {a c : Nat} (h : c ≠ a) : ∀ (k i : Nat) (μ : Mm), clA a k i μ c = μ c
  | 0, _, _ => rfl
  | k + 1, i, μ => by rw [clA, clA_ne h k, sM_ne h]
theorem clB_ne {p w c : Nat} (h : c ≠ p) (h2 : c ≠ w) : ∀ (k i : Nat) (μ : Mm), clB p w k i μ c = μ c
  | 0, _, _ => rfl
  | k + 1, i, μ => by rw [clB, clB_ne h h2 k, sM_ne h2, sM_ne h]
def clN (c : Nat) (μ : Mm) : Mm := sM (sM (sM (sM (sM (clB (c + 2) (c + 3) 8 0 (clA (c + 1) 60 0 μ)) c 3 (-1)) c 4 0) c 5 0) c 6 0) c 7 1
theorem iA_1 {i : Nat} (h : i < 1000) : iA (i : Int) 1 = ((i + 1 : Nat) : Int) := by
  unfold iA
  rw [wI_id (by omega) (by omega)]
  omega
section NCL
variable {c n : Nat} {μ1 : Mm}
theorem kNclA (hk0 : kD c = (10, 9)) (h1 : kD (c + 1) = (0, 60)) (hn : c + 3 < n) : ∀ (k i : Nat) (μ : Mm), i + k = 60 → μ c 0 = ((c + 1 + 1 : Nat) : Int) → NN 1 mX0_clear n 21 [some (vR c), some (vI 60)] [] n (clA (c + 1) k i μ) n μ1 → NN 1 mX0_clear n 2 [some (vR c), some (vI (i : Int))] [] n μ n μ1
  | 0, i, μ, hi, hm, kk => by
    have hi2 : i = 60 := by omega
    subst hi2
    refine N_iload_n (i := 1) dX0_clear_2 rfl rfl rfl ?_
    refine N_bipush dX0_clear_3 rfl rfl rfl ?_
    exact N_icmpge_t dX0_clear_5 rfl (by decide) kk
  | k + 1, i, μ, hi, hm, kk => by
    refine N_iload_n (i := 1) dX0_clear_2 rfl rfl rfl ?_
    refine N_bipush dX0_clear_3 rfl rfl rfl ?_
    refine N_icmpge_f (qt := 21) dX0_clear_5 rfl rfl (by omega) ?_
    refine N_aload_n (i := 0) dX0_clear_8 rfl rfl rfl ?_
    refine N_getR (ci := 0) (j := 0) (a := c) (t := c + 1) (x := 0) (y := 1) cl0 rfl fw_X0_9 hk0 (Nat.ble_eq_true_of_le (by omega)) rfl hm dX0_clear_9 rfl ?_
    refine N_iload_n (i := 1) dX0_clear_12 rfl rfl rfl ?_
    refine N_iconst dX0_clear_13 rfl rfl ?_
    refine N_iastore (N := 60) h1 (by omega) (Nat.ble_eq_true_of_le (by omega)) dX0_clear_14 rfl ?_
    refine N_iincK (i := 1) (a2 := ((i + 1 : Nat) : Int)) dX0_clear_15 (iA_1 (by omega)) rfl (by decide) trivial rfl ?_
    refine N_goto dX0_clear_18 rfl ?_
    exact kNclA hk0 h1 hn k (i + 1) _ (by omega) (by rw [sM_ne (by omega)]; exact hm) kk
theorem kNclB (hk0 : kD c = (10, 9)) (h2 : kD (c + 2) = (0, 8)) (h3 : kD (c + 3) = (0, 8)) (hn : c + 3 < n) : ∀ (k i : Nat) (μ : Mm), i + k = 8 → μ c 1 = ((c + 2 + 1 : Nat) : Int) → μ c 2 = ((c + 3 + 1 : Nat) : Int) → NN 1 mX0_clear n 49 [some (vR c), some (vI 8)] [] n (clB (c + 2) (c + 3) k i μ) n μ1 → NN 1 mX0_clear n 23 [some (vR c), some (vI (i : Int))] [] n μ n μ1
  | 0, i, μ, hi, hm, hm2, kk => by
    have hi2 : i = 8 := by omega
    subst hi2
    refine N_iload_n (i := 1) dX0_clear_23 rfl rfl rfl ?_
    refine N_bipush dX0_clear_24 rfl rfl rfl ?_
    exact N_icmpge_t dX0_clear_26 rfl (by decide) kk
  | k + 1, i, μ, hi, hm, hm2, kk => by
    refine N_iload_n (i := 1) dX0_clear_23 rfl rfl rfl ?_
    refine N_bipush dX0_clear_24 rfl rfl rfl ?_
    refine N_icmpge_f (qt := 49) dX0_clear_26 rfl rfl (by omega) ?_
    refine N_aload_n (i := 0) dX0_clear_29 rfl rfl rfl ?_
    refine N_getR (ci := 0) (j := 1) (a := c) (t := c + 2) (x := 0) (y := 2) cl0 rfl fw_X0_15 hk0 (Nat.ble_eq_true_of_le (by omega)) rfl hm dX0_clear_30 rfl ?_
    refine N_iload_n (i := 1) dX0_clear_33 rfl rfl rfl ?_
    refine N_iconst dX0_clear_34 rfl rfl ?_
    refine N_iastore (N := 8) h2 (by omega) (Nat.ble_eq_true_of_le (by omega)) dX0_clear_35 rfl ?_
    refine N_aload_n (i := 0) dX0_clear_36 rfl rfl rfl ?_
    refine N_getR (ci := 0) (j := 2) (a := c) (t := c + 3) (x := 0) (y := 3) cl0 rfl fw_X0_18 hk0 (Nat.ble_eq_true_of_le (by omega)) rfl (by rw [sM_ne (by omega)]; exact hm2) dX0_clear_37 rfl ?_
    refine N_iload_n (i := 1) dX0_clear_40 rfl rfl rfl ?_
    refine N_iconst dX0_clear_41 rfl rfl ?_
    refine N_iastore (N := 8) h3 (by omega) (Nat.ble_eq_true_of_le (by omega)) dX0_clear_42 rfl ?_
    refine N_iincK (i := 1) (a2 := ((i + 1 : Nat) : Int)) dX0_clear_43 (iA_1 (by omega)) rfl (by decide) trivial rfl ?_
    refine N_goto dX0_clear_46 rfl ?_
    exact kNclB hk0 h2 h3 hn k (i + 1) _ (by omega) (by rw [sM_ne (by omega), sM_ne (by omega)]; exact hm) (by rw [sM_ne (by omega), sM_ne (by omega)]; exact hm2) kk
theorem kNclear (hk0 : kD c = (10, 9)) (h1 : kD (c + 1) = (0, 60)) (h2 : kD (c + 2) = (0, 8)) (h3 : kD (c + 3) = (0, 8)) (hn : c + 3 < n) {μ : Mm} (m0 : μ c 0 = ((c + 1 + 1 : Nat) : Int)) (m1 : μ c 1 = ((c + 2 + 1 : Nat) : Int)) (m2 : μ c 2 = ((c + 3 + 1 : Nat) : Int)) : CN 1 mX0_clear [vR c] n μ n (clN c μ) := by
  have hb : Nat.blt c n = true := Nat.ble_eq_true_of_le (by omega)
  refine N_enter rfl (by decide +kernel) (by simp [lA_]) ?_
  refine N_iconst dX0_clear_0 rfl rfl ?_
  refine N_istore_n (i := 1) dX0_clear_1 rfl (by decide) trivial rfl ?_
  refine kNclA hk0 h1 hn 60 0 μ rfl m0 ?_
  refine N_iconst dX0_clear_21 rfl rfl ?_
  refine N_istore_n (i := 1) dX0_clear_22 rfl (by decide) trivial rfl ?_
  refine kNclB hk0 h2 h3 hn 8 0 _ rfl (by rw [clA_ne (by omega)]; exact m1) (by rw [clA_ne (by omega)]; exact m2) ?_
  refine N_aload_n (i := 0) dX0_clear_49 rfl rfl rfl ?_
  refine N_iconst dX0_clear_50 rfl rfl ?_
  refine N_putI (ci := 0) (j := 3) (a := c) (y := 0) cl0 rfl rfl (Or.inl rfl) fw_X0_24 hk0 hb rfl dX0_clear_51 rfl ?_
  refine N_aload_n (i := 0) dX0_clear_54 rfl rfl rfl ?_
  refine N_iconst dX0_clear_55 rfl rfl ?_
  refine N_putI (ci := 0) (j := 4) (a := c) (y := 0) cl0 rfl rfl (Or.inl rfl) fw_X0_28 hk0 hb rfl dX0_clear_56 rfl ?_
  refine N_aload_n (i := 0) dX0_clear_59 rfl rfl rfl ?_
  refine N_iconst dX0_clear_60 rfl rfl ?_
  refine N_putI (ci := 0) (j := 5) (a := c) (y := 0) cl0 rfl rfl (Or.inl rfl) fw_X0_31 hk0 hb rfl dX0_clear_61 rfl ?_
  refine N_aload_n (i := 0) dX0_clear_64 rfl rfl rfl ?_
  refine N_iconst dX0_clear_65 rfl rfl ?_
  refine N_putI (ci := 0) (j := 6) (a := c) (y := 0) cl0 rfl rfl (Or.inl rfl) fw_X0_34 hk0 hb rfl dX0_clear_66 rfl ?_
  refine N_aload_n (i := 0) dX0_clear_69 rfl rfl rfl ?_
  refine N_iconst dX0_clear_70 rfl rfl ?_
  refine N_putI (ci := 0) (j := 7) (a := c) (y := 0) cl0 rfl rfl (Or.inl rfl) fw_X0_37 hk0 hb rfl dX0_clear_71 rfl ?_
  exact N_vret rfl dX0_clear_74 rfl rfl
theorem N_clear {d : Nat} {M : Mth} {n0 pc q : Nat} {ls : List (Option AV)} {st : List AV} {μ : Mm} {n1 : Nat} {idx : Nat} (hm : mV M.1.cls idx mX0_clear 0) (hd2 : 2 ≤ d) (hk0 : kD c = (10, 9)) (h1 : kD (c + 1) = (0, 60)) (h2 : kD (c + 2) = (0, 8)) (h3 : kD (c + 3) = (0, 8)) (hn : Nat.blt (c + 3) n = true) (m0 : μ c 0 = ((c + 1 + 1 : Nat) : Int)) (m1 : μ c 1 = ((c + 2 + 1 : Nat) : Int)) (m2 : μ c 2 = ((c + 3 + 1 : Nat) : Int)) (hwd : Nat.ble (st.map wd).sum 8 = true) (h0 : n0 ≤ n) (h9 : n ≤ n1) (hd : decode M.2.1 pc = .ok (.invokevirtual idx, 3)) (hq : pc + 3 = q) (kk : NN d M n0 q ls st n (clN c μ) n1 μ1) : NN d M n0 pc ls (vR c :: st) n μ n1 μ1 := by
  subst hq
  have hn9 : c + 3 < n := Nat.le_of_ble_eq_true hn
  have hM := kNclear hk0 h1 h2 h3 hn9 m0 m1 m2
  intro p l e s m args below meth c' H locs dC dI D base ls' C hb hH hS hn' hl hs
  obtain ⟨hx, hbd, hml, hr2, hown, hts, hlk, hK, hN, hO, hnm⟩ := id C
  obtain ⟨w1, w2, w3, w4, w5, w6, w7⟩ := hm
  have t0 := tt_mono h0
  have t2 := tt_mono h9
  have hsum : ((st.map (cV (bs base))).map fun v => v.category).sum ≤ 8 := by rw [wd_sum]; exact Nat.le_of_ble_eq_true hwd
  have S : CallFix p m c' M.2.1 M.2.2.1 s args tG M.1.cls := ⟨hx, hbd, hml, hown, hts⟩
  have he : (wN D (bs base) μ n)[c]? = some (bs base c, .inr (0, (List.range 9).map (fun j => cV (bs base) (gV μ c j)))) := by rw [wN_at D _ μ (by omega), eD_o (ci := 0) hk0]
  have hrun : va_Run p l e (rmN d (n1 - n0) (tt n1 - tt n0)) s m args below meth c' H locs (n - n0) (tt n - tt n0) (n - n) (tt n - tt n) (F0 m pc ls' (.ref (bs base c) :: st.map (cV (bs base)))) (st.map (cV (bs base))) (qN dC dI D base n (clN c μ) (Value.ref (bs base c) :: []).toArray) (fun q => base ≤ q) :=
    va_runV (As := []) (b := bs base c) (C := RX0) S (hM l dC dI D base) ⟨callB_of (ws' := tG) (rm := rmN 1 (n - n) (tt n - tt n)) 0 hts (gI_of w5) rfl rfl rfl (hts _ w4) (hts _ w1) w6 ⟨hd2, by show 8 + (2 + 11) + 100 * 1 ≤ 100 * d; omega⟩, hts _ w2, hts _ w3⟩
      ⟨pN_blind, va_recv hK hH.1 (ci := 0) (q := (RX0, TX0, 9)) rfl he, fun U hU hW => ⟨rfl, by rw [hU]; exact hH, va_K.moved hW.alike hK, nS_warm hW hN, ⟨va_AO.moved hW.alike hO.1, va_AO.moved hW.alike hO.2⟩, ok_c trivial (fun v hv => by cases hv)⟩⟩ rfl rfl (hl.1.trans hn') rfl (by show 2 * 0 + _ ≤ 8; omega) hd ⟨by show n - n0 + (n - n) ≤ n1 - n0; omega, by show tt n - tt n0 + (tt n - tt n) ≤ tt n1 - tt n0; omega⟩
  intro T hT X
  obtain ⟨v, st₀, t, T', L, g0, X', hL, z1, z2, ⟨⟨hv, hp⟩, hz, hk⟩, stp⟩ := hrun T hT X
  cases hv
  rw [g0] at hz hk
  have k1 := kk p l e s m args below meth c' T'.heap (locs ++ L) dC dI D base ls' C hb (by rw [z1]; exact hp) ⟨Nat.le_trans hS.1 (by rw [z1]; exact hz), fun q h1 h2 => by rw [z1, hk q (Nat.lt_of_lt_of_le h1 hS.1) h2]; exact hS.2.1 q h1 h2, fun q hq => by
      rcases List.mem_append.mp hq with h | h
      · exact hS.2.2 q h
      · exact hL q h⟩ hn' hl (ok_t hs)
  rw [show n - n0 = n - n0 + (n - n) by omega, show tt n - tt n0 = tt n - tt n0 + (tt n - tt n) by omega] at k1
  obtain ⟨t3, a1, b1⟩ := k1 T' rfl X'
  exact ⟨t3, stp t3 a1, b1⟩
end NCL
def mN_1 (μ : Mm) : Mm := (sM μ 1 0 3)
set_option maxRecDepth 20000 in
theorem kN_1 (μ : Mm) : CN 2 mX7_init [vR 1] 2 μ 3 (mN_1 μ) := by
  refine N_enter rfl (by decide +kernel) (by decide) ?_
  refine N_aload_n (i := 0) dX7_init_0 rfl rfl rfl ?_
  refine N_obj ob_X7_3 dX7_init_1 (by decide) rfl rfl ?_
  refine N_aload_n (i := 0) dX7_init_4 rfl rfl rfl ?_
  refine N_sipush dX7_init_5 rfl rfl rfl ?_
  refine N_newarr (N := 160) (n := 2) rfl rfl nai (by decide) (by decide) dX7_init_8 rfl ?_
  refine N_putR (ci := 7) (j := 0) (a := 1) (t := 2) (x := 0) (y := 1) cl7 rfl rfl rfl (Or.inr ⟨rfl, rfl⟩) fw_X7_9 rfl rfl rfl rfl dX7_init_10 rfl ?_
  exact N_vret rfl dX7_init_13 rfl rfl
def mN_3 (μ : Mm) : Mm := (sM (sM μ 3 0 2) 3 2 (-1))
set_option maxRecDepth 20000 in
theorem kN_3 (μ : Mm) : CN 2 mX4_init [vR 3, vR 1] 4 μ 4 (mN_3 μ) := by
  refine N_enter rfl (by decide +kernel) (by decide) ?_
  refine N_aload_n (i := 0) dX4_init_0 rfl rfl rfl ?_
  refine N_obj ob_X4_3 dX4_init_1 (by decide) rfl rfl ?_
  refine N_aload_n (i := 0) dX4_init_4 rfl rfl rfl ?_
  refine N_aload_n (i := 1) dX4_init_5 rfl rfl rfl ?_
  refine N_putR (ci := 4) (j := 0) (a := 3) (t := 1) (x := 2) (y := 0) cl4 rfl rfl rfl (Or.inl rfl) fw_X4_9 rfl rfl rfl rfl dX4_init_6 rfl ?_
  refine N_aload_n (i := 0) dX4_init_9 rfl rfl rfl ?_
  refine N_iconst dX4_init_10 rfl rfl ?_
  refine N_putI (ci := 4) (j := 2) (a := 3) (y := 0) cl4 rfl rfl (Or.inl rfl) fw_X4_15 rfl rfl rfl dX4_init_11 rfl ?_
  exact N_vret rfl dX4_init_14 rfl rfl
def mN_4 (μ : Mm) : Mm := (sM μ 4 0 4)
set_option maxRecDepth 20000 in
theorem kN_4 (μ : Mm) : CN 2 mX2_init [vR 4, vR 3] 5 μ 5 (mN_4 μ) := by
  refine N_enter rfl (by decide +kernel) (by decide) ?_
  refine N_aload_n (i := 0) dX2_init_0 rfl rfl rfl ?_
  refine N_obj ob_X2_3 dX2_init_1 (by decide) rfl rfl ?_
  refine N_aload_n (i := 0) dX2_init_4 rfl rfl rfl ?_
  refine N_aload_n (i := 1) dX2_init_5 rfl rfl rfl ?_
  refine N_putR (ci := 2) (j := 0) (a := 4) (t := 3) (x := 1) (y := 3) cl2 rfl rfl rfl (Or.inr ⟨rfl, rfl⟩) fw_X2_9 rfl rfl rfl rfl dX2_init_6 rfl ?_
  exact N_vret rfl dX2_init_9 rfl rfl
def mN_5 (μ : Mm) : Mm := (clN 5 (sM (sM (sM μ 5 0 7) 5 1 8) 5 2 9))
set_option maxRecDepth 20000 in
theorem kN_5 (μ : Mm) : CN 3 mX0_init [vR 5] 6 μ 9 (mN_5 μ) := by
  refine N_enter rfl (by decide +kernel) (by decide) ?_
  refine N_aload_n (i := 0) dX0_init_0 rfl rfl rfl ?_
  refine N_obj ob_X0_3 dX0_init_1 (by decide) rfl rfl ?_
  refine N_aload_n (i := 0) dX0_init_4 rfl rfl rfl ?_
  refine N_bipush dX0_init_5 rfl rfl rfl ?_
  refine N_newarr (N := 60) (n := 6) rfl rfl nai (by decide) (by decide) dX0_init_7 rfl ?_
  refine N_putR (ci := 0) (j := 0) (a := 5) (t := 6) (x := 0) (y := 1) cl0 rfl rfl rfl (Or.inr ⟨rfl, rfl⟩) fw_X0_9 rfl rfl rfl rfl dX0_init_9 rfl ?_
  refine N_aload_n (i := 0) dX0_init_12 rfl rfl rfl ?_
  refine N_bipush dX0_init_13 rfl rfl rfl ?_
  refine N_newarr (N := 8) (n := 7) rfl rfl nai (by decide) (by decide) dX0_init_15 rfl ?_
  refine N_putR (ci := 0) (j := 1) (a := 5) (t := 7) (x := 0) (y := 2) cl0 rfl rfl rfl (Or.inr ⟨rfl, rfl⟩) fw_X0_15 rfl rfl rfl rfl dX0_init_17 rfl ?_
  refine N_aload_n (i := 0) dX0_init_20 rfl rfl rfl ?_
  refine N_bipush dX0_init_21 rfl rfl rfl ?_
  refine N_newarr (N := 8) (n := 8) rfl rfl nai (by decide) (by decide) dX0_init_23 rfl ?_
  refine N_putR (ci := 0) (j := 2) (a := 5) (t := 8) (x := 0) (y := 3) cl0 rfl rfl rfl (Or.inr ⟨rfl, rfl⟩) fw_X0_18 rfl rfl rfl rfl dX0_init_25 rfl ?_
  refine N_aload_n (i := 0) dX0_init_28 rfl rfl rfl ?_
  refine N_clear (c := 5) mv_X0_21 (by decide) rfl rfl rfl rfl rfl rfl rfl rfl rfl (by decide) (by decide) dX0_init_29 rfl ?_
  exact N_vret rfl dX0_init_32 rfl rfl
def mN_9 (μ : Mm) : Mm := (clN 9 (sM (sM (sM μ 9 0 11) 9 1 12) 9 2 13))
set_option maxRecDepth 20000 in
theorem kN_9 (μ : Mm) : CN 3 mX0_init [vR 9] 10 μ 13 (mN_9 μ) := by
  refine N_enter rfl (by decide +kernel) (by decide) ?_
  refine N_aload_n (i := 0) dX0_init_0 rfl rfl rfl ?_
  refine N_obj ob_X0_3 dX0_init_1 (by decide) rfl rfl ?_
  refine N_aload_n (i := 0) dX0_init_4 rfl rfl rfl ?_
  refine N_bipush dX0_init_5 rfl rfl rfl ?_
  refine N_newarr (N := 60) (n := 10) rfl rfl nai (by decide) (by decide) dX0_init_7 rfl ?_
  refine N_putR (ci := 0) (j := 0) (a := 9) (t := 10) (x := 0) (y := 1) cl0 rfl rfl rfl (Or.inr ⟨rfl, rfl⟩) fw_X0_9 rfl rfl rfl rfl dX0_init_9 rfl ?_
  refine N_aload_n (i := 0) dX0_init_12 rfl rfl rfl ?_
  refine N_bipush dX0_init_13 rfl rfl rfl ?_
  refine N_newarr (N := 8) (n := 11) rfl rfl nai (by decide) (by decide) dX0_init_15 rfl ?_
  refine N_putR (ci := 0) (j := 1) (a := 9) (t := 11) (x := 0) (y := 2) cl0 rfl rfl rfl (Or.inr ⟨rfl, rfl⟩) fw_X0_15 rfl rfl rfl rfl dX0_init_17 rfl ?_
  refine N_aload_n (i := 0) dX0_init_20 rfl rfl rfl ?_
  refine N_bipush dX0_init_21 rfl rfl rfl ?_
  refine N_newarr (N := 8) (n := 12) rfl rfl nai (by decide) (by decide) dX0_init_23 rfl ?_
  refine N_putR (ci := 0) (j := 2) (a := 9) (t := 12) (x := 0) (y := 3) cl0 rfl rfl rfl (Or.inr ⟨rfl, rfl⟩) fw_X0_18 rfl rfl rfl rfl dX0_init_25 rfl ?_
  refine N_aload_n (i := 0) dX0_init_28 rfl rfl rfl ?_
  refine N_clear (c := 9) mv_X0_21 (by decide) rfl rfl rfl rfl rfl rfl rfl rfl rfl (by decide) (by decide) dX0_init_29 rfl ?_
  exact N_vret rfl dX0_init_32 rfl rfl
def mN_13 (μ : Mm) : Mm := (clN 13 (sM (sM (sM μ 13 0 15) 13 1 16) 13 2 17))
set_option maxRecDepth 20000 in
theorem kN_13 (μ : Mm) : CN 3 mX0_init [vR 13] 14 μ 17 (mN_13 μ) := by
  refine N_enter rfl (by decide +kernel) (by decide) ?_
  refine N_aload_n (i := 0) dX0_init_0 rfl rfl rfl ?_
  refine N_obj ob_X0_3 dX0_init_1 (by decide) rfl rfl ?_
  refine N_aload_n (i := 0) dX0_init_4 rfl rfl rfl ?_
  refine N_bipush dX0_init_5 rfl rfl rfl ?_
  refine N_newarr (N := 60) (n := 14) rfl rfl nai (by decide) (by decide) dX0_init_7 rfl ?_
  refine N_putR (ci := 0) (j := 0) (a := 13) (t := 14) (x := 0) (y := 1) cl0 rfl rfl rfl (Or.inr ⟨rfl, rfl⟩) fw_X0_9 rfl rfl rfl rfl dX0_init_9 rfl ?_
  refine N_aload_n (i := 0) dX0_init_12 rfl rfl rfl ?_
  refine N_bipush dX0_init_13 rfl rfl rfl ?_
  refine N_newarr (N := 8) (n := 15) rfl rfl nai (by decide) (by decide) dX0_init_15 rfl ?_
  refine N_putR (ci := 0) (j := 1) (a := 13) (t := 15) (x := 0) (y := 2) cl0 rfl rfl rfl (Or.inr ⟨rfl, rfl⟩) fw_X0_15 rfl rfl rfl rfl dX0_init_17 rfl ?_
  refine N_aload_n (i := 0) dX0_init_20 rfl rfl rfl ?_
  refine N_bipush dX0_init_21 rfl rfl rfl ?_
  refine N_newarr (N := 8) (n := 16) rfl rfl nai (by decide) (by decide) dX0_init_23 rfl ?_
  refine N_putR (ci := 0) (j := 2) (a := 13) (t := 16) (x := 0) (y := 3) cl0 rfl rfl rfl (Or.inr ⟨rfl, rfl⟩) fw_X0_18 rfl rfl rfl rfl dX0_init_25 rfl ?_
  refine N_aload_n (i := 0) dX0_init_28 rfl rfl rfl ?_
  refine N_clear (c := 13) mv_X0_21 (by decide) rfl rfl rfl rfl rfl rfl rfl rfl rfl (by decide) (by decide) dX0_init_29 rfl ?_
  exact N_vret rfl dX0_init_32 rfl rfl
def mN_18 (μ : Mm) : Mm := (sM (sM μ 18 0 20) 18 1 21)
set_option maxRecDepth 20000 in
theorem kN_18 (μ : Mm) : CN 2 mX3_init [vR 18] 19 μ 21 (mN_18 μ) := by
  refine N_enter rfl (by decide +kernel) (by decide) ?_
  refine N_aload_n (i := 0) dX3_init_0 rfl rfl rfl ?_
  refine N_obj ob_X3_3 dX3_init_1 (by decide) rfl rfl ?_
  refine N_aload_n (i := 0) dX3_init_4 rfl rfl rfl ?_
  refine N_bipush dX3_init_5 rfl rfl rfl ?_
  refine N_newarr (N := 8) (n := 19) rfl rfl nai (by decide) (by decide) dX3_init_7 rfl ?_
  refine N_putR (ci := 3) (j := 0) (a := 18) (t := 19) (x := 0) (y := 1) cl3 rfl rfl rfl (Or.inr ⟨rfl, rfl⟩) fw_X3_9 rfl rfl rfl rfl dX3_init_9 rfl ?_
  refine N_aload_n (i := 0) dX3_init_12 rfl rfl rfl ?_
  refine N_bipush dX3_init_13 rfl rfl rfl ?_
  refine N_newarr (N := 8) (n := 20) rfl rfl nai (by decide) (by decide) dX3_init_15 rfl ?_
  refine N_putR (ci := 3) (j := 1) (a := 18) (t := 20) (x := 0) (y := 2) cl3 rfl rfl rfl (Or.inr ⟨rfl, rfl⟩) fw_X3_15 rfl rfl rfl rfl dX3_init_17 rfl ?_
  exact N_vret rfl dX3_init_20 rfl rfl
def mN_21 (μ : Mm) : Mm := (sM (sM μ 21 0 23) 21 1 24)
set_option maxRecDepth 20000 in
theorem kN_21 (μ : Mm) : CN 2 mX3_init [vR 21] 22 μ 24 (mN_21 μ) := by
  refine N_enter rfl (by decide +kernel) (by decide) ?_
  refine N_aload_n (i := 0) dX3_init_0 rfl rfl rfl ?_
  refine N_obj ob_X3_3 dX3_init_1 (by decide) rfl rfl ?_
  refine N_aload_n (i := 0) dX3_init_4 rfl rfl rfl ?_
  refine N_bipush dX3_init_5 rfl rfl rfl ?_
  refine N_newarr (N := 8) (n := 22) rfl rfl nai (by decide) (by decide) dX3_init_7 rfl ?_
  refine N_putR (ci := 3) (j := 0) (a := 21) (t := 22) (x := 0) (y := 1) cl3 rfl rfl rfl (Or.inr ⟨rfl, rfl⟩) fw_X3_9 rfl rfl rfl rfl dX3_init_9 rfl ?_
  refine N_aload_n (i := 0) dX3_init_12 rfl rfl rfl ?_
  refine N_bipush dX3_init_13 rfl rfl rfl ?_
  refine N_newarr (N := 8) (n := 23) rfl rfl nai (by decide) (by decide) dX3_init_15 rfl ?_
  refine N_putR (ci := 3) (j := 1) (a := 21) (t := 23) (x := 0) (y := 2) cl3 rfl rfl rfl (Or.inr ⟨rfl, rfl⟩) fw_X3_15 rfl rfl rfl rfl dX3_init_17 rfl ?_
  exact N_vret rfl dX3_init_20 rfl rfl
def mN_24 (μ : Mm) : Mm := (sM (sM μ 24 0 26) 24 1 27)
set_option maxRecDepth 20000 in
theorem kN_24 (μ : Mm) : CN 2 mX3_init [vR 24] 25 μ 27 (mN_24 μ) := by
  refine N_enter rfl (by decide +kernel) (by decide) ?_
  refine N_aload_n (i := 0) dX3_init_0 rfl rfl rfl ?_
  refine N_obj ob_X3_3 dX3_init_1 (by decide) rfl rfl ?_
  refine N_aload_n (i := 0) dX3_init_4 rfl rfl rfl ?_
  refine N_bipush dX3_init_5 rfl rfl rfl ?_
  refine N_newarr (N := 8) (n := 25) rfl rfl nai (by decide) (by decide) dX3_init_7 rfl ?_
  refine N_putR (ci := 3) (j := 0) (a := 24) (t := 25) (x := 0) (y := 1) cl3 rfl rfl rfl (Or.inr ⟨rfl, rfl⟩) fw_X3_9 rfl rfl rfl rfl dX3_init_9 rfl ?_
  refine N_aload_n (i := 0) dX3_init_12 rfl rfl rfl ?_
  refine N_bipush dX3_init_13 rfl rfl rfl ?_
  refine N_newarr (N := 8) (n := 26) rfl rfl nai (by decide) (by decide) dX3_init_15 rfl ?_
  refine N_putR (ci := 3) (j := 1) (a := 24) (t := 26) (x := 0) (y := 2) cl3 rfl rfl rfl (Or.inr ⟨rfl, rfl⟩) fw_X3_15 rfl rfl rfl rfl dX3_init_17 rfl ?_
  exact N_vret rfl dX3_init_20 rfl rfl
def mN_27 (μ : Mm) : Mm := (sM (sM μ 27 0 29) 27 1 30)
set_option maxRecDepth 20000 in
theorem kN_27 (μ : Mm) : CN 2 mX3_init [vR 27] 28 μ 30 (mN_27 μ) := by
  refine N_enter rfl (by decide +kernel) (by decide) ?_
  refine N_aload_n (i := 0) dX3_init_0 rfl rfl rfl ?_
  refine N_obj ob_X3_3 dX3_init_1 (by decide) rfl rfl ?_
  refine N_aload_n (i := 0) dX3_init_4 rfl rfl rfl ?_
  refine N_bipush dX3_init_5 rfl rfl rfl ?_
  refine N_newarr (N := 8) (n := 28) rfl rfl nai (by decide) (by decide) dX3_init_7 rfl ?_
  refine N_putR (ci := 3) (j := 0) (a := 27) (t := 28) (x := 0) (y := 1) cl3 rfl rfl rfl (Or.inr ⟨rfl, rfl⟩) fw_X3_9 rfl rfl rfl rfl dX3_init_9 rfl ?_
  refine N_aload_n (i := 0) dX3_init_12 rfl rfl rfl ?_
  refine N_bipush dX3_init_13 rfl rfl rfl ?_
  refine N_newarr (N := 8) (n := 29) rfl rfl nai (by decide) (by decide) dX3_init_15 rfl ?_
  refine N_putR (ci := 3) (j := 1) (a := 27) (t := 29) (x := 0) (y := 2) cl3 rfl rfl rfl (Or.inr ⟨rfl, rfl⟩) fw_X3_15 rfl rfl rfl rfl dX3_init_17 rfl ?_
  exact N_vret rfl dX3_init_20 rfl rfl
def mN_30 (μ : Mm) : Mm := (sM (sM μ 30 0 32) 30 1 33)
set_option maxRecDepth 20000 in
theorem kN_30 (μ : Mm) : CN 2 mX3_init [vR 30] 31 μ 33 (mN_30 μ) := by
  refine N_enter rfl (by decide +kernel) (by decide) ?_
  refine N_aload_n (i := 0) dX3_init_0 rfl rfl rfl ?_
  refine N_obj ob_X3_3 dX3_init_1 (by decide) rfl rfl ?_
  refine N_aload_n (i := 0) dX3_init_4 rfl rfl rfl ?_
  refine N_bipush dX3_init_5 rfl rfl rfl ?_
  refine N_newarr (N := 8) (n := 31) rfl rfl nai (by decide) (by decide) dX3_init_7 rfl ?_
  refine N_putR (ci := 3) (j := 0) (a := 30) (t := 31) (x := 0) (y := 1) cl3 rfl rfl rfl (Or.inr ⟨rfl, rfl⟩) fw_X3_9 rfl rfl rfl rfl dX3_init_9 rfl ?_
  refine N_aload_n (i := 0) dX3_init_12 rfl rfl rfl ?_
  refine N_bipush dX3_init_13 rfl rfl rfl ?_
  refine N_newarr (N := 8) (n := 32) rfl rfl nai (by decide) (by decide) dX3_init_15 rfl ?_
  refine N_putR (ci := 3) (j := 1) (a := 30) (t := 32) (x := 0) (y := 2) cl3 rfl rfl rfl (Or.inr ⟨rfl, rfl⟩) fw_X3_15 rfl rfl rfl rfl dX3_init_17 rfl ?_
  exact N_vret rfl dX3_init_20 rfl rfl
def mN_33 (μ : Mm) : Mm := (sM (sM μ 33 0 35) 33 1 36)
set_option maxRecDepth 20000 in
theorem kN_33 (μ : Mm) : CN 2 mX3_init [vR 33] 34 μ 36 (mN_33 μ) := by
  refine N_enter rfl (by decide +kernel) (by decide) ?_
  refine N_aload_n (i := 0) dX3_init_0 rfl rfl rfl ?_
  refine N_obj ob_X3_3 dX3_init_1 (by decide) rfl rfl ?_
  refine N_aload_n (i := 0) dX3_init_4 rfl rfl rfl ?_
  refine N_bipush dX3_init_5 rfl rfl rfl ?_
  refine N_newarr (N := 8) (n := 34) rfl rfl nai (by decide) (by decide) dX3_init_7 rfl ?_
  refine N_putR (ci := 3) (j := 0) (a := 33) (t := 34) (x := 0) (y := 1) cl3 rfl rfl rfl (Or.inr ⟨rfl, rfl⟩) fw_X3_9 rfl rfl rfl rfl dX3_init_9 rfl ?_
  refine N_aload_n (i := 0) dX3_init_12 rfl rfl rfl ?_
  refine N_bipush dX3_init_13 rfl rfl rfl ?_
  refine N_newarr (N := 8) (n := 35) rfl rfl nai (by decide) (by decide) dX3_init_15 rfl ?_
  refine N_putR (ci := 3) (j := 1) (a := 33) (t := 35) (x := 0) (y := 2) cl3 rfl rfl rfl (Or.inr ⟨rfl, rfl⟩) fw_X3_15 rfl rfl rfl rfl dX3_init_17 rfl ?_
  exact N_vret rfl dX3_init_20 rfl rfl
def mN_37 (μ : Mm) : Mm := (sM μ 37 0 39)
set_option maxRecDepth 20000 in
theorem kN_37 (μ : Mm) : CN 2 mX7_init [vR 37] 38 μ 39 (mN_37 μ) := by
  refine N_enter rfl (by decide +kernel) (by decide) ?_
  refine N_aload_n (i := 0) dX7_init_0 rfl rfl rfl ?_
  refine N_obj ob_X7_3 dX7_init_1 (by decide) rfl rfl ?_
  refine N_aload_n (i := 0) dX7_init_4 rfl rfl rfl ?_
  refine N_sipush dX7_init_5 rfl rfl rfl ?_
  refine N_newarr (N := 160) (n := 38) rfl rfl nai (by decide) (by decide) dX7_init_8 rfl ?_
  refine N_putR (ci := 7) (j := 0) (a := 37) (t := 38) (x := 0) (y := 1) cl7 rfl rfl rfl (Or.inr ⟨rfl, rfl⟩) fw_X7_9 rfl rfl rfl rfl dX7_init_10 rfl ?_
  exact N_vret rfl dX7_init_13 rfl rfl
def mN_39 (μ : Mm) : Mm := (sM μ 39 0 41)
set_option maxRecDepth 20000 in
theorem kN_39 (μ : Mm) : CN 2 mX7_init [vR 39] 40 μ 41 (mN_39 μ) := by
  refine N_enter rfl (by decide +kernel) (by decide) ?_
  refine N_aload_n (i := 0) dX7_init_0 rfl rfl rfl ?_
  refine N_obj ob_X7_3 dX7_init_1 (by decide) rfl rfl ?_
  refine N_aload_n (i := 0) dX7_init_4 rfl rfl rfl ?_
  refine N_sipush dX7_init_5 rfl rfl rfl ?_
  refine N_newarr (N := 160) (n := 40) rfl rfl nai (by decide) (by decide) dX7_init_8 rfl ?_
  refine N_putR (ci := 7) (j := 0) (a := 39) (t := 40) (x := 0) (y := 1) cl7 rfl rfl rfl (Or.inr ⟨rfl, rfl⟩) fw_X7_9 rfl rfl rfl rfl dX7_init_10 rfl ?_
  exact N_vret rfl dX7_init_13 rfl rfl
def mN_41 (μ : Mm) : Mm := (sM μ 41 0 43)
set_option maxRecDepth 20000 in
theorem kN_41 (μ : Mm) : CN 2 mX7_init [vR 41] 42 μ 43 (mN_41 μ) := by
  refine N_enter rfl (by decide +kernel) (by decide) ?_
  refine N_aload_n (i := 0) dX7_init_0 rfl rfl rfl ?_
  refine N_obj ob_X7_3 dX7_init_1 (by decide) rfl rfl ?_
  refine N_aload_n (i := 0) dX7_init_4 rfl rfl rfl ?_
  refine N_sipush dX7_init_5 rfl rfl rfl ?_
  refine N_newarr (N := 160) (n := 42) rfl rfl nai (by decide) (by decide) dX7_init_8 rfl ?_
  refine N_putR (ci := 7) (j := 0) (a := 41) (t := 42) (x := 0) (y := 1) cl7 rfl rfl rfl (Or.inr ⟨rfl, rfl⟩) fw_X7_9 rfl rfl rfl rfl dX7_init_10 rfl ?_
  exact N_vret rfl dX7_init_13 rfl rfl
def mN_43 (μ : Mm) : Mm := (sM μ 43 0 45)
set_option maxRecDepth 20000 in
theorem kN_43 (μ : Mm) : CN 2 mX7_init [vR 43] 44 μ 45 (mN_43 μ) := by
  refine N_enter rfl (by decide +kernel) (by decide) ?_
  refine N_aload_n (i := 0) dX7_init_0 rfl rfl rfl ?_
  refine N_obj ob_X7_3 dX7_init_1 (by decide) rfl rfl ?_
  refine N_aload_n (i := 0) dX7_init_4 rfl rfl rfl ?_
  refine N_sipush dX7_init_5 rfl rfl rfl ?_
  refine N_newarr (N := 160) (n := 44) rfl rfl nai (by decide) (by decide) dX7_init_8 rfl ?_
  refine N_putR (ci := 7) (j := 0) (a := 43) (t := 44) (x := 0) (y := 1) cl7 rfl rfl rfl (Or.inr ⟨rfl, rfl⟩) fw_X7_9 rfl rfl rfl rfl dX7_init_10 rfl ?_
  exact N_vret rfl dX7_init_13 rfl rfl
def mN_45 (μ : Mm) : Mm := (sM (sM μ 45 0 47) 45 1 48)
set_option maxRecDepth 20000 in
theorem kN_45 (μ : Mm) : CN 2 mX9_init [vR 45] 46 μ 48 (mN_45 μ) := by
  refine N_enter rfl (by decide +kernel) (by decide) ?_
  refine N_aload_n (i := 0) dX9_init_0 rfl rfl rfl ?_
  refine N_obj ob_X9_3 dX9_init_1 (by decide) rfl rfl ?_
  refine N_aload_n (i := 0) dX9_init_4 rfl rfl rfl ?_
  refine N_bipush dX9_init_5 rfl rfl rfl ?_
  refine N_newarr (N := 60) (n := 46) rfl rfl nai (by decide) (by decide) dX9_init_7 rfl ?_
  refine N_putR (ci := 9) (j := 0) (a := 45) (t := 46) (x := 0) (y := 1) cl9 rfl rfl rfl (Or.inr ⟨rfl, rfl⟩) fw_X9_9 rfl rfl rfl rfl dX9_init_9 rfl ?_
  refine N_aload_n (i := 0) dX9_init_12 rfl rfl rfl ?_
  refine N_bipush dX9_init_13 rfl rfl rfl ?_
  refine N_newarr (N := 60) (n := 47) rfl rfl nai (by decide) (by decide) dX9_init_15 rfl ?_
  refine N_putR (ci := 9) (j := 1) (a := 45) (t := 47) (x := 0) (y := 2) cl9 rfl rfl rfl (Or.inr ⟨rfl, rfl⟩) fw_X9_15 rfl rfl rfl rfl dX9_init_17 rfl ?_
  exact N_vret rfl dX9_init_20 rfl rfl
def mN_48 (μ : Mm) : Mm := (sM (sM (sM (sM (sM μ 48 1 50) 48 2 51) 48 3 52) 48 4 53) 48 0 46)
set_option maxRecDepth 20000 in
theorem kN_48 (μ : Mm) : CN 2 mX1_init [vR 48, vR 45] 49 μ 53 (mN_48 μ) := by
  refine N_enter rfl (by decide +kernel) (by decide) ?_
  refine N_aload_n (i := 0) dX1_init_0 rfl rfl rfl ?_
  refine N_obj ob_X1_3 dX1_init_1 (by decide) rfl rfl ?_
  refine N_aload_n (i := 0) dX1_init_4 rfl rfl rfl ?_
  refine N_bipush dX1_init_5 rfl rfl rfl ?_
  refine N_newarr (N := 8) (n := 49) rfl rfl nai (by decide) (by decide) dX1_init_7 rfl ?_
  refine N_putR (ci := 1) (j := 1) (a := 48) (t := 49) (x := 0) (y := 1) cl1 rfl rfl rfl (Or.inr ⟨rfl, rfl⟩) fw_X1_9 rfl rfl rfl rfl dX1_init_9 rfl ?_
  refine N_aload_n (i := 0) dX1_init_12 rfl rfl rfl ?_
  refine N_bipush dX1_init_13 rfl rfl rfl ?_
  refine N_newarr (N := 8) (n := 50) rfl rfl nai (by decide) (by decide) dX1_init_15 rfl ?_
  refine N_putR (ci := 1) (j := 2) (a := 48) (t := 50) (x := 0) (y := 2) cl1 rfl rfl rfl (Or.inr ⟨rfl, rfl⟩) fw_X1_15 rfl rfl rfl rfl dX1_init_17 rfl ?_
  refine N_aload_n (i := 0) dX1_init_20 rfl rfl rfl ?_
  refine N_bipush dX1_init_21 rfl rfl rfl ?_
  refine N_newarr (N := 8) (n := 51) rfl rfl nai (by decide) (by decide) dX1_init_23 rfl ?_
  refine N_putR (ci := 1) (j := 3) (a := 48) (t := 51) (x := 0) (y := 3) cl1 rfl rfl rfl (Or.inr ⟨rfl, rfl⟩) fw_X1_18 rfl rfl rfl rfl dX1_init_25 rfl ?_
  refine N_aload_n (i := 0) dX1_init_28 rfl rfl rfl ?_
  refine N_bipush dX1_init_29 rfl rfl rfl ?_
  refine N_newarr (N := 72) (n := 52) rfl rfl nai (by decide) (by decide) dX1_init_31 rfl ?_
  refine N_putR (ci := 1) (j := 4) (a := 48) (t := 52) (x := 0) (y := 4) cl1 rfl rfl rfl (Or.inr ⟨rfl, rfl⟩) fw_X1_21 rfl rfl rfl rfl dX1_init_33 rfl ?_
  refine N_aload_n (i := 0) dX1_init_36 rfl rfl rfl ?_
  refine N_aload_n (i := 1) dX1_init_37 rfl rfl rfl ?_
  refine N_putR (ci := 1) (j := 0) (a := 48) (t := 45) (x := 1) (y := 45) cl1 rfl rfl rfl (Or.inr ⟨rfl, rfl⟩) fw_X1_24 rfl rfl rfl rfl dX1_init_38 rfl ?_
  exact N_vret rfl dX1_init_41 rfl rfl
def mN_53 (μ : Mm) : Mm := (sM (sM (sM (sM (sM μ 53 1 55) 53 2 56) 53 3 57) 53 4 58) 53 0 46)
set_option maxRecDepth 20000 in
theorem kN_53 (μ : Mm) : CN 2 mX1_init [vR 53, vR 45] 54 μ 58 (mN_53 μ) := by
  refine N_enter rfl (by decide +kernel) (by decide) ?_
  refine N_aload_n (i := 0) dX1_init_0 rfl rfl rfl ?_
  refine N_obj ob_X1_3 dX1_init_1 (by decide) rfl rfl ?_
  refine N_aload_n (i := 0) dX1_init_4 rfl rfl rfl ?_
  refine N_bipush dX1_init_5 rfl rfl rfl ?_
  refine N_newarr (N := 8) (n := 54) rfl rfl nai (by decide) (by decide) dX1_init_7 rfl ?_
  refine N_putR (ci := 1) (j := 1) (a := 53) (t := 54) (x := 0) (y := 1) cl1 rfl rfl rfl (Or.inr ⟨rfl, rfl⟩) fw_X1_9 rfl rfl rfl rfl dX1_init_9 rfl ?_
  refine N_aload_n (i := 0) dX1_init_12 rfl rfl rfl ?_
  refine N_bipush dX1_init_13 rfl rfl rfl ?_
  refine N_newarr (N := 8) (n := 55) rfl rfl nai (by decide) (by decide) dX1_init_15 rfl ?_
  refine N_putR (ci := 1) (j := 2) (a := 53) (t := 55) (x := 0) (y := 2) cl1 rfl rfl rfl (Or.inr ⟨rfl, rfl⟩) fw_X1_15 rfl rfl rfl rfl dX1_init_17 rfl ?_
  refine N_aload_n (i := 0) dX1_init_20 rfl rfl rfl ?_
  refine N_bipush dX1_init_21 rfl rfl rfl ?_
  refine N_newarr (N := 8) (n := 56) rfl rfl nai (by decide) (by decide) dX1_init_23 rfl ?_
  refine N_putR (ci := 1) (j := 3) (a := 53) (t := 56) (x := 0) (y := 3) cl1 rfl rfl rfl (Or.inr ⟨rfl, rfl⟩) fw_X1_18 rfl rfl rfl rfl dX1_init_25 rfl ?_
  refine N_aload_n (i := 0) dX1_init_28 rfl rfl rfl ?_
  refine N_bipush dX1_init_29 rfl rfl rfl ?_
  refine N_newarr (N := 72) (n := 57) rfl rfl nai (by decide) (by decide) dX1_init_31 rfl ?_
  refine N_putR (ci := 1) (j := 4) (a := 53) (t := 57) (x := 0) (y := 4) cl1 rfl rfl rfl (Or.inr ⟨rfl, rfl⟩) fw_X1_21 rfl rfl rfl rfl dX1_init_33 rfl ?_
  refine N_aload_n (i := 0) dX1_init_36 rfl rfl rfl ?_
  refine N_aload_n (i := 1) dX1_init_37 rfl rfl rfl ?_
  refine N_putR (ci := 1) (j := 0) (a := 53) (t := 45) (x := 1) (y := 45) cl1 rfl rfl rfl (Or.inr ⟨rfl, rfl⟩) fw_X1_24 rfl rfl rfl rfl dX1_init_38 rfl ?_
  exact N_vret rfl dX1_init_41 rfl rfl
def mN_58 (μ : Mm) : Mm := (sM (sM (sM μ 58 0 60) 58 1 61) 58 2 62)
set_option maxRecDepth 20000 in
theorem kN_58 (μ : Mm) : CN 2 mX5_init [vR 58] 59 μ 62 (mN_58 μ) := by
  refine N_enter rfl (by decide +kernel) (by decide) ?_
  refine N_aload_n (i := 0) dX5_init_0 rfl rfl rfl ?_
  refine N_obj ob_X5_3 dX5_init_1 (by decide) rfl rfl ?_
  refine N_aload_n (i := 0) dX5_init_4 rfl rfl rfl ?_
  refine N_bipush dX5_init_5 rfl rfl rfl ?_
  refine N_newarr (N := 8) (n := 59) rfl rfl nai (by decide) (by decide) dX5_init_7 rfl ?_
  refine N_putR (ci := 5) (j := 0) (a := 58) (t := 59) (x := 0) (y := 1) cl5 rfl rfl rfl (Or.inr ⟨rfl, rfl⟩) fw_X5_9 rfl rfl rfl rfl dX5_init_9 rfl ?_
  refine N_aload_n (i := 0) dX5_init_12 rfl rfl rfl ?_
  refine N_bipush dX5_init_13 rfl rfl rfl ?_
  refine N_newarr (N := 8) (n := 60) rfl rfl nai (by decide) (by decide) dX5_init_15 rfl ?_
  refine N_putR (ci := 5) (j := 1) (a := 58) (t := 60) (x := 0) (y := 2) cl5 rfl rfl rfl (Or.inr ⟨rfl, rfl⟩) fw_X5_15 rfl rfl rfl rfl dX5_init_17 rfl ?_
  refine N_aload_n (i := 0) dX5_init_20 rfl rfl rfl ?_
  refine N_bipush dX5_init_21 rfl rfl rfl ?_
  refine N_newarr (N := 8) (n := 61) rfl rfl nai (by decide) (by decide) dX5_init_23 rfl ?_
  refine N_putR (ci := 5) (j := 2) (a := 58) (t := 61) (x := 0) (y := 3) cl5 rfl rfl rfl (Or.inr ⟨rfl, rfl⟩) fw_X5_18 rfl rfl rfl rfl dX5_init_25 rfl ?_
  exact N_vret rfl dX5_init_28 rfl rfl
def mN_62 (μ : Mm) : Mm := (sM (sM (sM (sM (sM μ 62 0 64) 62 1 65) 62 2 66) 62 3 67) 62 4 49)
set_option maxRecDepth 20000 in
theorem kN_62 (μ : Mm) : CN 2 mX6_init [vR 62, vR 48] 63 μ 67 (mN_62 μ) := by
  refine N_enter rfl (by decide +kernel) (by decide) ?_
  refine N_aload_n (i := 0) dX6_init_0 rfl rfl rfl ?_
  refine N_obj ob_X6_3 dX6_init_1 (by decide) rfl rfl ?_
  refine N_aload_n (i := 0) dX6_init_4 rfl rfl rfl ?_
  refine N_sipush dX6_init_5 rfl rfl rfl ?_
  refine N_newarr (N := 2048) (n := 63) rfl rfl nai (by decide) (by decide) dX6_init_8 rfl ?_
  refine N_putR (ci := 6) (j := 0) (a := 62) (t := 63) (x := 0) (y := 1) cl6 rfl rfl rfl (Or.inr ⟨rfl, rfl⟩) fw_X6_9 rfl rfl rfl rfl dX6_init_10 rfl ?_
  refine N_aload_n (i := 0) dX6_init_13 rfl rfl rfl ?_
  refine N_sipush dX6_init_14 rfl rfl rfl ?_
  refine N_newarr (N := 2048) (n := 64) rfl rfl nai (by decide) (by decide) dX6_init_17 rfl ?_
  refine N_putR (ci := 6) (j := 1) (a := 62) (t := 64) (x := 0) (y := 2) cl6 rfl rfl rfl (Or.inr ⟨rfl, rfl⟩) fw_X6_15 rfl rfl rfl rfl dX6_init_19 rfl ?_
  refine N_aload_n (i := 0) dX6_init_22 rfl rfl rfl ?_
  refine N_sipush dX6_init_23 rfl rfl rfl ?_
  refine N_newarr (N := 256) (n := 65) rfl rfl nai (by decide) (by decide) dX6_init_26 rfl ?_
  refine N_putR (ci := 6) (j := 2) (a := 62) (t := 65) (x := 0) (y := 3) cl6 rfl rfl rfl (Or.inr ⟨rfl, rfl⟩) fw_X6_18 rfl rfl rfl rfl dX6_init_28 rfl ?_
  refine N_aload_n (i := 0) dX6_init_31 rfl rfl rfl ?_
  refine N_sipush dX6_init_32 rfl rfl rfl ?_
  refine N_newarr (N := 256) (n := 66) rfl rfl nai (by decide) (by decide) dX6_init_35 rfl ?_
  refine N_putR (ci := 6) (j := 3) (a := 62) (t := 66) (x := 0) (y := 4) cl6 rfl rfl rfl (Or.inr ⟨rfl, rfl⟩) fw_X6_21 rfl rfl rfl rfl dX6_init_37 rfl ?_
  refine N_aload_n (i := 0) dX6_init_40 rfl rfl rfl ?_
  refine N_aload_n (i := 1) dX6_init_41 rfl rfl rfl ?_
  refine N_putR (ci := 6) (j := 4) (a := 62) (t := 48) (x := 2) (y := 0) cl6 rfl rfl rfl (Or.inl rfl) fw_X6_24 rfl rfl rfl rfl dX6_init_42 rfl ?_
  exact N_vret rfl dX6_init_45 rfl rfl
def mN_67 (μ : Mm) : Mm := (sM (sM (sM μ 67 0 69) 67 1 70) 67 3 49)
set_option maxRecDepth 20000 in
theorem kN_67 (μ : Mm) : CN 2 mX8_init [vR 67, vR 48] 68 μ 70 (mN_67 μ) := by
  refine N_enter rfl (by decide +kernel) (by decide) ?_
  refine N_aload_n (i := 0) dX8_init_0 rfl rfl rfl ?_
  refine N_obj ob_X8_3 dX8_init_1 (by decide) rfl rfl ?_
  refine N_aload_n (i := 0) dX8_init_4 rfl rfl rfl ?_
  refine N_bipush dX8_init_5 rfl rfl rfl ?_
  refine N_newarr (N := 10) (n := 68) rfl rfl nai (by decide) (by decide) dX8_init_7 rfl ?_
  refine N_putR (ci := 8) (j := 0) (a := 67) (t := 68) (x := 0) (y := 1) cl8 rfl rfl rfl (Or.inr ⟨rfl, rfl⟩) fw_X8_9 rfl rfl rfl rfl dX8_init_9 rfl ?_
  refine N_aload_n (i := 0) dX8_init_12 rfl rfl rfl ?_
  refine N_bipush dX8_init_13 rfl rfl rfl ?_
  refine N_newarr (N := 10) (n := 69) rfl rfl nai (by decide) (by decide) dX8_init_15 rfl ?_
  refine N_putR (ci := 8) (j := 1) (a := 67) (t := 69) (x := 0) (y := 2) cl8 rfl rfl rfl (Or.inr ⟨rfl, rfl⟩) fw_X8_15 rfl rfl rfl rfl dX8_init_17 rfl ?_
  refine N_aload_n (i := 0) dX8_init_20 rfl rfl rfl ?_
  refine N_aload_n (i := 1) dX8_init_21 rfl rfl rfl ?_
  refine N_putR (ci := 8) (j := 3) (a := 67) (t := 48) (x := 2) (y := 0) cl8 rfl rfl rfl (Or.inl rfl) fw_X8_18 rfl rfl rfl rfl dX8_init_22 rfl ?_
  exact N_vret rfl dX8_init_25 rfl rfl
def mN_0 (μ : Mm) : Mm := (sM (sM (mN_67 (sM (mN_62 (sM (mN_58 (sM (mN_53 (sM (mN_48 (sM (mN_45 (sM (mN_43 (sM (mN_41 (sM (mN_39 (sM (mN_37 (sM (sM (mN_33 (sM (mN_30 (sM (mN_27 (sM (mN_24 (sM (mN_21 (sM (mN_18 (sM (sM (mN_13 (sM (mN_9 (sM (mN_5 (sM (mN_4 (sM (mN_3 (sM (mN_1 μ) 0 0 2)) 0 1 4)) 0 2 5)) 0 3 6)) 0 4 10)) 0 5 14) 0 6 18)) 17 0 19)) 17 1 22)) 17 2 25)) 17 3 28)) 17 4 31)) 0 7 34) 0 8 37)) 36 0 38)) 36 1 40)) 36 2 42)) 36 3 44)) 0 9 46)) 0 10 49)) 0 11 54)) 0 12 59)) 0 13 63)) 0 14 68) 0 17 (-1))
set_option maxRecDepth 20000 in
theorem kN_0 (μ : Mm) : CN 4 mX10_init [vR 0] 1 μ 70 (mN_0 μ) := by
  refine N_enter rfl (by decide +kernel) (by decide) ?_
  refine N_aload_n (i := 0) dX10_init_0 rfl rfl rfl ?_
  refine N_obj ob_X10_1 dX10_init_1 (by decide) rfl rfl ?_
  refine N_aload_n (i := 0) dX10_init_4 rfl rfl rfl ?_
  refine N_new (ci := 7) (nf := 2) (n := 1) cl7 (by decide +kernel) rfl nw_X10_7 (by decide) (by decide) dX10_init_5 rfl ?_
  refine N_dup dX10_init_8 trivial rfl ?_
  refine N_init (d1 := 2) (n2 := 3) (As := []) (kN_1 _) (by decide) ni_X10_9 rfl rfl rfl (by decide) (by decide) (by decide) dX10_init_9 rfl ?_
  refine N_putR (ci := 10) (j := 0) (a := 0) (t := 1) (x := 0) (y := 1) cl10 rfl rfl rfl (Or.inr ⟨rfl, rfl⟩) fw_X10_10 rfl rfl rfl rfl dX10_init_12 rfl ?_
  refine N_aload_n (i := 0) dX10_init_15 rfl rfl rfl ?_
  refine N_new (ci := 4) (nf := 3) (n := 3) cl4 (by decide +kernel) rfl nw_X10_16 (by decide) (by decide) dX10_init_16 rfl ?_
  refine N_dup dX10_init_19 trivial rfl ?_
  refine N_aload_n (i := 0) dX10_init_20 rfl rfl rfl ?_
  refine N_getR (ci := 10) (j := 0) (a := 0) (t := 1) (x := 0) (y := 1) cl10 rfl fw_X10_10 rfl rfl rfl rfl dX10_init_21 rfl ?_
  refine N_init (d1 := 2) (n2 := 4) (As := [vR 1]) (kN_3 _) (by decide) ni_X10_18 rfl rfl rfl (by decide) (by decide) (by decide) dX10_init_24 rfl ?_
  refine N_putR (ci := 10) (j := 1) (a := 0) (t := 3) (x := 0) (y := 3) cl10 rfl rfl rfl (Or.inr ⟨rfl, rfl⟩) fw_X10_21 rfl rfl rfl rfl dX10_init_27 rfl ?_
  refine N_aload_n (i := 0) dX10_init_30 rfl rfl rfl ?_
  refine N_new (ci := 2) (nf := 6) (n := 4) cl2 (by decide +kernel) rfl nw_X10_25 (by decide) (by decide) dX10_init_31 rfl ?_
  refine N_dup dX10_init_34 trivial rfl ?_
  refine N_aload_n (i := 0) dX10_init_35 rfl rfl rfl ?_
  refine N_getR (ci := 10) (j := 1) (a := 0) (t := 3) (x := 0) (y := 3) cl10 rfl fw_X10_21 rfl rfl rfl rfl dX10_init_36 rfl ?_
  refine N_init (d1 := 2) (n2 := 5) (As := [vR 3]) (kN_4 _) (by decide) ni_X10_27 rfl rfl rfl (by decide) (by decide) (by decide) dX10_init_39 rfl ?_
  refine N_putR (ci := 10) (j := 2) (a := 0) (t := 4) (x := 0) (y := 4) cl10 rfl rfl rfl (Or.inr ⟨rfl, rfl⟩) fw_X10_30 rfl rfl rfl rfl dX10_init_42 rfl ?_
  refine N_aload_n (i := 0) dX10_init_45 rfl rfl rfl ?_
  refine N_new (ci := 0) (nf := 9) (n := 5) cl0 (by decide +kernel) rfl nw_X10_34 (by decide) (by decide) dX10_init_46 rfl ?_
  refine N_dup dX10_init_49 trivial rfl ?_
  refine N_init (d1 := 3) (n2 := 9) (As := []) (kN_5 _) (by decide) ni_X10_36 rfl rfl rfl (by decide) (by decide) (by decide) dX10_init_50 rfl ?_
  refine N_putR (ci := 10) (j := 3) (a := 0) (t := 5) (x := 0) (y := 5) cl10 rfl rfl rfl (Or.inr ⟨rfl, rfl⟩) fw_X10_37 rfl rfl rfl rfl dX10_init_53 rfl ?_
  refine N_aload_n (i := 0) dX10_init_56 rfl rfl rfl ?_
  refine N_new (ci := 0) (nf := 9) (n := 9) cl0 (by decide +kernel) rfl nw_X10_34 (by decide) (by decide) dX10_init_57 rfl ?_
  refine N_dup dX10_init_60 trivial rfl ?_
  refine N_init (d1 := 3) (n2 := 13) (As := []) (kN_9 _) (by decide) ni_X10_36 rfl rfl rfl (by decide) (by decide) (by decide) dX10_init_61 rfl ?_
  refine N_putR (ci := 10) (j := 4) (a := 0) (t := 9) (x := 0) (y := 9) cl10 rfl rfl rfl (Or.inr ⟨rfl, rfl⟩) fw_X10_41 rfl rfl rfl rfl dX10_init_64 rfl ?_
  refine N_aload_n (i := 0) dX10_init_67 rfl rfl rfl ?_
  refine N_new (ci := 0) (nf := 9) (n := 13) cl0 (by decide +kernel) rfl nw_X10_34 (by decide) (by decide) dX10_init_68 rfl ?_
  refine N_dup dX10_init_71 trivial rfl ?_
  refine N_init (d1 := 3) (n2 := 17) (As := []) (kN_13 _) (by decide) ni_X10_36 rfl rfl rfl (by decide) (by decide) (by decide) dX10_init_72 rfl ?_
  refine N_putR (ci := 10) (j := 5) (a := 0) (t := 13) (x := 0) (y := 13) cl10 rfl rfl rfl (Or.inr ⟨rfl, rfl⟩) fw_X10_44 rfl rfl rfl rfl dX10_init_75 rfl ?_
  refine N_aload_n (i := 0) dX10_init_78 rfl rfl rfl ?_
  refine N_iconst dX10_init_79 rfl rfl ?_
  refine N_anew (N := 5) (n := 17) (c2 := 1) rfl (Or.inl ⟨rfl, rfl⟩) rfl (tG_of (List.mem_of_getElem? (i := 237) (by decide +kernel)) (by decide +kernel)) (by decide) (by decide) dX10_init_80 rfl ?_
  refine N_putR (ci := 10) (j := 6) (a := 0) (t := 17) (x := 0) (y := 17) cl10 rfl rfl rfl (Or.inr ⟨rfl, rfl⟩) fw_X10_49 rfl rfl rfl rfl dX10_init_83 rfl ?_
  refine N_iconst dX10_init_86 rfl rfl ?_
  refine N_istore_n (i := 1) dX10_init_87 rfl (by decide) trivial rfl ?_
  refine N_iload_n (i := 1) dX10_init_88 rfl rfl rfl ?_
  refine N_iconst dX10_init_89 rfl rfl ?_
  refine N_icmpge_f (qt := 112) dX10_init_90 rfl rfl (by decide) ?_
  refine N_aload_n (i := 0) dX10_init_93 rfl rfl rfl ?_
  refine N_getR (ci := 10) (j := 6) (a := 0) (t := 17) (x := 0) (y := 17) cl10 rfl fw_X10_49 rfl rfl rfl rfl dX10_init_94 rfl ?_
  refine N_iload_n (i := 1) dX10_init_97 rfl rfl rfl ?_
  refine N_new (ci := 3) (nf := 3) (n := 18) cl3 (by decide +kernel) rfl nw_X10_47 (by decide) (by decide) dX10_init_98 rfl ?_
  refine N_dup dX10_init_101 trivial rfl ?_
  refine N_init (d1 := 2) (n2 := 21) (As := []) (kN_18 _) (by decide) ni_X10_53 rfl rfl rfl (by decide) (by decide) (by decide) dX10_init_102 rfl ?_
  refine N_aastore (a := 17) (t := 18) (ci := 3) (c2 := 1) rfl (Or.inl  ⟨rfl, rfl⟩) rfl rfl rfl rfl rfl (by decide) dX10_init_105 rfl ?_
  refine N_iincK (i := 1) (a2 := 1) dX10_init_106 rfl rfl (by decide) trivial rfl ?_
  refine N_goto dX10_init_109 rfl ?_
  refine N_iload_n (i := 1) dX10_init_88 rfl rfl rfl ?_
  refine N_iconst dX10_init_89 rfl rfl ?_
  refine N_icmpge_f (qt := 112) dX10_init_90 rfl rfl (by decide) ?_
  refine N_aload_n (i := 0) dX10_init_93 rfl rfl rfl ?_
  refine N_getR (ci := 10) (j := 6) (a := 0) (t := 17) (x := 0) (y := 17) cl10 rfl fw_X10_49 rfl rfl rfl rfl dX10_init_94 rfl ?_
  refine N_iload_n (i := 1) dX10_init_97 rfl rfl rfl ?_
  refine N_new (ci := 3) (nf := 3) (n := 21) cl3 (by decide +kernel) rfl nw_X10_47 (by decide) (by decide) dX10_init_98 rfl ?_
  refine N_dup dX10_init_101 trivial rfl ?_
  refine N_init (d1 := 2) (n2 := 24) (As := []) (kN_21 _) (by decide) ni_X10_53 rfl rfl rfl (by decide) (by decide) (by decide) dX10_init_102 rfl ?_
  refine N_aastore (a := 17) (t := 21) (ci := 3) (c2 := 1) rfl (Or.inl  ⟨rfl, rfl⟩) rfl rfl rfl rfl rfl (by decide) dX10_init_105 rfl ?_
  refine N_iincK (i := 1) (a2 := 2) dX10_init_106 rfl rfl (by decide) trivial rfl ?_
  refine N_goto dX10_init_109 rfl ?_
  refine N_iload_n (i := 1) dX10_init_88 rfl rfl rfl ?_
  refine N_iconst dX10_init_89 rfl rfl ?_
  refine N_icmpge_f (qt := 112) dX10_init_90 rfl rfl (by decide) ?_
  refine N_aload_n (i := 0) dX10_init_93 rfl rfl rfl ?_
  refine N_getR (ci := 10) (j := 6) (a := 0) (t := 17) (x := 0) (y := 17) cl10 rfl fw_X10_49 rfl rfl rfl rfl dX10_init_94 rfl ?_
  refine N_iload_n (i := 1) dX10_init_97 rfl rfl rfl ?_
  refine N_new (ci := 3) (nf := 3) (n := 24) cl3 (by decide +kernel) rfl nw_X10_47 (by decide) (by decide) dX10_init_98 rfl ?_
  refine N_dup dX10_init_101 trivial rfl ?_
  refine N_init (d1 := 2) (n2 := 27) (As := []) (kN_24 _) (by decide) ni_X10_53 rfl rfl rfl (by decide) (by decide) (by decide) dX10_init_102 rfl ?_
  refine N_aastore (a := 17) (t := 24) (ci := 3) (c2 := 1) rfl (Or.inl  ⟨rfl, rfl⟩) rfl rfl rfl rfl rfl (by decide) dX10_init_105 rfl ?_
  refine N_iincK (i := 1) (a2 := 3) dX10_init_106 rfl rfl (by decide) trivial rfl ?_
  refine N_goto dX10_init_109 rfl ?_
  refine N_iload_n (i := 1) dX10_init_88 rfl rfl rfl ?_
  refine N_iconst dX10_init_89 rfl rfl ?_
  refine N_icmpge_f (qt := 112) dX10_init_90 rfl rfl (by decide) ?_
  refine N_aload_n (i := 0) dX10_init_93 rfl rfl rfl ?_
  refine N_getR (ci := 10) (j := 6) (a := 0) (t := 17) (x := 0) (y := 17) cl10 rfl fw_X10_49 rfl rfl rfl rfl dX10_init_94 rfl ?_
  refine N_iload_n (i := 1) dX10_init_97 rfl rfl rfl ?_
  refine N_new (ci := 3) (nf := 3) (n := 27) cl3 (by decide +kernel) rfl nw_X10_47 (by decide) (by decide) dX10_init_98 rfl ?_
  refine N_dup dX10_init_101 trivial rfl ?_
  refine N_init (d1 := 2) (n2 := 30) (As := []) (kN_27 _) (by decide) ni_X10_53 rfl rfl rfl (by decide) (by decide) (by decide) dX10_init_102 rfl ?_
  refine N_aastore (a := 17) (t := 27) (ci := 3) (c2 := 1) rfl (Or.inl  ⟨rfl, rfl⟩) rfl rfl rfl rfl rfl (by decide) dX10_init_105 rfl ?_
  refine N_iincK (i := 1) (a2 := 4) dX10_init_106 rfl rfl (by decide) trivial rfl ?_
  refine N_goto dX10_init_109 rfl ?_
  refine N_iload_n (i := 1) dX10_init_88 rfl rfl rfl ?_
  refine N_iconst dX10_init_89 rfl rfl ?_
  refine N_icmpge_f (qt := 112) dX10_init_90 rfl rfl (by decide) ?_
  refine N_aload_n (i := 0) dX10_init_93 rfl rfl rfl ?_
  refine N_getR (ci := 10) (j := 6) (a := 0) (t := 17) (x := 0) (y := 17) cl10 rfl fw_X10_49 rfl rfl rfl rfl dX10_init_94 rfl ?_
  refine N_iload_n (i := 1) dX10_init_97 rfl rfl rfl ?_
  refine N_new (ci := 3) (nf := 3) (n := 30) cl3 (by decide +kernel) rfl nw_X10_47 (by decide) (by decide) dX10_init_98 rfl ?_
  refine N_dup dX10_init_101 trivial rfl ?_
  refine N_init (d1 := 2) (n2 := 33) (As := []) (kN_30 _) (by decide) ni_X10_53 rfl rfl rfl (by decide) (by decide) (by decide) dX10_init_102 rfl ?_
  refine N_aastore (a := 17) (t := 30) (ci := 3) (c2 := 1) rfl (Or.inl  ⟨rfl, rfl⟩) rfl rfl rfl rfl rfl (by decide) dX10_init_105 rfl ?_
  refine N_iincK (i := 1) (a2 := 5) dX10_init_106 rfl rfl (by decide) trivial rfl ?_
  refine N_goto dX10_init_109 rfl ?_
  refine N_iload_n (i := 1) dX10_init_88 rfl rfl rfl ?_
  refine N_iconst dX10_init_89 rfl rfl ?_
  refine N_icmpge_t dX10_init_90 rfl (by decide) ?_
  refine N_aload_n (i := 0) dX10_init_112 rfl rfl rfl ?_
  refine N_new (ci := 3) (nf := 3) (n := 33) cl3 (by decide +kernel) rfl nw_X10_47 (by decide) (by decide) dX10_init_113 rfl ?_
  refine N_dup dX10_init_116 trivial rfl ?_
  refine N_init (d1 := 2) (n2 := 36) (As := []) (kN_33 _) (by decide) ni_X10_53 rfl rfl rfl (by decide) (by decide) (by decide) dX10_init_117 rfl ?_
  refine N_putR (ci := 10) (j := 7) (a := 0) (t := 33) (x := 0) (y := 33) cl10 rfl rfl rfl (Or.inr ⟨rfl, rfl⟩) fw_X10_54 rfl rfl rfl rfl dX10_init_120 rfl ?_
  refine N_aload_n (i := 0) dX10_init_123 rfl rfl rfl ?_
  refine N_iconst dX10_init_124 rfl rfl ?_
  refine N_anew (N := 4) (n := 36) (c2 := 2) rfl (Or.inr ⟨rfl, rfl⟩) rfl (tG_of (List.mem_of_getElem? (i := 128) (by decide +kernel)) (by decide +kernel)) (by decide) (by decide) dX10_init_125 rfl ?_
  refine N_putR (ci := 10) (j := 8) (a := 0) (t := 36) (x := 0) (y := 36) cl10 rfl rfl rfl (Or.inr ⟨rfl, rfl⟩) fw_X10_58 rfl rfl rfl rfl dX10_init_128 rfl ?_
  refine N_iconst dX10_init_131 rfl rfl ?_
  refine N_istore_n (i := 1) dX10_init_132 rfl (by decide) trivial rfl ?_
  refine N_iload_n (i := 1) dX10_init_133 rfl rfl rfl ?_
  refine N_iconst dX10_init_134 rfl rfl ?_
  refine N_icmpge_f (qt := 157) dX10_init_135 rfl rfl (by decide) ?_
  refine N_aload_n (i := 0) dX10_init_138 rfl rfl rfl ?_
  refine N_getR (ci := 10) (j := 8) (a := 0) (t := 36) (x := 0) (y := 36) cl10 rfl fw_X10_58 rfl rfl rfl rfl dX10_init_139 rfl ?_
  refine N_iload_n (i := 1) dX10_init_142 rfl rfl rfl ?_
  refine N_new (ci := 7) (nf := 2) (n := 37) cl7 (by decide +kernel) rfl nw_X10_7 (by decide) (by decide) dX10_init_143 rfl ?_
  refine N_dup dX10_init_146 trivial rfl ?_
  refine N_init (d1 := 2) (n2 := 39) (As := []) (kN_37 _) (by decide) ni_X10_9 rfl rfl rfl (by decide) (by decide) (by decide) dX10_init_147 rfl ?_
  refine N_aastore (a := 36) (t := 37) (ci := 7) (c2 := 2) rfl (Or.inr  ⟨rfl, rfl⟩) rfl rfl rfl rfl rfl (by decide) dX10_init_150 rfl ?_
  refine N_iincK (i := 1) (a2 := 1) dX10_init_151 rfl rfl (by decide) trivial rfl ?_
  refine N_goto dX10_init_154 rfl ?_
  refine N_iload_n (i := 1) dX10_init_133 rfl rfl rfl ?_
  refine N_iconst dX10_init_134 rfl rfl ?_
  refine N_icmpge_f (qt := 157) dX10_init_135 rfl rfl (by decide) ?_
  refine N_aload_n (i := 0) dX10_init_138 rfl rfl rfl ?_
  refine N_getR (ci := 10) (j := 8) (a := 0) (t := 36) (x := 0) (y := 36) cl10 rfl fw_X10_58 rfl rfl rfl rfl dX10_init_139 rfl ?_
  refine N_iload_n (i := 1) dX10_init_142 rfl rfl rfl ?_
  refine N_new (ci := 7) (nf := 2) (n := 39) cl7 (by decide +kernel) rfl nw_X10_7 (by decide) (by decide) dX10_init_143 rfl ?_
  refine N_dup dX10_init_146 trivial rfl ?_
  refine N_init (d1 := 2) (n2 := 41) (As := []) (kN_39 _) (by decide) ni_X10_9 rfl rfl rfl (by decide) (by decide) (by decide) dX10_init_147 rfl ?_
  refine N_aastore (a := 36) (t := 39) (ci := 7) (c2 := 2) rfl (Or.inr  ⟨rfl, rfl⟩) rfl rfl rfl rfl rfl (by decide) dX10_init_150 rfl ?_
  refine N_iincK (i := 1) (a2 := 2) dX10_init_151 rfl rfl (by decide) trivial rfl ?_
  refine N_goto dX10_init_154 rfl ?_
  refine N_iload_n (i := 1) dX10_init_133 rfl rfl rfl ?_
  refine N_iconst dX10_init_134 rfl rfl ?_
  refine N_icmpge_f (qt := 157) dX10_init_135 rfl rfl (by decide) ?_
  refine N_aload_n (i := 0) dX10_init_138 rfl rfl rfl ?_
  refine N_getR (ci := 10) (j := 8) (a := 0) (t := 36) (x := 0) (y := 36) cl10 rfl fw_X10_58 rfl rfl rfl rfl dX10_init_139 rfl ?_
  refine N_iload_n (i := 1) dX10_init_142 rfl rfl rfl ?_
  refine N_new (ci := 7) (nf := 2) (n := 41) cl7 (by decide +kernel) rfl nw_X10_7 (by decide) (by decide) dX10_init_143 rfl ?_
  refine N_dup dX10_init_146 trivial rfl ?_
  refine N_init (d1 := 2) (n2 := 43) (As := []) (kN_41 _) (by decide) ni_X10_9 rfl rfl rfl (by decide) (by decide) (by decide) dX10_init_147 rfl ?_
  refine N_aastore (a := 36) (t := 41) (ci := 7) (c2 := 2) rfl (Or.inr  ⟨rfl, rfl⟩) rfl rfl rfl rfl rfl (by decide) dX10_init_150 rfl ?_
  refine N_iincK (i := 1) (a2 := 3) dX10_init_151 rfl rfl (by decide) trivial rfl ?_
  refine N_goto dX10_init_154 rfl ?_
  refine N_iload_n (i := 1) dX10_init_133 rfl rfl rfl ?_
  refine N_iconst dX10_init_134 rfl rfl ?_
  refine N_icmpge_f (qt := 157) dX10_init_135 rfl rfl (by decide) ?_
  refine N_aload_n (i := 0) dX10_init_138 rfl rfl rfl ?_
  refine N_getR (ci := 10) (j := 8) (a := 0) (t := 36) (x := 0) (y := 36) cl10 rfl fw_X10_58 rfl rfl rfl rfl dX10_init_139 rfl ?_
  refine N_iload_n (i := 1) dX10_init_142 rfl rfl rfl ?_
  refine N_new (ci := 7) (nf := 2) (n := 43) cl7 (by decide +kernel) rfl nw_X10_7 (by decide) (by decide) dX10_init_143 rfl ?_
  refine N_dup dX10_init_146 trivial rfl ?_
  refine N_init (d1 := 2) (n2 := 45) (As := []) (kN_43 _) (by decide) ni_X10_9 rfl rfl rfl (by decide) (by decide) (by decide) dX10_init_147 rfl ?_
  refine N_aastore (a := 36) (t := 43) (ci := 7) (c2 := 2) rfl (Or.inr  ⟨rfl, rfl⟩) rfl rfl rfl rfl rfl (by decide) dX10_init_150 rfl ?_
  refine N_iincK (i := 1) (a2 := 4) dX10_init_151 rfl rfl (by decide) trivial rfl ?_
  refine N_goto dX10_init_154 rfl ?_
  refine N_iload_n (i := 1) dX10_init_133 rfl rfl rfl ?_
  refine N_iconst dX10_init_134 rfl rfl ?_
  refine N_icmpge_t dX10_init_135 rfl (by decide) ?_
  refine N_aload_n (i := 0) dX10_init_157 rfl rfl rfl ?_
  refine N_new (ci := 9) (nf := 3) (n := 45) cl9 (by decide +kernel) rfl nw_X10_62 (by decide) (by decide) dX10_init_158 rfl ?_
  refine N_dup dX10_init_161 trivial rfl ?_
  refine N_init (d1 := 2) (n2 := 48) (As := []) (kN_45 _) (by decide) ni_X10_64 rfl rfl rfl (by decide) (by decide) (by decide) dX10_init_162 rfl ?_
  refine N_putR (ci := 10) (j := 9) (a := 0) (t := 45) (x := 0) (y := 45) cl10 rfl rfl rfl (Or.inr ⟨rfl, rfl⟩) fw_X10_65 rfl rfl rfl rfl dX10_init_165 rfl ?_
  refine N_aload_n (i := 0) dX10_init_168 rfl rfl rfl ?_
  refine N_new (ci := 1) (nf := 7) (n := 48) cl1 (by decide +kernel) rfl nw_X10_69 (by decide) (by decide) dX10_init_169 rfl ?_
  refine N_dup dX10_init_172 trivial rfl ?_
  refine N_aload_n (i := 0) dX10_init_173 rfl rfl rfl ?_
  refine N_getR (ci := 10) (j := 9) (a := 0) (t := 45) (x := 0) (y := 45) cl10 rfl fw_X10_65 rfl rfl rfl rfl dX10_init_174 rfl ?_
  refine N_init (d1 := 2) (n2 := 53) (As := [vR 45]) (kN_48 _) (by decide) ni_X10_71 rfl rfl rfl (by decide) (by decide) (by decide) dX10_init_177 rfl ?_
  refine N_putR (ci := 10) (j := 10) (a := 0) (t := 48) (x := 0) (y := 48) cl10 rfl rfl rfl (Or.inr ⟨rfl, rfl⟩) fw_X10_74 rfl rfl rfl rfl dX10_init_180 rfl ?_
  refine N_aload_n (i := 0) dX10_init_183 rfl rfl rfl ?_
  refine N_new (ci := 1) (nf := 7) (n := 53) cl1 (by decide +kernel) rfl nw_X10_69 (by decide) (by decide) dX10_init_184 rfl ?_
  refine N_dup dX10_init_187 trivial rfl ?_
  refine N_aload_n (i := 0) dX10_init_188 rfl rfl rfl ?_
  refine N_getR (ci := 10) (j := 9) (a := 0) (t := 45) (x := 0) (y := 45) cl10 rfl fw_X10_65 rfl rfl rfl rfl dX10_init_189 rfl ?_
  refine N_init (d1 := 2) (n2 := 58) (As := [vR 45]) (kN_53 _) (by decide) ni_X10_71 rfl rfl rfl (by decide) (by decide) (by decide) dX10_init_192 rfl ?_
  refine N_putR (ci := 10) (j := 11) (a := 0) (t := 53) (x := 0) (y := 53) cl10 rfl rfl rfl (Or.inr ⟨rfl, rfl⟩) fw_X10_78 rfl rfl rfl rfl dX10_init_195 rfl ?_
  refine N_aload_n (i := 0) dX10_init_198 rfl rfl rfl ?_
  refine N_new (ci := 5) (nf := 10) (n := 58) cl5 (by decide +kernel) rfl nw_X10_81 (by decide) (by decide) dX10_init_199 rfl ?_
  refine N_dup dX10_init_202 trivial rfl ?_
  refine N_init (d1 := 2) (n2 := 62) (As := []) (kN_58 _) (by decide) ni_X10_83 rfl rfl rfl (by decide) (by decide) (by decide) dX10_init_203 rfl ?_
  refine N_putR (ci := 10) (j := 12) (a := 0) (t := 58) (x := 0) (y := 58) cl10 rfl rfl rfl (Or.inr ⟨rfl, rfl⟩) fw_X10_84 rfl rfl rfl rfl dX10_init_206 rfl ?_
  refine N_aload_n (i := 0) dX10_init_209 rfl rfl rfl ?_
  refine N_new (ci := 6) (nf := 9) (n := 62) cl6 (by decide +kernel) rfl nw_X10_88 (by decide) (by decide) dX10_init_210 rfl ?_
  refine N_dup dX10_init_213 trivial rfl ?_
  refine N_aload_n (i := 0) dX10_init_214 rfl rfl rfl ?_
  refine N_getR (ci := 10) (j := 10) (a := 0) (t := 48) (x := 0) (y := 48) cl10 rfl fw_X10_74 rfl rfl rfl rfl dX10_init_215 rfl ?_
  refine N_init (d1 := 2) (n2 := 67) (As := [vR 48]) (kN_62 _) (by decide) ni_X10_90 rfl rfl rfl (by decide) (by decide) (by decide) dX10_init_218 rfl ?_
  refine N_putR (ci := 10) (j := 13) (a := 0) (t := 62) (x := 0) (y := 62) cl10 rfl rfl rfl (Or.inr ⟨rfl, rfl⟩) fw_X10_93 rfl rfl rfl rfl dX10_init_221 rfl ?_
  refine N_aload_n (i := 0) dX10_init_224 rfl rfl rfl ?_
  refine N_new (ci := 8) (nf := 7) (n := 67) cl8 (by decide +kernel) rfl nw_X10_97 (by decide) (by decide) dX10_init_225 rfl ?_
  refine N_dup dX10_init_228 trivial rfl ?_
  refine N_aload_n (i := 0) dX10_init_229 rfl rfl rfl ?_
  refine N_getR (ci := 10) (j := 10) (a := 0) (t := 48) (x := 0) (y := 48) cl10 rfl fw_X10_74 rfl rfl rfl rfl dX10_init_230 rfl ?_
  refine N_init (d1 := 2) (n2 := 70) (As := [vR 48]) (kN_67 _) (by decide) ni_X10_99 rfl rfl rfl (by decide) (by decide) (by decide) dX10_init_233 rfl ?_
  refine N_putR (ci := 10) (j := 14) (a := 0) (t := 67) (x := 0) (y := 67) cl10 rfl rfl rfl (Or.inr ⟨rfl, rfl⟩) fw_X10_100 rfl rfl rfl rfl dX10_init_236 rfl ?_
  refine N_aload_n (i := 0) dX10_init_239 rfl rfl rfl ?_
  refine N_iconst dX10_init_240 rfl rfl ?_
  refine N_putI (ci := 10) (j := 17) (a := 0) (y := 0) cl10 rfl rfl (Or.inl rfl) fw_X10_104 rfl rfl rfl dX10_init_241 rfl ?_
  exact N_vret rfl dX10_init_244 rfl rfl
def mN_70 (μ : Mm) : Mm := (sM (sM (sM (sM (sM (sM (sM (sM (sM (sM (sM (sM (sM (sM (sM (sM (sM (sM (sM (sM (sM (sM (sM (sM (sM (sM (sM (sM (sM μ 70 1 72) 70 6 73) 70 7 74) 70 8 75) 70 9 76) 70 10 77) 70 11 78) 70 12 79) 70 15 80) 70 16 81) 70 17 82) 70 22 83) 70 25 84) 70 26 85) 70 27 86) 70 29 87) 70 30 (1)) 70 32 (-1)) 70 33 88) 70 34 89) 70 35 90) 70 36 91) 70 39 92) 70 40 93) 70 43 94) 70 44 95) 70 48 96) 70 49 97) 70 50 98)
set_option maxRecDepth 20000 in
theorem kN_70 (μ : Mm) : CN 2 mX11_init [vR 70] 71 μ 98 (mN_70 μ) := by
  refine N_enter rfl (by decide +kernel) (by decide) ?_
  refine N_aload_n (i := 0) dX11_init_0 rfl rfl rfl ?_
  refine N_obj ob_X11_3 dX11_init_1 (by decide) rfl rfl ?_
  refine N_aload_n (i := 0) dX11_init_4 rfl rfl rfl ?_
  refine N_sipush dX11_init_5 rfl rfl rfl ?_
  refine N_newarr (N := 160) (n := 71) rfl rfl nai (by decide) (by decide) dX11_init_8 rfl ?_
  refine N_putR (ci := 11) (j := 1) (a := 70) (t := 71) (x := 0) (y := 1) cl11 rfl rfl rfl (Or.inr ⟨rfl, rfl⟩) fw_X11_9 rfl rfl rfl rfl dX11_init_10 rfl ?_
  refine N_aload_n (i := 0) dX11_init_13 rfl rfl rfl ?_
  refine N_sipush dX11_init_14 rfl rfl rfl ?_
  refine N_newarr (N := 1700) (n := 72) rfl rfl nai (by decide) (by decide) dX11_init_17 rfl ?_
  refine N_putR (ci := 11) (j := 6) (a := 70) (t := 72) (x := 0) (y := 2) cl11 rfl rfl rfl (Or.inr ⟨rfl, rfl⟩) fw_X11_13 rfl rfl rfl rfl dX11_init_19 rfl ?_
  refine N_aload_n (i := 0) dX11_init_22 rfl rfl rfl ?_
  refine N_sipush dX11_init_23 rfl rfl rfl ?_
  refine N_newarr (N := 1700) (n := 73) rfl rfl nai (by decide) (by decide) dX11_init_26 rfl ?_
  refine N_putR (ci := 11) (j := 7) (a := 70) (t := 73) (x := 0) (y := 3) cl11 rfl rfl rfl (Or.inr ⟨rfl, rfl⟩) fw_X11_16 rfl rfl rfl rfl dX11_init_28 rfl ?_
  refine N_aload_n (i := 0) dX11_init_31 rfl rfl rfl ?_
  refine N_iconst dX11_init_32 rfl rfl ?_
  refine N_newarr (N := 5) (n := 74) rfl rfl nai (by decide) (by decide) dX11_init_33 rfl ?_
  refine N_putR (ci := 11) (j := 8) (a := 70) (t := 74) (x := 0) (y := 4) cl11 rfl rfl rfl (Or.inr ⟨rfl, rfl⟩) fw_X11_19 rfl rfl rfl rfl dX11_init_35 rfl ?_
  refine N_aload_n (i := 0) dX11_init_38 rfl rfl rfl ?_
  refine N_iconst dX11_init_39 rfl rfl ?_
  refine N_newarr (N := 5) (n := 75) rfl rfl nai (by decide) (by decide) dX11_init_40 rfl ?_
  refine N_putR (ci := 11) (j := 9) (a := 70) (t := 75) (x := 0) (y := 5) cl11 rfl rfl rfl (Or.inr ⟨rfl, rfl⟩) fw_X11_22 rfl rfl rfl rfl dX11_init_42 rfl ?_
  refine N_aload_n (i := 0) dX11_init_45 rfl rfl rfl ?_
  refine N_sipush dX11_init_46 rfl rfl rfl ?_
  refine N_newarr (N := 450) (n := 76) rfl rfl nai (by decide) (by decide) dX11_init_49 rfl ?_
  refine N_putR (ci := 11) (j := 10) (a := 70) (t := 76) (x := 0) (y := 6) cl11 rfl rfl rfl (Or.inr ⟨rfl, rfl⟩) fw_X11_25 rfl rfl rfl rfl dX11_init_51 rfl ?_
  refine N_aload_n (i := 0) dX11_init_54 rfl rfl rfl ?_
  refine N_sipush dX11_init_55 rfl rfl rfl ?_
  refine N_newarr (N := 450) (n := 77) rfl rfl nai (by decide) (by decide) dX11_init_58 rfl ?_
  refine N_putR (ci := 11) (j := 11) (a := 70) (t := 77) (x := 0) (y := 7) cl11 rfl rfl rfl (Or.inr ⟨rfl, rfl⟩) fw_X11_28 rfl rfl rfl rfl dX11_init_60 rfl ?_
  refine N_aload_n (i := 0) dX11_init_63 rfl rfl rfl ?_
  refine N_sipush dX11_init_64 rfl rfl rfl ?_
  refine N_newarr (N := 450) (n := 78) rfl rfl nai (by decide) (by decide) dX11_init_67 rfl ?_
  refine N_putR (ci := 11) (j := 12) (a := 70) (t := 78) (x := 0) (y := 8) cl11 rfl rfl rfl (Or.inr ⟨rfl, rfl⟩) fw_X11_31 rfl rfl rfl rfl dX11_init_69 rfl ?_
  refine N_aload_n (i := 0) dX11_init_72 rfl rfl rfl ?_
  refine N_iconst dX11_init_73 rfl rfl ?_
  refine N_newarr (N := 5) (n := 79) rfl rfl nai (by decide) (by decide) dX11_init_74 rfl ?_
  refine N_putR (ci := 11) (j := 15) (a := 70) (t := 79) (x := 0) (y := 9) cl11 rfl rfl rfl (Or.inr ⟨rfl, rfl⟩) fw_X11_34 rfl rfl rfl rfl dX11_init_76 rfl ?_
  refine N_aload_n (i := 0) dX11_init_79 rfl rfl rfl ?_
  refine N_bipush dX11_init_80 rfl rfl rfl ?_
  refine N_newarr (N := 80) (n := 80) rfl rfl nai (by decide) (by decide) dX11_init_82 rfl ?_
  refine N_putR (ci := 11) (j := 16) (a := 70) (t := 80) (x := 0) (y := 10) cl11 rfl rfl rfl (Or.inr ⟨rfl, rfl⟩) fw_X11_37 rfl rfl rfl rfl dX11_init_84 rfl ?_
  refine N_aload_n (i := 0) dX11_init_87 rfl rfl rfl ?_
  refine N_bipush dX11_init_88 rfl rfl rfl ?_
  refine N_newarr (N := 60) (n := 81) rfl rfl nai (by decide) (by decide) dX11_init_90 rfl ?_
  refine N_putR (ci := 11) (j := 17) (a := 70) (t := 81) (x := 0) (y := 11) cl11 rfl rfl rfl (Or.inr ⟨rfl, rfl⟩) fw_X11_40 rfl rfl rfl rfl dX11_init_92 rfl ?_
  refine N_aload_n (i := 0) dX11_init_95 rfl rfl rfl ?_
  refine N_bipush dX11_init_96 rfl rfl rfl ?_
  refine N_newarr (N := 60) (n := 82) rfl rfl nai (by decide) (by decide) dX11_init_98 rfl ?_
  refine N_putR (ci := 11) (j := 22) (a := 70) (t := 82) (x := 0) (y := 12) cl11 rfl rfl rfl (Or.inr ⟨rfl, rfl⟩) fw_X11_43 rfl rfl rfl rfl dX11_init_100 rfl ?_
  refine N_aload_n (i := 0) dX11_init_103 rfl rfl rfl ?_
  refine N_bipush dX11_init_104 rfl rfl rfl ?_
  refine N_newarr (N := 48) (n := 83) rfl rfl nai (by decide) (by decide) dX11_init_106 rfl ?_
  refine N_putR (ci := 11) (j := 25) (a := 70) (t := 83) (x := 0) (y := 13) cl11 rfl rfl rfl (Or.inr ⟨rfl, rfl⟩) fw_X11_46 rfl rfl rfl rfl dX11_init_108 rfl ?_
  refine N_aload_n (i := 0) dX11_init_111 rfl rfl rfl ?_
  refine N_bipush dX11_init_112 rfl rfl rfl ?_
  refine N_newarr (N := 48) (n := 84) rfl rfl nai (by decide) (by decide) dX11_init_114 rfl ?_
  refine N_putR (ci := 11) (j := 26) (a := 70) (t := 84) (x := 0) (y := 14) cl11 rfl rfl rfl (Or.inr ⟨rfl, rfl⟩) fw_X11_49 rfl rfl rfl rfl dX11_init_116 rfl ?_
  refine N_aload_n (i := 0) dX11_init_119 rfl rfl rfl ?_
  refine N_bipush dX11_init_120 rfl rfl rfl ?_
  refine N_newarr (N := 6) (n := 85) rfl rfl nai (by decide) (by decide) dX11_init_122 rfl ?_
  refine N_putR (ci := 11) (j := 27) (a := 70) (t := 85) (x := 0) (y := 15) cl11 rfl rfl rfl (Or.inr ⟨rfl, rfl⟩) fw_X11_52 rfl rfl rfl rfl dX11_init_124 rfl ?_
  refine N_aload_n (i := 0) dX11_init_127 rfl rfl rfl ?_
  refine N_bipush dX11_init_128 rfl rfl rfl ?_
  refine N_newarr (N := 8) (n := 86) rfl rfl nai (by decide) (by decide) dX11_init_130 rfl ?_
  refine N_putR (ci := 11) (j := 29) (a := 70) (t := 86) (x := 0) (y := 16) cl11 rfl rfl rfl (Or.inr ⟨rfl, rfl⟩) fw_X11_55 rfl rfl rfl rfl dX11_init_132 rfl ?_
  refine N_aload_n (i := 0) dX11_init_135 rfl rfl rfl ?_
  refine N_iconst dX11_init_136 rfl rfl ?_
  refine N_putI (ci := 11) (j := 30) (a := 70) (y := 0) cl11 rfl rfl (Or.inl rfl) fw_X11_58 rfl rfl rfl dX11_init_137 rfl ?_
  refine N_aload_n (i := 0) dX11_init_140 rfl rfl rfl ?_
  refine N_iconst dX11_init_141 rfl rfl ?_
  refine N_putI (ci := 11) (j := 32) (a := 70) (y := 0) cl11 rfl rfl (Or.inl rfl) fw_X11_62 rfl rfl rfl dX11_init_142 rfl ?_
  refine N_aload_n (i := 0) dX11_init_145 rfl rfl rfl ?_
  refine N_bipush dX11_init_146 rfl rfl rfl ?_
  refine N_newarr (N := 60) (n := 87) rfl rfl nai (by decide) (by decide) dX11_init_148 rfl ?_
  refine N_putR (ci := 11) (j := 33) (a := 70) (t := 87) (x := 0) (y := 17) cl11 rfl rfl rfl (Or.inr ⟨rfl, rfl⟩) fw_X11_65 rfl rfl rfl rfl dX11_init_150 rfl ?_
  refine N_aload_n (i := 0) dX11_init_153 rfl rfl rfl ?_
  refine N_bipush dX11_init_154 rfl rfl rfl ?_
  refine N_newarr (N := 8) (n := 88) rfl rfl nai (by decide) (by decide) dX11_init_156 rfl ?_
  refine N_putR (ci := 11) (j := 34) (a := 70) (t := 88) (x := 0) (y := 18) cl11 rfl rfl rfl (Or.inr ⟨rfl, rfl⟩) fw_X11_68 rfl rfl rfl rfl dX11_init_158 rfl ?_
  refine N_aload_n (i := 0) dX11_init_161 rfl rfl rfl ?_
  refine N_bipush dX11_init_162 rfl rfl rfl ?_
  refine N_newarr (N := 72) (n := 89) rfl rfl nai (by decide) (by decide) dX11_init_164 rfl ?_
  refine N_putR (ci := 11) (j := 35) (a := 70) (t := 89) (x := 0) (y := 19) cl11 rfl rfl rfl (Or.inr ⟨rfl, rfl⟩) fw_X11_71 rfl rfl rfl rfl dX11_init_166 rfl ?_
  refine N_aload_n (i := 0) dX11_init_169 rfl rfl rfl ?_
  refine N_bipush dX11_init_170 rfl rfl rfl ?_
  refine N_newarr (N := 8) (n := 90) rfl rfl nai (by decide) (by decide) dX11_init_172 rfl ?_
  refine N_putR (ci := 11) (j := 36) (a := 70) (t := 90) (x := 0) (y := 20) cl11 rfl rfl rfl (Or.inr ⟨rfl, rfl⟩) fw_X11_74 rfl rfl rfl rfl dX11_init_174 rfl ?_
  refine N_aload_n (i := 0) dX11_init_177 rfl rfl rfl ?_
  refine N_bipush dX11_init_178 rfl rfl rfl ?_
  refine N_newarr (N := 8) (n := 91) rfl rfl nai (by decide) (by decide) dX11_init_180 rfl ?_
  refine N_putR (ci := 11) (j := 39) (a := 70) (t := 91) (x := 0) (y := 21) cl11 rfl rfl rfl (Or.inr ⟨rfl, rfl⟩) fw_X11_77 rfl rfl rfl rfl dX11_init_182 rfl ?_
  refine N_aload_n (i := 0) dX11_init_185 rfl rfl rfl ?_
  refine N_bipush dX11_init_186 rfl rfl rfl ?_
  refine N_newarr (N := 8) (n := 92) rfl rfl nai (by decide) (by decide) dX11_init_188 rfl ?_
  refine N_putR (ci := 11) (j := 40) (a := 70) (t := 92) (x := 0) (y := 22) cl11 rfl rfl rfl (Or.inr ⟨rfl, rfl⟩) fw_X11_80 rfl rfl rfl rfl dX11_init_190 rfl ?_
  refine N_aload_n (i := 0) dX11_init_193 rfl rfl rfl ?_
  refine N_bipush dX11_init_194 rfl rfl rfl ?_
  refine N_newarr (N := 10) (n := 93) rfl rfl nai (by decide) (by decide) dX11_init_196 rfl ?_
  refine N_putR (ci := 11) (j := 43) (a := 70) (t := 93) (x := 0) (y := 23) cl11 rfl rfl rfl (Or.inr ⟨rfl, rfl⟩) fw_X11_83 rfl rfl rfl rfl dX11_init_198 rfl ?_
  refine N_aload_n (i := 0) dX11_init_201 rfl rfl rfl ?_
  refine N_bipush dX11_init_202 rfl rfl rfl ?_
  refine N_newarr (N := 10) (n := 94) rfl rfl nai (by decide) (by decide) dX11_init_204 rfl ?_
  refine N_putR (ci := 11) (j := 44) (a := 70) (t := 94) (x := 0) (y := 24) cl11 rfl rfl rfl (Or.inr ⟨rfl, rfl⟩) fw_X11_86 rfl rfl rfl rfl dX11_init_206 rfl ?_
  refine N_aload_n (i := 0) dX11_init_209 rfl rfl rfl ?_
  refine N_sipush dX11_init_210 rfl rfl rfl ?_
  refine N_newarr (N := 256) (n := 95) rfl rfl nai (by decide) (by decide) dX11_init_213 rfl ?_
  refine N_putR (ci := 11) (j := 48) (a := 70) (t := 95) (x := 0) (y := 25) cl11 rfl rfl rfl (Or.inr ⟨rfl, rfl⟩) fw_X11_89 rfl rfl rfl rfl dX11_init_215 rfl ?_
  refine N_aload_n (i := 0) dX11_init_218 rfl rfl rfl ?_
  refine N_bipush dX11_init_219 rfl rfl rfl ?_
  refine N_newarr (N := 60) (n := 96) rfl rfl nai (by decide) (by decide) dX11_init_221 rfl ?_
  refine N_putR (ci := 11) (j := 49) (a := 70) (t := 96) (x := 0) (y := 26) cl11 rfl rfl rfl (Or.inr ⟨rfl, rfl⟩) fw_X11_92 rfl rfl rfl rfl dX11_init_223 rfl ?_
  refine N_aload_n (i := 0) dX11_init_226 rfl rfl rfl ?_
  refine N_bipush dX11_init_227 rfl rfl rfl ?_
  refine N_newarr (N := 8) (n := 97) rfl rfl nai (by decide) (by decide) dX11_init_229 rfl ?_
  refine N_putR (ci := 11) (j := 50) (a := 70) (t := 97) (x := 0) (y := 27) cl11 rfl rfl rfl (Or.inr ⟨rfl, rfl⟩) fw_X11_95 rfl rfl rfl rfl dX11_init_231 rfl ?_
  exact N_vret rfl dX11_init_234 rfl rfl
