abbrev mX11_skip : Mth := (yX11_skip, cX11_skip, 10, some .int)
set_option maxRecDepth 100000 in
theorem mi_X11_skip : Cond.instanceMethod yX11_skip ∈ tG ∧ Cond.selects yX11_skip.cls yX11_skip yX11_skip ∈ tG ∧ Cond.initialized yX11_skip.cls ∈ tG ∧ Cond.code yX11_skip cX11_skip 10 (some .int) ∈ tG ∧ (yX11_skip.cls ≠ "java/lang/invoke/MethodHandle" ∧ yX11_skip.cls ≠ "java/lang/invoke/VarHandle" ∧ (parseMethodDescriptor yX11_skip.desc).map (fun d => d.parameters.length) = some 3) ∧ 10 ≤ 60 := ⟨(tG_of (tb7 (List.mem_of_getElem? (i := 113) rfl)) (by decide +kernel)), (tG_of (tb7 (List.mem_of_getElem? (i := 114) rfl)) (by decide +kernel)), (tG_of (tb1 (List.mem_of_getElem? (i := 12) rfl)) (by decide +kernel)), (tG_of (tb7 (List.mem_of_getElem? (i := 115) rfl)) (by decide +kernel)), ⟨by decide, by decide, by decide +kernel⟩, by decide⟩
theorem dX11_skip_0 : decode cX11_skip 0 = .ok (.aload_n 0, 1) := dc_42 (byA eNcX11_skip (p := 0) (v := 42) (by decide +kernel))
theorem dX11_skip_1 : decode cX11_skip 1 = .ok (.iload_n 1, 1) := dc_27 (byA eNcX11_skip (p := 1) (v := 27) (by decide +kernel))
theorem dX11_skip_2 : decode cX11_skip 2 = .ok (.invokevirtual 335, 3) := dc_182 (byA eNcX11_skip (p := 2) (v := 182) (by decide +kernel)) (byA eNcX11_skip (p := 3) (v := 1) (by decide +kernel)) (byA eNcX11_skip (p := 4) (v := 79) (by decide +kernel)) rfl
theorem dX11_skip_5 : decode cX11_skip 5 = .ok (.ifCond .eq 31, 3) := dc_153 (byA eNcX11_skip (p := 5) (v := 153) (by decide +kernel)) (byA eNcX11_skip (p := 6) (v := 0) (by decide +kernel)) (byA eNcX11_skip (p := 7) (v := 31) (by decide +kernel)) (by decide +kernel)
theorem dX11_skip_8 : decode cX11_skip 8 = .ok (.iload_n 2, 1) := dc_28 (byA eNcX11_skip (p := 8) (v := 28) (by decide +kernel))
theorem dX11_skip_9 : decode cX11_skip 9 = .ok (.iconst 1, 1) := dc_4 (byA eNcX11_skip (p := 9) (v := 4) (by decide +kernel))
theorem dX11_skip_10 : decode cX11_skip 10 = .ok (.aload_n 0, 1) := dc_42 (byA eNcX11_skip (p := 10) (v := 42) (by decide +kernel))
theorem dX11_skip_11 : decode cX11_skip 11 = .ok (.getfield 316, 3) := dc_180 (byA eNcX11_skip (p := 11) (v := 180) (by decide +kernel)) (byA eNcX11_skip (p := 12) (v := 1) (by decide +kernel)) (byA eNcX11_skip (p := 13) (v := 60) (by decide +kernel)) rfl
theorem dX11_skip_14 : decode cX11_skip 14 = .ok (.iconst 1, 1) := dc_4 (byA eNcX11_skip (p := 14) (v := 4) (by decide +kernel))
theorem dX11_skip_15 : decode cX11_skip 15 = .ok (.isub, 1) := dc_100 (byA eNcX11_skip (p := 15) (v := 100) (by decide +kernel))
theorem dX11_skip_16 : decode cX11_skip 16 = .ok (.invokestatic 213, 3) := dc_184 (byA eNcX11_skip (p := 16) (v := 184) (by decide +kernel)) (byA eNcX11_skip (p := 17) (v := 0) (by decide +kernel)) (byA eNcX11_skip (p := 18) (v := 213) (by decide +kernel)) rfl
theorem dX11_skip_19 : decode cX11_skip 19 = .ok (.ifCond .eq 17, 3) := dc_153 (byA eNcX11_skip (p := 19) (v := 153) (by decide +kernel)) (byA eNcX11_skip (p := 20) (v := 0) (by decide +kernel)) (byA eNcX11_skip (p := 21) (v := 17) (by decide +kernel)) (by decide +kernel)
theorem dX11_skip_22 : decode cX11_skip 22 = .ok (.iload_n 3, 1) := dc_29 (byA eNcX11_skip (p := 22) (v := 29) (by decide +kernel))
theorem dX11_skip_23 : decode cX11_skip 23 = .ok (.iload_n 2, 1) := dc_28 (byA eNcX11_skip (p := 23) (v := 28) (by decide +kernel))
theorem dX11_skip_24 : decode cX11_skip 24 = .ok (.aload_n 0, 1) := dc_42 (byA eNcX11_skip (p := 24) (v := 42) (by decide +kernel))
theorem dX11_skip_25 : decode cX11_skip 25 = .ok (.getfield 316, 3) := dc_180 (byA eNcX11_skip (p := 25) (v := 180) (by decide +kernel)) (byA eNcX11_skip (p := 26) (v := 1) (by decide +kernel)) (byA eNcX11_skip (p := 27) (v := 60) (by decide +kernel)) rfl
theorem dX11_skip_28 : decode cX11_skip 28 = .ok (.iconst 1, 1) := dc_4 (byA eNcX11_skip (p := 28) (v := 4) (by decide +kernel))
theorem dX11_skip_29 : decode cX11_skip 29 = .ok (.isub, 1) := dc_100 (byA eNcX11_skip (p := 29) (v := 100) (by decide +kernel))
theorem dX11_skip_30 : decode cX11_skip 30 = .ok (.invokestatic 213, 3) := dc_184 (byA eNcX11_skip (p := 30) (v := 184) (by decide +kernel)) (byA eNcX11_skip (p := 31) (v := 0) (by decide +kernel)) (byA eNcX11_skip (p := 32) (v := 213) (by decide +kernel)) rfl
theorem dX11_skip_33 : decode cX11_skip 33 = .ok (.ifCond .ne 5, 3) := dc_154 (byA eNcX11_skip (p := 33) (v := 154) (by decide +kernel)) (byA eNcX11_skip (p := 34) (v := 0) (by decide +kernel)) (byA eNcX11_skip (p := 35) (v := 5) (by decide +kernel)) (by decide +kernel)
theorem dX11_skip_36 : decode cX11_skip 36 = .ok (.iconst (-1), 1) := dc_2 (byA eNcX11_skip (p := 36) (v := 2) (by decide +kernel))
theorem dX11_skip_37 : decode cX11_skip 37 = .ok (.ireturn, 1) := dc_172 (byA eNcX11_skip (p := 37) (v := 172) (by decide +kernel))
theorem dX11_skip_38 : decode cX11_skip 38 = .ok (.aload_n 0, 1) := dc_42 (byA eNcX11_skip (p := 38) (v := 42) (by decide +kernel))
theorem dX11_skip_39 : decode cX11_skip 39 = .ok (.getfield 68, 3) := dc_180 (byA eNcX11_skip (p := 39) (v := 180) (by decide +kernel)) (byA eNcX11_skip (p := 40) (v := 0) (by decide +kernel)) (byA eNcX11_skip (p := 41) (v := 68) (by decide +kernel)) rfl
theorem dX11_skip_42 : decode cX11_skip 42 = .ok (.iload_n 3, 1) := dc_29 (byA eNcX11_skip (p := 42) (v := 29) (by decide +kernel))
theorem dX11_skip_43 : decode cX11_skip 43 = .ok (.iaload, 1) := dc_46 (byA eNcX11_skip (p := 43) (v := 46) (by decide +kernel))
theorem dX11_skip_44 : decode cX11_skip 44 = .ok (.aload_n 0, 1) := dc_42 (byA eNcX11_skip (p := 44) (v := 42) (by decide +kernel))
theorem dX11_skip_45 : decode cX11_skip 45 = .ok (.getfield 68, 3) := dc_180 (byA eNcX11_skip (p := 45) (v := 180) (by decide +kernel)) (byA eNcX11_skip (p := 46) (v := 0) (by decide +kernel)) (byA eNcX11_skip (p := 47) (v := 68) (by decide +kernel)) rfl
theorem dX11_skip_48 : decode cX11_skip 48 = .ok (.iload_n 2, 1) := dc_28 (byA eNcX11_skip (p := 48) (v := 28) (by decide +kernel))
theorem dX11_skip_49 : decode cX11_skip 49 = .ok (.iconst 1, 1) := dc_4 (byA eNcX11_skip (p := 49) (v := 4) (by decide +kernel))
theorem dX11_skip_50 : decode cX11_skip 50 = .ok (.isub, 1) := dc_100 (byA eNcX11_skip (p := 50) (v := 100) (by decide +kernel))
theorem dX11_skip_51 : decode cX11_skip 51 = .ok (.iaload, 1) := dc_46 (byA eNcX11_skip (p := 51) (v := 46) (by decide +kernel))
theorem dX11_skip_52 : decode cX11_skip 52 = .ok (.isub, 1) := dc_100 (byA eNcX11_skip (p := 52) (v := 100) (by decide +kernel))
theorem dX11_skip_53 : decode cX11_skip 53 = .ok (.istore 4, 2) := dc_54 (byA eNcX11_skip (p := 53) (v := 54) (by decide +kernel)) (byA eNcX11_skip (p := 54) (v := 4) (by decide +kernel))
theorem dX11_skip_55 : decode cX11_skip 55 = .ok (.aload_n 0, 1) := dc_42 (byA eNcX11_skip (p := 55) (v := 42) (by decide +kernel))
theorem dX11_skip_56 : decode cX11_skip 56 = .ok (.getfield 316, 3) := dc_180 (byA eNcX11_skip (p := 56) (v := 180) (by decide +kernel)) (byA eNcX11_skip (p := 57) (v := 1) (by decide +kernel)) (byA eNcX11_skip (p := 58) (v := 60) (by decide +kernel)) rfl
theorem dX11_skip_59 : decode cX11_skip 59 = .ok (.istore 5, 2) := dc_54 (byA eNcX11_skip (p := 59) (v := 54) (by decide +kernel)) (byA eNcX11_skip (p := 60) (v := 5) (by decide +kernel))
theorem dX11_skip_61 : decode cX11_skip 61 = .ok (.iconst 0, 1) := dc_3 (byA eNcX11_skip (p := 61) (v := 3) (by decide +kernel))
theorem dX11_skip_62 : decode cX11_skip 62 = .ok (.istore 6, 2) := dc_54 (byA eNcX11_skip (p := 62) (v := 54) (by decide +kernel)) (byA eNcX11_skip (p := 63) (v := 6) (by decide +kernel))
theorem dX11_skip_64 : decode cX11_skip 64 = .ok (.iconst 0, 1) := dc_3 (byA eNcX11_skip (p := 64) (v := 3) (by decide +kernel))
theorem dX11_skip_65 : decode cX11_skip 65 = .ok (.istore 7, 2) := dc_54 (byA eNcX11_skip (p := 65) (v := 54) (by decide +kernel)) (byA eNcX11_skip (p := 66) (v := 7) (by decide +kernel))
theorem dX11_skip_67 : decode cX11_skip 67 = .ok (.iconst 0, 1) := dc_3 (byA eNcX11_skip (p := 67) (v := 3) (by decide +kernel))
theorem dX11_skip_68 : decode cX11_skip 68 = .ok (.istore 8, 2) := dc_54 (byA eNcX11_skip (p := 68) (v := 54) (by decide +kernel)) (byA eNcX11_skip (p := 69) (v := 8) (by decide +kernel))
theorem dX11_skip_70 : decode cX11_skip 70 = .ok (.iload 8, 2) := dc_21 (byA eNcX11_skip (p := 70) (v := 21) (by decide +kernel)) (byA eNcX11_skip (p := 71) (v := 8) (by decide +kernel))
theorem dX11_skip_72 : decode cX11_skip 72 = .ok (.aload_n 0, 1) := dc_42 (byA eNcX11_skip (p := 72) (v := 42) (by decide +kernel))
theorem dX11_skip_73 : decode cX11_skip 73 = .ok (.getfield 316, 3) := dc_180 (byA eNcX11_skip (p := 73) (v := 180) (by decide +kernel)) (byA eNcX11_skip (p := 74) (v := 1) (by decide +kernel)) (byA eNcX11_skip (p := 75) (v := 60) (by decide +kernel)) rfl
theorem dX11_skip_76 : decode cX11_skip 76 = .ok (.if_icmp .ge 118, 3) := dc_162 (byA eNcX11_skip (p := 76) (v := 162) (by decide +kernel)) (byA eNcX11_skip (p := 77) (v := 0) (by decide +kernel)) (byA eNcX11_skip (p := 78) (v := 118) (by decide +kernel)) (by decide +kernel)
theorem dX11_skip_79 : decode cX11_skip 79 = .ok (.iload 8, 2) := dc_21 (byA eNcX11_skip (p := 79) (v := 21) (by decide +kernel)) (byA eNcX11_skip (p := 80) (v := 8) (by decide +kernel))
theorem dX11_skip_81 : decode cX11_skip 81 = .ok (.iload_n 2, 1) := dc_28 (byA eNcX11_skip (p := 81) (v := 28) (by decide +kernel))
theorem dX11_skip_82 : decode cX11_skip 82 = .ok (.if_icmp .lt 9, 3) := dc_161 (byA eNcX11_skip (p := 82) (v := 161) (by decide +kernel)) (byA eNcX11_skip (p := 83) (v := 0) (by decide +kernel)) (byA eNcX11_skip (p := 84) (v := 9) (by decide +kernel)) (by decide +kernel)
theorem dX11_skip_85 : decode cX11_skip 85 = .ok (.iload 8, 2) := dc_21 (byA eNcX11_skip (p := 85) (v := 21) (by decide +kernel)) (byA eNcX11_skip (p := 86) (v := 8) (by decide +kernel))
theorem dX11_skip_87 : decode cX11_skip 87 = .ok (.iload_n 3, 1) := dc_29 (byA eNcX11_skip (p := 87) (v := 29) (by decide +kernel))
theorem dX11_skip_88 : decode cX11_skip 88 = .ok (.if_icmp .le 100, 3) := dc_164 (byA eNcX11_skip (p := 88) (v := 164) (by decide +kernel)) (byA eNcX11_skip (p := 89) (v := 0) (by decide +kernel)) (byA eNcX11_skip (p := 90) (v := 100) (by decide +kernel)) (by decide +kernel)
theorem dX11_skip_91 : decode cX11_skip 91 = .ok (.aload_n 0, 1) := dc_42 (byA eNcX11_skip (p := 91) (v := 42) (by decide +kernel))
theorem dX11_skip_92 : decode cX11_skip 92 = .ok (.getfield 71, 3) := dc_180 (byA eNcX11_skip (p := 92) (v := 180) (by decide +kernel)) (byA eNcX11_skip (p := 93) (v := 0) (by decide +kernel)) (byA eNcX11_skip (p := 94) (v := 71) (by decide +kernel)) rfl
theorem dX11_skip_95 : decode cX11_skip 95 = .ok (.bipush 8, 2) := dc_16 (byA eNcX11_skip (p := 95) (v := 16) (by decide +kernel)) (byA eNcX11_skip (p := 96) (v := 8) (by decide +kernel)) (by decide +kernel)
theorem dX11_skip_97 : decode cX11_skip 97 = .ok (.iload 5, 2) := dc_21 (byA eNcX11_skip (p := 97) (v := 21) (by decide +kernel)) (byA eNcX11_skip (p := 98) (v := 5) (by decide +kernel))
theorem dX11_skip_99 : decode cX11_skip 99 = .ok (.imul, 1) := dc_104 (byA eNcX11_skip (p := 99) (v := 104) (by decide +kernel))
theorem dX11_skip_100 : decode cX11_skip 100 = .ok (.iload 8, 2) := dc_21 (byA eNcX11_skip (p := 100) (v := 21) (by decide +kernel)) (byA eNcX11_skip (p := 101) (v := 8) (by decide +kernel))
theorem dX11_skip_102 : decode cX11_skip 102 = .ok (.iadd, 1) := dc_96 (byA eNcX11_skip (p := 102) (v := 96) (by decide +kernel))
theorem dX11_skip_103 : decode cX11_skip 103 = .ok (.iaload, 1) := dc_46 (byA eNcX11_skip (p := 103) (v := 46) (by decide +kernel))
theorem dX11_skip_104 : decode cX11_skip 104 = .ok (.iconst (-1), 1) := dc_2 (byA eNcX11_skip (p := 104) (v := 2) (by decide +kernel))
theorem dX11_skip_105 : decode cX11_skip 105 = .ok (.if_icmp .ne 5, 3) := dc_160 (byA eNcX11_skip (p := 105) (v := 160) (by decide +kernel)) (byA eNcX11_skip (p := 106) (v := 0) (by decide +kernel)) (byA eNcX11_skip (p := 107) (v := 5) (by decide +kernel)) (by decide +kernel)
theorem dX11_skip_108 : decode cX11_skip 108 = .ok (.iconst (-1), 1) := dc_2 (byA eNcX11_skip (p := 108) (v := 2) (by decide +kernel))
theorem dX11_skip_109 : decode cX11_skip 109 = .ok (.ireturn, 1) := dc_172 (byA eNcX11_skip (p := 109) (v := 172) (by decide +kernel))
theorem dX11_skip_110 : decode cX11_skip 110 = .ok (.iload 8, 2) := dc_21 (byA eNcX11_skip (p := 110) (v := 21) (by decide +kernel)) (byA eNcX11_skip (p := 111) (v := 8) (by decide +kernel))
theorem dX11_skip_112 : decode cX11_skip 112 = .ok (.iload_n 3, 1) := dc_29 (byA eNcX11_skip (p := 112) (v := 29) (by decide +kernel))
theorem dX11_skip_113 : decode cX11_skip 113 = .ok (.if_icmp .le 16, 3) := dc_164 (byA eNcX11_skip (p := 113) (v := 164) (by decide +kernel)) (byA eNcX11_skip (p := 114) (v := 0) (by decide +kernel)) (byA eNcX11_skip (p := 115) (v := 16) (by decide +kernel)) (by decide +kernel)
theorem dX11_skip_116 : decode cX11_skip 116 = .ok (.aload_n 0, 1) := dc_42 (byA eNcX11_skip (p := 116) (v := 42) (by decide +kernel))
theorem dX11_skip_117 : decode cX11_skip 117 = .ok (.getfield 68, 3) := dc_180 (byA eNcX11_skip (p := 117) (v := 180) (by decide +kernel)) (byA eNcX11_skip (p := 118) (v := 0) (by decide +kernel)) (byA eNcX11_skip (p := 119) (v := 68) (by decide +kernel)) rfl
theorem dX11_skip_120 : decode cX11_skip 120 = .ok (.iload 8, 2) := dc_21 (byA eNcX11_skip (p := 120) (v := 21) (by decide +kernel)) (byA eNcX11_skip (p := 121) (v := 8) (by decide +kernel))
theorem dX11_skip_122 : decode cX11_skip 122 = .ok (.iaload, 1) := dc_46 (byA eNcX11_skip (p := 122) (v := 46) (by decide +kernel))
theorem dX11_skip_123 : decode cX11_skip 123 = .ok (.iload 4, 2) := dc_21 (byA eNcX11_skip (p := 123) (v := 21) (by decide +kernel)) (byA eNcX11_skip (p := 124) (v := 4) (by decide +kernel))
theorem dX11_skip_125 : decode cX11_skip 125 = .ok (.isub, 1) := dc_100 (byA eNcX11_skip (p := 125) (v := 100) (by decide +kernel))
theorem dX11_skip_126 : decode cX11_skip 126 = .ok (.goto 10, 3) := dc_167 (byA eNcX11_skip (p := 126) (v := 167) (by decide +kernel)) (byA eNcX11_skip (p := 127) (v := 0) (by decide +kernel)) (byA eNcX11_skip (p := 128) (v := 10) (by decide +kernel)) (by decide +kernel)
theorem dX11_skip_129 : decode cX11_skip 129 = .ok (.aload_n 0, 1) := dc_42 (byA eNcX11_skip (p := 129) (v := 42) (by decide +kernel))
theorem dX11_skip_130 : decode cX11_skip 130 = .ok (.getfield 68, 3) := dc_180 (byA eNcX11_skip (p := 130) (v := 180) (by decide +kernel)) (byA eNcX11_skip (p := 131) (v := 0) (by decide +kernel)) (byA eNcX11_skip (p := 132) (v := 68) (by decide +kernel)) rfl
theorem dX11_skip_133 : decode cX11_skip 133 = .ok (.iload 8, 2) := dc_21 (byA eNcX11_skip (p := 133) (v := 21) (by decide +kernel)) (byA eNcX11_skip (p := 134) (v := 8) (by decide +kernel))
theorem dX11_skip_135 : decode cX11_skip 135 = .ok (.iaload, 1) := dc_46 (byA eNcX11_skip (p := 135) (v := 46) (by decide +kernel))
theorem dX11_skip_136 : decode cX11_skip 136 = .ok (.istore 9, 2) := dc_54 (byA eNcX11_skip (p := 136) (v := 54) (by decide +kernel)) (byA eNcX11_skip (p := 137) (v := 9) (by decide +kernel))
theorem dX11_skip_138 : decode cX11_skip 138 = .ok (.iload 6, 2) := dc_21 (byA eNcX11_skip (p := 138) (v := 21) (by decide +kernel)) (byA eNcX11_skip (p := 139) (v := 6) (by decide +kernel))
theorem dX11_skip_140 : decode cX11_skip 140 = .ok (.aload_n 0, 1) := dc_42 (byA eNcX11_skip (p := 140) (v := 42) (by decide +kernel))
theorem dX11_skip_141 : decode cX11_skip 141 = .ok (.getfield 71, 3) := dc_180 (byA eNcX11_skip (p := 141) (v := 180) (by decide +kernel)) (byA eNcX11_skip (p := 142) (v := 0) (by decide +kernel)) (byA eNcX11_skip (p := 143) (v := 71) (by decide +kernel)) rfl
theorem dX11_skip_144 : decode cX11_skip 144 = .ok (.bipush 8, 2) := dc_16 (byA eNcX11_skip (p := 144) (v := 16) (by decide +kernel)) (byA eNcX11_skip (p := 145) (v := 8) (by decide +kernel)) (by decide +kernel)
theorem dX11_skip_146 : decode cX11_skip 146 = .ok (.iload 5, 2) := dc_21 (byA eNcX11_skip (p := 146) (v := 21) (by decide +kernel)) (byA eNcX11_skip (p := 147) (v := 5) (by decide +kernel))
theorem dX11_skip_148 : decode cX11_skip 148 = .ok (.imul, 1) := dc_104 (byA eNcX11_skip (p := 148) (v := 104) (by decide +kernel))
theorem dX11_skip_149 : decode cX11_skip 149 = .ok (.iload 8, 2) := dc_21 (byA eNcX11_skip (p := 149) (v := 21) (by decide +kernel)) (byA eNcX11_skip (p := 150) (v := 8) (by decide +kernel))
theorem dX11_skip_151 : decode cX11_skip 151 = .ok (.iadd, 1) := dc_96 (byA eNcX11_skip (p := 151) (v := 96) (by decide +kernel))
theorem dX11_skip_152 : decode cX11_skip 152 = .ok (.iaload, 1) := dc_46 (byA eNcX11_skip (p := 152) (v := 46) (by decide +kernel))
theorem dX11_skip_153 : decode cX11_skip 153 = .ok (.aload_n 0, 1) := dc_42 (byA eNcX11_skip (p := 153) (v := 42) (by decide +kernel))
theorem dX11_skip_154 : decode cX11_skip 154 = .ok (.getfield 319, 3) := dc_180 (byA eNcX11_skip (p := 154) (v := 180) (by decide +kernel)) (byA eNcX11_skip (p := 155) (v := 1) (by decide +kernel)) (byA eNcX11_skip (p := 156) (v := 63) (by decide +kernel)) rfl
theorem dX11_skip_157 : decode cX11_skip 157 = .ok (.imul, 1) := dc_104 (byA eNcX11_skip (p := 157) (v := 104) (by decide +kernel))
theorem dX11_skip_158 : decode cX11_skip 158 = .ok (.iadd, 1) := dc_96 (byA eNcX11_skip (p := 158) (v := 96) (by decide +kernel))
theorem dX11_skip_159 : decode cX11_skip 159 = .ok (.aload_n 0, 1) := dc_42 (byA eNcX11_skip (p := 159) (v := 42) (by decide +kernel))
theorem dX11_skip_160 : decode cX11_skip 160 = .ok (.getfield 74, 3) := dc_180 (byA eNcX11_skip (p := 160) (v := 180) (by decide +kernel)) (byA eNcX11_skip (p := 161) (v := 0) (by decide +kernel)) (byA eNcX11_skip (p := 162) (v := 74) (by decide +kernel)) rfl
theorem dX11_skip_163 : decode cX11_skip 163 = .ok (.iload 8, 2) := dc_21 (byA eNcX11_skip (p := 163) (v := 21) (by decide +kernel)) (byA eNcX11_skip (p := 164) (v := 8) (by decide +kernel))
theorem dX11_skip_165 : decode cX11_skip 165 = .ok (.iaload, 1) := dc_46 (byA eNcX11_skip (p := 165) (v := 46) (by decide +kernel))
theorem dX11_skip_166 : decode cX11_skip 166 = .ok (.iadd, 1) := dc_96 (byA eNcX11_skip (p := 166) (v := 96) (by decide +kernel))
theorem dX11_skip_167 : decode cX11_skip 167 = .ok (.iload 9, 2) := dc_21 (byA eNcX11_skip (p := 167) (v := 21) (by decide +kernel)) (byA eNcX11_skip (p := 168) (v := 9) (by decide +kernel))
theorem dX11_skip_169 : decode cX11_skip 169 = .ok (.invokestatic 302, 3) := dc_184 (byA eNcX11_skip (p := 169) (v := 184) (by decide +kernel)) (byA eNcX11_skip (p := 170) (v := 1) (by decide +kernel)) (byA eNcX11_skip (p := 171) (v := 46) (by decide +kernel)) rfl
theorem dX11_skip_172 : decode cX11_skip 172 = .ok (.istore 6, 2) := dc_54 (byA eNcX11_skip (p := 172) (v := 54) (by decide +kernel)) (byA eNcX11_skip (p := 173) (v := 6) (by decide +kernel))
theorem dX11_skip_174 : decode cX11_skip 174 = .ok (.iload 7, 2) := dc_21 (byA eNcX11_skip (p := 174) (v := 21) (by decide +kernel)) (byA eNcX11_skip (p := 175) (v := 7) (by decide +kernel))
theorem dX11_skip_176 : decode cX11_skip 176 = .ok (.iload 6, 2) := dc_21 (byA eNcX11_skip (p := 176) (v := 21) (by decide +kernel)) (byA eNcX11_skip (p := 177) (v := 6) (by decide +kernel))
theorem dX11_skip_178 : decode cX11_skip 178 = .ok (.iload 9, 2) := dc_21 (byA eNcX11_skip (p := 178) (v := 21) (by decide +kernel)) (byA eNcX11_skip (p := 179) (v := 9) (by decide +kernel))
theorem dX11_skip_180 : decode cX11_skip 180 = .ok (.isub, 1) := dc_100 (byA eNcX11_skip (p := 180) (v := 100) (by decide +kernel))
theorem dX11_skip_181 : decode cX11_skip 181 = .ok (.iadd, 1) := dc_96 (byA eNcX11_skip (p := 181) (v := 96) (by decide +kernel))
theorem dX11_skip_182 : decode cX11_skip 182 = .ok (.istore 7, 2) := dc_54 (byA eNcX11_skip (p := 182) (v := 54) (by decide +kernel)) (byA eNcX11_skip (p := 183) (v := 7) (by decide +kernel))
theorem dX11_skip_184 : decode cX11_skip 184 = .ok (.iload 8, 2) := dc_21 (byA eNcX11_skip (p := 184) (v := 21) (by decide +kernel)) (byA eNcX11_skip (p := 185) (v := 8) (by decide +kernel))
theorem dX11_skip_186 : decode cX11_skip 186 = .ok (.istore 5, 2) := dc_54 (byA eNcX11_skip (p := 186) (v := 54) (by decide +kernel)) (byA eNcX11_skip (p := 187) (v := 5) (by decide +kernel))
theorem dX11_skip_188 : decode cX11_skip 188 = .ok (.iinc 8 1, 3) := dc_132 (byA eNcX11_skip (p := 188) (v := 132) (by decide +kernel)) (byA eNcX11_skip (p := 189) (v := 8) (by decide +kernel)) (byA eNcX11_skip (p := 190) (v := 1) (by decide +kernel)) (by decide +kernel)
theorem dX11_skip_191 : decode cX11_skip 191 = .ok (.goto (-121), 3) := dc_167 (byA eNcX11_skip (p := 191) (v := 167) (by decide +kernel)) (byA eNcX11_skip (p := 192) (v := 255) (by decide +kernel)) (byA eNcX11_skip (p := 193) (v := 135) (by decide +kernel)) (by decide +kernel)
theorem dX11_skip_194 : decode cX11_skip 194 = .ok (.iload 7, 2) := dc_21 (byA eNcX11_skip (p := 194) (v := 21) (by decide +kernel)) (byA eNcX11_skip (p := 195) (v := 7) (by decide +kernel))
theorem dX11_skip_196 : decode cX11_skip 196 = .ok (.ireturn, 1) := dc_172 (byA eNcX11_skip (p := 196) (v := 172) (by decide +kernel))
def X11_skip_J136 (k70 : Int → Int → Int → Int → Mm → Rs) (l2 : Int) (l3 : Int) (l4 : Int) (l5 : Int) (l6 : Int) (l7 : Int) (l8 : Int) (s0 : Int) (μ : Mm) : Rs := ldA μ 89 (iA (iM 8 l5) l8) fun v25 => ldA μ 90 l8 fun v27 => lt_ (mX (iA (iA l6 (iM v25 (μ 70 38))) v27) s0) fun v29 => lt_ (iA l7 (iS v29 s0)) fun v30 => k70 l8 v29 v30 (iA l8 1) μ
def X11_skip_J91 (k70 : Int → Int → Int → Int → Mm → Rs) (l2 : Int) (l3 : Int) (l4 : Int) (l5 : Int) (l6 : Int) (l7 : Int) (l8 : Int) (μ : Mm) : Rs := ldA μ 89 (iA (iM 8 l5) l8) fun v19 => if v19 = (-1) then (some ((-1), μ)) else (if l8 ≤ l3 then (ldA μ 88 l8 fun v23 => X11_skip_J136 (fun w5 w6 w7 w8 μq => k70 w5 w6 w7 w8 μq) l2 l3 l4 l5 l6 l7 l8 v23 μ) else (ldA μ 88 l8 fun v31 => X11_skip_J136 (fun w5 w6 w7 w8 μq => k70 w5 w6 w7 w8 μq) l2 l3 l4 l5 l6 l7 l8 (iS v31 l4) μ))
def X11_skip_L70 (l2 : Int) (l3 : Int) (l4 : Int) : Nat → Int → Int → Int → Int → Mm → Rs
  | 0, _, _, _, _, _ => none
  | n + 1, l5, l6, l7, l8, μ => if (μ 70 37) ≤ l8 then (some (l7, μ)) else (if l8 < l2 then (X11_skip_J91 (fun w5 w6 w7 w8 μq => X11_skip_L70 l2 l3 l4 n w5 w6 w7 w8 μq) l2 l3 l4 l5 l6 l7 l8 μ) else (if l8 ≤ l3 then (X11_skip_L70 l2 l3 l4 n l5 l6 l7 (iA l8 1) μ) else (X11_skip_J91 (fun w5 w6 w7 w8 μq => X11_skip_L70 l2 l3 l4 n w5 w6 w7 w8 μq) l2 l3 l4 l5 l6 l7 l8 μ)))
def X11_skip (l1 : Int) (l2 : Int) (l3 : Int) (μ : Mm) : Rs := bd (X11_isReady l1 μ) fun v1 μ2 => if v1 = 0 then (some ((-1), μ2)) else (bd (X11_in l2 1 (iS (μ2 70 37) 1) μ2) fun v5 μ6 => if v5 = 0 then (some ((-1), μ6)) else (bd (X11_in l3 l2 (iS (μ6 70 37) 1) μ6) fun v9 μ10 => if v9 = 0 then (some ((-1), μ10)) else (ldA μ10 88 l3 fun v13 => ldA μ10 88 (iS l2 1) fun v15 => X11_skip_L70 l2 l3 (iS v13 v15) FU (μ10 70 37) 0 0 0 μ10)))
set_option maxHeartbeats 4000000 in
set_option maxRecDepth 100000 in
theorem kX11_skip_J136 (d : Nat) (hd : 7 ≤ d) {k70 : Int → Int → Int → Int → Mm → Rs} {l2 : Int} {l3 : Int} {l4 : Int} {l5 : Int} {l6 : Int} {l7 : Int} {l8 : Int} {s0 : Int} {μ : Mm} {r : Int} {μ' : Mm} (hk_70 : ∀ (v5 v6 v7 v8 : Int) (μ1 : Mm), k70 v5 v6 v7 v8 μ1 = some (r, μ') → VV d mX11_skip 70 [some (vR 70), none, some (vI l2), some (vI l3), some (vI l4), some (vI v5), some (vI v6), some (vI v7), some (vI v8), none] [] μ1 r μ') (h : X11_skip_J136 k70 l2 l3 l4 l5 l6 l7 l8 s0 μ = some (r, μ')) : VV d mX11_skip 136 [some (vR 70), none, some (vI l2), some (vI l3), some (vI l4), some (vI l5), some (vI l6), some (vI l7), some (vI l8), none] [vI s0] μ r μ' := by
  unfold X11_skip_J136 at h
  refine V_istore (q := 138) dX11_skip_136 (Nat.le_of_ble_eq_true rfl) trivial rfl ?_
  refine V_iload (q := 140) dX11_skip_138 rfl rfl ?_
  refine V_aload_n (q := 141) dX11_skip_140 rfl rfl rfl ?_
  refine V_getO (q := 144) (t := 89) fl_X11_71 rfl rfl rfl rfl dX11_skip_141 rfl ?_
  refine V_bipush (q := 146) dX11_skip_144 rfl rfl rfl ?_
  refine V_iload (q := 148) dX11_skip_146 rfl rfl ?_
  refine V_imul (q := 149) dX11_skip_148 rfl ?_
  refine V_iload (q := 151) dX11_skip_149 rfl rfl ?_
  refine V_iadd (q := 152) dX11_skip_151 rfl ?_
  obtain ⟨hi26, h⟩ := ldA_i h
  refine V_iaload (q := 153) rfl hi26 dX11_skip_152 rfl ?_
  refine V_aload_n (q := 154) dX11_skip_153 rfl rfl rfl ?_
  refine V_getI (q := 157) fl_X11_319 rfl rfl rfl dX11_skip_154 rfl ?_
  refine V_imul (q := 158) dX11_skip_157 rfl ?_
  refine V_iadd (q := 159) dX11_skip_158 rfl ?_
  refine V_aload_n (q := 160) dX11_skip_159 rfl rfl rfl ?_
  refine V_getO (q := 163) (t := 90) fl_X11_74 rfl rfl rfl rfl dX11_skip_160 rfl ?_
  refine V_iload (q := 165) dX11_skip_163 rfl rfl ?_
  obtain ⟨hi28, h⟩ := ldA_i h
  refine V_iaload (q := 166) rfl hi28 dX11_skip_165 rfl ?_
  refine V_iadd (q := 167) dX11_skip_166 rfl ?_
  refine V_iload (q := 169) dX11_skip_167 rfl rfl ?_
  refine V_mmax (q := 172) mx_X11_302 (by omega) rfl dX11_skip_169 rfl ?_
  have h := lt_i h
  refine V_istore (q := 174) dX11_skip_172 (Nat.le_of_ble_eq_true rfl) trivial rfl ?_
  refine V_iload (q := 176) dX11_skip_174 rfl rfl ?_
  refine V_iload (q := 178) dX11_skip_176 rfl rfl ?_
  refine V_iload (q := 180) dX11_skip_178 rfl rfl ?_
  refine V_isub (q := 181) dX11_skip_180 rfl ?_
  refine V_iadd (q := 182) dX11_skip_181 rfl ?_
  have h := lt_i h
  refine V_istore (q := 184) dX11_skip_182 (Nat.le_of_ble_eq_true rfl) trivial rfl ?_
  refine V_iload (q := 186) dX11_skip_184 rfl rfl ?_
  refine V_istore (q := 188) dX11_skip_186 (Nat.le_of_ble_eq_true rfl) trivial rfl ?_
  refine V_iinc (q := 191) dX11_skip_188 rfl (Nat.le_of_ble_eq_true rfl) trivial rfl ?_
  refine V_goto (q := 70) dX11_skip_191 (by decide) ?_
  exact V_weak (hk_70 _ _ _ _ _ h) (sb_s rfl (sb_n (sb_s rfl (sb_s rfl (sb_s rfl (sb_s rfl (sb_s rfl (sb_s rfl (sb_s rfl (sb_n sb_0))))))))))
set_option maxHeartbeats 4000000 in
set_option maxRecDepth 100000 in
theorem kX11_skip_J91 (d : Nat) (hd : 7 ≤ d) {k70 : Int → Int → Int → Int → Mm → Rs} {l2 : Int} {l3 : Int} {l4 : Int} {l5 : Int} {l6 : Int} {l7 : Int} {l8 : Int} {μ : Mm} {r : Int} {μ' : Mm} (hk_70 : ∀ (v5 v6 v7 v8 : Int) (μ1 : Mm), k70 v5 v6 v7 v8 μ1 = some (r, μ') → VV d mX11_skip 70 [some (vR 70), none, some (vI l2), some (vI l3), some (vI l4), some (vI v5), some (vI v6), some (vI v7), some (vI v8), none] [] μ1 r μ') (h : X11_skip_J91 k70 l2 l3 l4 l5 l6 l7 l8 μ = some (r, μ')) : VV d mX11_skip 91 [some (vR 70), none, some (vI l2), some (vI l3), some (vI l4), some (vI l5), some (vI l6), some (vI l7), some (vI l8), none] [] μ r μ' := by
  unfold X11_skip_J91 at h
  refine V_aload_n (q := 92) dX11_skip_91 rfl rfl rfl ?_
  refine V_getO (q := 95) (t := 89) fl_X11_71 rfl rfl rfl rfl dX11_skip_92 rfl ?_
  refine V_bipush (q := 97) dX11_skip_95 rfl rfl rfl ?_
  refine V_iload (q := 99) dX11_skip_97 rfl rfl ?_
  refine V_imul (q := 100) dX11_skip_99 rfl ?_
  refine V_iload (q := 102) dX11_skip_100 rfl rfl ?_
  refine V_iadd (q := 103) dX11_skip_102 rfl ?_
  obtain ⟨hi20, h⟩ := ldA_i h
  refine V_iaload (q := 104) rfl hi20 dX11_skip_103 rfl ?_
  refine V_iconst (q := 105) dX11_skip_104 rfl rfl ?_
  refine V_icmpne (q := 110) (q2 := 108) dX11_skip_105 (by decide) rfl (fun hc21 => ?_) (fun hc21 => ?_)
  · have h := ifF hc21 h
    refine V_iload (q := 112) dX11_skip_110 rfl rfl ?_
    refine V_iload_n (q := 113) dX11_skip_112 rfl rfl rfl ?_
    refine V_icmple (q := 129) (q2 := 116) dX11_skip_113 (by decide) rfl (fun hc22 => ?_) (fun hc22 => ?_)
    · have h := ifT hc22 h
      refine V_aload_n (q := 130) dX11_skip_129 rfl rfl rfl ?_
      refine V_getO (q := 133) (t := 88) fl_X11_68 rfl rfl rfl rfl dX11_skip_130 rfl ?_
      refine V_iload (q := 135) dX11_skip_133 rfl rfl ?_
      obtain ⟨hi24, h⟩ := ldA_i h
      refine V_iaload (q := 136) rfl hi24 dX11_skip_135 rfl ?_
      exact V_weak (kX11_skip_J136 d hd (fun _ _ _ _ _ h => hk_70 _ _ _ _ _ h) h) (sb_s rfl (sb_n (sb_s rfl (sb_s rfl (sb_s rfl (sb_s rfl (sb_s rfl (sb_s rfl (sb_s rfl (sb_n sb_0))))))))))
    · have h := ifF hc22 h
      refine V_aload_n (q := 117) dX11_skip_116 rfl rfl rfl ?_
      refine V_getO (q := 120) (t := 88) fl_X11_68 rfl rfl rfl rfl dX11_skip_117 rfl ?_
      refine V_iload (q := 122) dX11_skip_120 rfl rfl ?_
      obtain ⟨hi32, h⟩ := ldA_i h
      refine V_iaload (q := 123) rfl hi32 dX11_skip_122 rfl ?_
      refine V_iload (q := 125) dX11_skip_123 rfl rfl ?_
      refine V_isub (q := 126) dX11_skip_125 rfl ?_
      refine V_goto (q := 136) dX11_skip_126 (by decide) ?_
      exact V_weak (kX11_skip_J136 d hd (fun _ _ _ _ _ h => hk_70 _ _ _ _ _ h) h) (sb_s rfl (sb_n (sb_s rfl (sb_s rfl (sb_s rfl (sb_s rfl (sb_s rfl (sb_s rfl (sb_s rfl (sb_n sb_0))))))))))
  · have h := ifT hc21 h
    refine V_iconst (q := 109) dX11_skip_108 rfl rfl ?_
    exact V_iret rfl h dX11_skip_109
set_option maxHeartbeats 4000000 in
set_option maxRecDepth 100000 in
theorem kX11_skip_L70 (d : Nat) (hd : 7 ≤ d) {l2 : Int} {l3 : Int} {l4 : Int} {r : Int} {μ' : Mm} : ∀ (n : Nat) {l5 l6 l7 l8 : Int} {μ : Mm}, X11_skip_L70 l2 l3 l4 n l5 l6 l7 l8 μ = some (r, μ') → VV d mX11_skip 70 [some (vR 70), none, some (vI l2), some (vI l3), some (vI l4), some (vI l5), some (vI l6), some (vI l7), some (vI l8), none] [] μ r μ' := by
  intro n
  induction n with
  | zero => intro l5 l6 l7 l8 μ h; rw [X11_skip_L70] at h; cases h
  | succ n ih =>
    intro l5 l6 l7 l8 μ h
    rw [X11_skip_L70] at h
    refine V_iload (q := 72) dX11_skip_70 rfl rfl ?_
    refine V_aload_n (q := 73) dX11_skip_72 rfl rfl rfl ?_
    refine V_getI (q := 76) fl_X11_316 rfl rfl rfl dX11_skip_73 rfl ?_
    refine V_icmpge (q := 194) (q2 := 79) dX11_skip_76 (by decide) rfl (fun hc17 => ?_) (fun hc17 => ?_)
    · have h := ifT hc17 h
      refine V_iload (q := 196) dX11_skip_194 rfl rfl ?_
      exact V_iret rfl h dX11_skip_196
    · have h := ifF hc17 h
      refine V_iload (q := 81) dX11_skip_79 rfl rfl ?_
      refine V_iload_n (q := 82) dX11_skip_81 rfl rfl rfl ?_
      refine V_icmplt (q := 91) (q2 := 85) dX11_skip_82 (by decide) rfl (fun hc18 => ?_) (fun hc18 => ?_)
      · have h := ifT hc18 h
        exact V_weak (kX11_skip_J91 d hd (fun _ _ _ _ _ h => ih h) h) (sb_s rfl (sb_n (sb_s rfl (sb_s rfl (sb_s rfl (sb_s rfl (sb_s rfl (sb_s rfl (sb_s rfl (sb_n sb_0))))))))))
      · have h := ifF hc18 h
        refine V_iload (q := 87) dX11_skip_85 rfl rfl ?_
        refine V_iload_n (q := 88) dX11_skip_87 rfl rfl rfl ?_
        refine V_icmple (q := 188) (q2 := 91) dX11_skip_88 (by decide) rfl (fun hc33 => ?_) (fun hc33 => ?_)
        · have h := ifT hc33 h
          refine V_iinc (q := 191) dX11_skip_188 rfl (Nat.le_of_ble_eq_true rfl) trivial rfl ?_
          refine V_goto (q := 70) dX11_skip_191 (by decide) ?_
          exact V_weak (ih h) (sb_s rfl (sb_n (sb_s rfl (sb_s rfl (sb_s rfl (sb_s rfl (sb_s rfl (sb_s rfl (sb_s rfl (sb_n sb_0))))))))))
        · have h := ifF hc33 h
          exact V_weak (kX11_skip_J91 d hd (fun _ _ _ _ _ h => ih h) h) (sb_s rfl (sb_n (sb_s rfl (sb_s rfl (sb_s rfl (sb_s rfl (sb_s rfl (sb_s rfl (sb_s rfl (sb_n sb_0))))))))))
set_option maxHeartbeats 4000000 in
set_option maxRecDepth 100000 in
theorem kX11_skip (d : Nat) (hd : 7 ≤ d) {l1 : Int} {l2 : Int} {l3 : Int} {μ : Mm} {r : Int} {μ' : Mm} (h : X11_skip l1 l2 l3 μ = some (r, μ')) : CC d mX11_skip [vR 70, vI l1, vI l2, vI l3] μ r μ' := by
  unfold X11_skip at h
  refine V_enter (by decide) (Nat.le_of_ble_eq_true rfl) ?_
  show VV d mX11_skip 0 [some (vR 70), some (vI l1), some (vI l2), some (vI l3), none, none, none, none, none, none] [] μ r μ'
  refine V_aload_n (q := 1) dX11_skip_0 rfl rfl rfl ?_
  refine V_iload_n (q := 2) dX11_skip_1 rfl rfl rfl ?_
  obtain ⟨v1, μ2, hc3, h⟩ := bd_i h
  refine V_cV1 (q := 5) (v := vI v1) (kX11_isReady (d - 1) (by omega) hc3) (by omega) mv_X11_335 rfl rfl rfl rfl rfl rfl dX11_skip_2 rfl ?_
  refine V_ifeq (q := 36) (q2 := 8) dX11_skip_5 (by decide) rfl (fun hc4 => ?_) (fun hc4 => ?_)
  · have h := ifT hc4 h
    refine V_iconst (q := 37) dX11_skip_36 rfl rfl ?_
    exact V_iret rfl h dX11_skip_37
  · have h := ifF hc4 h
    refine V_iload_n (q := 9) dX11_skip_8 rfl rfl rfl ?_
    refine V_iconst (q := 10) dX11_skip_9 rfl rfl ?_
    refine V_aload_n (q := 11) dX11_skip_10 rfl rfl rfl ?_
    refine V_getI (q := 14) fl_X11_316 rfl rfl rfl dX11_skip_11 rfl ?_
    refine V_iconst (q := 15) dX11_skip_14 rfl rfl ?_
    refine V_isub (q := 16) dX11_skip_15 rfl ?_
    obtain ⟨v5, μ6, hc7, h⟩ := bd_i h
    refine V_cS1 (q := 19) (v := vI v5) (kX11_in (d - 1) (by omega) hc7) (by omega) mv_X11_213 rfl rfl rfl rfl dX11_skip_16 rfl ?_
    refine V_ifeq (q := 36) (q2 := 22) dX11_skip_19 (by decide) rfl (fun hc8 => ?_) (fun hc8 => ?_)
    · have h := ifT hc8 h
      refine V_iconst (q := 37) dX11_skip_36 rfl rfl ?_
      exact V_iret rfl h dX11_skip_37
    · have h := ifF hc8 h
      refine V_iload_n (q := 23) dX11_skip_22 rfl rfl rfl ?_
      refine V_iload_n (q := 24) dX11_skip_23 rfl rfl rfl ?_
      refine V_aload_n (q := 25) dX11_skip_24 rfl rfl rfl ?_
      refine V_getI (q := 28) fl_X11_316 rfl rfl rfl dX11_skip_25 rfl ?_
      refine V_iconst (q := 29) dX11_skip_28 rfl rfl ?_
      refine V_isub (q := 30) dX11_skip_29 rfl ?_
      obtain ⟨v9, μ10, hc11, h⟩ := bd_i h
      refine V_cS1 (q := 33) (v := vI v9) (kX11_in (d - 1) (by omega) hc11) (by omega) mv_X11_213 rfl rfl rfl rfl dX11_skip_30 rfl ?_
      refine V_ifne (q := 38) (q2 := 36) dX11_skip_33 (by decide) rfl (fun hc12 => ?_) (fun hc12 => ?_)
      · have h := ifF hc12 h
        refine V_aload_n (q := 39) dX11_skip_38 rfl rfl rfl ?_
        refine V_getO (q := 42) (t := 88) fl_X11_68 rfl rfl rfl rfl dX11_skip_39 rfl ?_
        refine V_iload_n (q := 43) dX11_skip_42 rfl rfl rfl ?_
        obtain ⟨hi14, h⟩ := ldA_i h
        refine V_iaload (q := 44) rfl hi14 dX11_skip_43 rfl ?_
        refine V_aload_n (q := 45) dX11_skip_44 rfl rfl rfl ?_
        refine V_getO (q := 48) (t := 88) fl_X11_68 rfl rfl rfl rfl dX11_skip_45 rfl ?_
        refine V_iload_n (q := 49) dX11_skip_48 rfl rfl rfl ?_
        refine V_iconst (q := 50) dX11_skip_49 rfl rfl ?_
        refine V_isub (q := 51) dX11_skip_50 rfl ?_
        obtain ⟨hi16, h⟩ := ldA_i h
        refine V_iaload (q := 52) rfl hi16 dX11_skip_51 rfl ?_
        refine V_isub (q := 53) dX11_skip_52 rfl ?_
        refine V_istore (q := 55) dX11_skip_53 (Nat.le_of_ble_eq_true rfl) trivial rfl ?_
        refine V_aload_n (q := 56) dX11_skip_55 rfl rfl rfl ?_
        refine V_getI (q := 59) fl_X11_316 rfl rfl rfl dX11_skip_56 rfl ?_
        refine V_istore (q := 61) dX11_skip_59 (Nat.le_of_ble_eq_true rfl) trivial rfl ?_
        refine V_iconst (q := 62) dX11_skip_61 rfl rfl ?_
        refine V_istore (q := 64) dX11_skip_62 (Nat.le_of_ble_eq_true rfl) trivial rfl ?_
        refine V_iconst (q := 65) dX11_skip_64 rfl rfl ?_
        refine V_istore (q := 67) dX11_skip_65 (Nat.le_of_ble_eq_true rfl) trivial rfl ?_
        refine V_iconst (q := 68) dX11_skip_67 rfl rfl ?_
        refine V_istore (q := 70) dX11_skip_68 (Nat.le_of_ble_eq_true rfl) trivial rfl ?_
        exact V_weak (kX11_skip_L70 d hd  FU h) (sb_s rfl (sb_n (sb_s rfl (sb_s rfl (sb_s rfl (sb_s rfl (sb_s rfl (sb_s rfl (sb_s rfl (sb_n sb_0))))))))))
      · have h := ifT hc12 h
        refine V_iconst (q := 37) dX11_skip_36 rfl rfl ?_
        exact V_iret rfl h dX11_skip_37
abbrev mX11_book : Mth := (yX11_book, cX11_book, 3, some .int)
set_option maxRecDepth 100000 in
theorem mi_X11_book : Cond.instanceMethod yX11_book ∈ tG ∧ Cond.selects yX11_book.cls yX11_book yX11_book ∈ tG ∧ Cond.initialized yX11_book.cls ∈ tG ∧ Cond.code yX11_book cX11_book 3 (some .int) ∈ tG ∧ (yX11_book.cls ≠ "java/lang/invoke/MethodHandle" ∧ yX11_book.cls ≠ "java/lang/invoke/VarHandle" ∧ (parseMethodDescriptor yX11_book.desc).map (fun d => d.parameters.length) = some 0) ∧ 3 ≤ 60 := ⟨(tG_of (tb7 (List.mem_of_getElem? (i := 122) rfl)) (by decide +kernel)), (tG_of (List.mem_of_getElem? (i := 95) (by decide +kernel)) (by decide +kernel)), (tG_of (tb1 (List.mem_of_getElem? (i := 12) rfl)) (by decide +kernel)), (tG_of (tb7 (List.mem_of_getElem? (i := 123) rfl)) (by decide +kernel)), ⟨by decide, by decide, by decide +kernel⟩, by decide⟩
set_option maxRecDepth 100000 in
theorem mv_X11_372 : mV RX11 372 mX11_book 0 := ⟨(tG_of (tb7 (List.mem_of_getElem? (i := 120) rfl)) (by decide +kernel)), mi_X11_book⟩
theorem dX11_book_0 : decode cX11_book 0 = .ok (.iconst 0, 1) := dc_3 (byA eNcX11_book (p := 0) (v := 3) (by decide +kernel))
theorem dX11_book_1 : decode cX11_book 1 = .ok (.istore_n 1, 1) := dc_60 (byA eNcX11_book (p := 1) (v := 60) (by decide +kernel))
theorem dX11_book_2 : decode cX11_book 2 = .ok (.iconst 0, 1) := dc_3 (byA eNcX11_book (p := 2) (v := 3) (by decide +kernel))
theorem dX11_book_3 : decode cX11_book 3 = .ok (.istore_n 2, 1) := dc_61 (byA eNcX11_book (p := 3) (v := 61) (by decide +kernel))
theorem dX11_book_4 : decode cX11_book 4 = .ok (.iload_n 2, 1) := dc_28 (byA eNcX11_book (p := 4) (v := 28) (by decide +kernel))
theorem dX11_book_5 : decode cX11_book 5 = .ok (.aload_n 0, 1) := dc_42 (byA eNcX11_book (p := 5) (v := 42) (by decide +kernel))
theorem dX11_book_6 : decode cX11_book 6 = .ok (.getfield 316, 3) := dc_180 (byA eNcX11_book (p := 6) (v := 180) (by decide +kernel)) (byA eNcX11_book (p := 7) (v := 1) (by decide +kernel)) (byA eNcX11_book (p := 8) (v := 60) (by decide +kernel)) rfl
theorem dX11_book_9 : decode cX11_book 9 = .ok (.if_icmp .ge 16, 3) := dc_162 (byA eNcX11_book (p := 9) (v := 162) (by decide +kernel)) (byA eNcX11_book (p := 10) (v := 0) (by decide +kernel)) (byA eNcX11_book (p := 11) (v := 16) (by decide +kernel)) (by decide +kernel)
theorem dX11_book_12 : decode cX11_book 12 = .ok (.bipush 10, 2) := dc_16 (byA eNcX11_book (p := 12) (v := 16) (by decide +kernel)) (byA eNcX11_book (p := 13) (v := 10) (by decide +kernel)) (by decide +kernel)
theorem dX11_book_14 : decode cX11_book 14 = .ok (.iload_n 1, 1) := dc_27 (byA eNcX11_book (p := 14) (v := 27) (by decide +kernel))
theorem dX11_book_15 : decode cX11_book 15 = .ok (.imul, 1) := dc_104 (byA eNcX11_book (p := 15) (v := 104) (by decide +kernel))
theorem dX11_book_16 : decode cX11_book 16 = .ok (.iload_n 2, 1) := dc_28 (byA eNcX11_book (p := 16) (v := 28) (by decide +kernel))
theorem dX11_book_17 : decode cX11_book 17 = .ok (.iadd, 1) := dc_96 (byA eNcX11_book (p := 17) (v := 96) (by decide +kernel))
theorem dX11_book_18 : decode cX11_book 18 = .ok (.istore_n 1, 1) := dc_60 (byA eNcX11_book (p := 18) (v := 60) (by decide +kernel))
theorem dX11_book_19 : decode cX11_book 19 = .ok (.iinc 2 1, 3) := dc_132 (byA eNcX11_book (p := 19) (v := 132) (by decide +kernel)) (byA eNcX11_book (p := 20) (v := 2) (by decide +kernel)) (byA eNcX11_book (p := 21) (v := 1) (by decide +kernel)) (by decide +kernel)
theorem dX11_book_22 : decode cX11_book 22 = .ok (.goto (-18), 3) := dc_167 (byA eNcX11_book (p := 22) (v := 167) (by decide +kernel)) (byA eNcX11_book (p := 23) (v := 255) (by decide +kernel)) (byA eNcX11_book (p := 24) (v := 238) (by decide +kernel)) (by decide +kernel)
theorem dX11_book_25 : decode cX11_book 25 = .ok (.iload_n 1, 1) := dc_27 (byA eNcX11_book (p := 25) (v := 27) (by decide +kernel))
theorem dX11_book_26 : decode cX11_book 26 = .ok (.ireturn, 1) := dc_172 (byA eNcX11_book (p := 26) (v := 172) (by decide +kernel))
def X11_book_L4 : Nat → Int → Int → Mm → Rs
  | 0, _, _, _ => none
  | n + 1, l1, l2, μ => if (μ 70 37) ≤ l2 then (some (l1, μ)) else (lt_ (iA (iM 10 l1) l2) fun v2 => X11_book_L4 n v2 (iA l2 1) μ)
def X11_book (μ : Mm) : Rs := X11_book_L4 FU 0 0 μ
set_option maxHeartbeats 4000000 in
set_option maxRecDepth 100000 in
theorem kX11_book_L4 (d : Nat) (hd : 1 ≤ d) {r : Int} {μ' : Mm} : ∀ (n : Nat) {l1 l2 : Int} {μ : Mm}, X11_book_L4 n l1 l2 μ = some (r, μ') → VV d mX11_book 4 [some (vR 70), some (vI l1), some (vI l2)] [] μ r μ' := by
  intro n
  induction n with
  | zero => intro l1 l2 μ h; rw [X11_book_L4] at h; cases h
  | succ n ih =>
    intro l1 l2 μ h
    rw [X11_book_L4] at h
    refine V_iload_n (q := 5) dX11_book_4 rfl rfl rfl ?_
    refine V_aload_n (q := 6) dX11_book_5 rfl rfl rfl ?_
    refine V_getI (q := 9) fl_X11_316 rfl rfl rfl dX11_book_6 rfl ?_
    refine V_icmpge (q := 25) (q2 := 12) dX11_book_9 (by decide) rfl (fun hc1 => ?_) (fun hc1 => ?_)
    · have h := ifT hc1 h
      refine V_iload_n (q := 26) dX11_book_25 rfl rfl rfl ?_
      exact V_iret rfl h dX11_book_26
    · have h := ifF hc1 h
      refine V_bipush (q := 14) dX11_book_12 rfl rfl rfl ?_
      refine V_iload_n (q := 15) dX11_book_14 rfl rfl rfl ?_
      refine V_imul (q := 16) dX11_book_15 rfl ?_
      refine V_iload_n (q := 17) dX11_book_16 rfl rfl rfl ?_
      refine V_iadd (q := 18) dX11_book_17 rfl ?_
      have h := lt_i h
      refine V_istore_n (q := 19) dX11_book_18 rfl (Nat.le_of_ble_eq_true rfl) trivial rfl ?_
      refine V_iinc (q := 22) dX11_book_19 rfl (Nat.le_of_ble_eq_true rfl) trivial rfl ?_
      refine V_goto (q := 4) dX11_book_22 (by decide) ?_
      exact V_weak (ih h) (sb_s rfl (sb_s rfl (sb_s rfl sb_0)))
set_option maxHeartbeats 4000000 in
set_option maxRecDepth 100000 in
theorem kX11_book (d : Nat) (hd : 1 ≤ d) {μ : Mm} {r : Int} {μ' : Mm} (h : X11_book μ = some (r, μ')) : CC d mX11_book [vR 70] μ r μ' := by
  unfold X11_book at h
  refine V_enter (by decide) (Nat.le_of_ble_eq_true rfl) ?_
  show VV d mX11_book 0 [some (vR 70), none, none] [] μ r μ'
  refine V_iconst (q := 1) dX11_book_0 rfl rfl ?_
  refine V_istore_n (q := 2) dX11_book_1 rfl (Nat.le_of_ble_eq_true rfl) trivial rfl ?_
  refine V_iconst (q := 3) dX11_book_2 rfl rfl ?_
  refine V_istore_n (q := 4) dX11_book_3 rfl (Nat.le_of_ble_eq_true rfl) trivial rfl ?_
  exact V_weak (kX11_book_L4 d hd  FU h) (sb_s rfl (sb_s rfl (sb_s rfl sb_0)))
abbrev mX11_nights : Mth := (yX11_nights, cX11_nights, 8, some .int)
set_option maxRecDepth 100000 in
theorem mi_X11_nights : Cond.instanceMethod yX11_nights ∈ tG ∧ Cond.selects yX11_nights.cls yX11_nights yX11_nights ∈ tG ∧ Cond.initialized yX11_nights.cls ∈ tG ∧ Cond.code yX11_nights cX11_nights 8 (some .int) ∈ tG ∧ (yX11_nights.cls ≠ "java/lang/invoke/MethodHandle" ∧ yX11_nights.cls ≠ "java/lang/invoke/VarHandle" ∧ (parseMethodDescriptor yX11_nights.desc).map (fun d => d.parameters.length) = some 3) ∧ 8 ≤ 60 := ⟨(tG_of (tb7 (List.mem_of_getElem? (i := 117) rfl)) (by decide +kernel)), (tG_of (tb7 (List.mem_of_getElem? (i := 118) rfl)) (by decide +kernel)), (tG_of (tb1 (List.mem_of_getElem? (i := 12) rfl)) (by decide +kernel)), (tG_of (tb7 (List.mem_of_getElem? (i := 119) rfl)) (by decide +kernel)), ⟨by decide, by decide, by decide +kernel⟩, by decide⟩
theorem dX11_nights_0 : decode cX11_nights 0 = .ok (.aload_n 0, 1) := dc_42 (byA eNcX11_nights (p := 0) (v := 42) (by decide +kernel))
theorem dX11_nights_1 : decode cX11_nights 1 = .ok (.iload_n 1, 1) := dc_27 (byA eNcX11_nights (p := 1) (v := 27) (by decide +kernel))
theorem dX11_nights_2 : decode cX11_nights 2 = .ok (.invokevirtual 335, 3) := dc_182 (byA eNcX11_nights (p := 2) (v := 182) (by decide +kernel)) (byA eNcX11_nights (p := 3) (v := 1) (by decide +kernel)) (byA eNcX11_nights (p := 4) (v := 79) (by decide +kernel)) rfl
theorem dX11_nights_5 : decode cX11_nights 5 = .ok (.ifCond .eq 22, 3) := dc_153 (byA eNcX11_nights (p := 5) (v := 153) (by decide +kernel)) (byA eNcX11_nights (p := 6) (v := 0) (by decide +kernel)) (byA eNcX11_nights (p := 7) (v := 22) (by decide +kernel)) (by decide +kernel)
theorem dX11_nights_8 : decode cX11_nights 8 = .ok (.iload_n 2, 1) := dc_28 (byA eNcX11_nights (p := 8) (v := 28) (by decide +kernel))
theorem dX11_nights_9 : decode cX11_nights 9 = .ok (.iconst 1, 1) := dc_4 (byA eNcX11_nights (p := 9) (v := 4) (by decide +kernel))
theorem dX11_nights_10 : decode cX11_nights 10 = .ok (.bipush 30, 2) := dc_16 (byA eNcX11_nights (p := 10) (v := 16) (by decide +kernel)) (byA eNcX11_nights (p := 11) (v := 30) (by decide +kernel)) (by decide +kernel)
theorem dX11_nights_12 : decode cX11_nights 12 = .ok (.invokestatic 213, 3) := dc_184 (byA eNcX11_nights (p := 12) (v := 184) (by decide +kernel)) (byA eNcX11_nights (p := 13) (v := 0) (by decide +kernel)) (byA eNcX11_nights (p := 14) (v := 213) (by decide +kernel)) rfl
theorem dX11_nights_15 : decode cX11_nights 15 = .ok (.ifCond .eq 12, 3) := dc_153 (byA eNcX11_nights (p := 15) (v := 153) (by decide +kernel)) (byA eNcX11_nights (p := 16) (v := 0) (by decide +kernel)) (byA eNcX11_nights (p := 17) (v := 12) (by decide +kernel)) (by decide +kernel)
theorem dX11_nights_18 : decode cX11_nights 18 = .ok (.iload_n 3, 1) := dc_29 (byA eNcX11_nights (p := 18) (v := 29) (by decide +kernel))
theorem dX11_nights_19 : decode cX11_nights 19 = .ok (.iconst 0, 1) := dc_3 (byA eNcX11_nights (p := 19) (v := 3) (by decide +kernel))
theorem dX11_nights_20 : decode cX11_nights 20 = .ok (.iconst 1, 1) := dc_4 (byA eNcX11_nights (p := 20) (v := 4) (by decide +kernel))
theorem dX11_nights_21 : decode cX11_nights 21 = .ok (.invokestatic 213, 3) := dc_184 (byA eNcX11_nights (p := 21) (v := 184) (by decide +kernel)) (byA eNcX11_nights (p := 22) (v := 0) (by decide +kernel)) (byA eNcX11_nights (p := 23) (v := 213) (by decide +kernel)) rfl
theorem dX11_nights_24 : decode cX11_nights 24 = .ok (.ifCond .ne 5, 3) := dc_154 (byA eNcX11_nights (p := 24) (v := 154) (by decide +kernel)) (byA eNcX11_nights (p := 25) (v := 0) (by decide +kernel)) (byA eNcX11_nights (p := 26) (v := 5) (by decide +kernel)) (by decide +kernel)
theorem dX11_nights_27 : decode cX11_nights 27 = .ok (.iconst (-1), 1) := dc_2 (byA eNcX11_nights (p := 27) (v := 2) (by decide +kernel))
theorem dX11_nights_28 : decode cX11_nights 28 = .ok (.ireturn, 1) := dc_172 (byA eNcX11_nights (p := 28) (v := 172) (by decide +kernel))
theorem dX11_nights_29 : decode cX11_nights 29 = .ok (.iconst (-1), 1) := dc_2 (byA eNcX11_nights (p := 29) (v := 2) (by decide +kernel))
theorem dX11_nights_30 : decode cX11_nights 30 = .ok (.istore 4, 2) := dc_54 (byA eNcX11_nights (p := 30) (v := 54) (by decide +kernel)) (byA eNcX11_nights (p := 31) (v := 4) (by decide +kernel))
theorem dX11_nights_32 : decode cX11_nights 32 = .ok (.iconst 0, 1) := dc_3 (byA eNcX11_nights (p := 32) (v := 3) (by decide +kernel))
theorem dX11_nights_33 : decode cX11_nights 33 = .ok (.istore 5, 2) := dc_54 (byA eNcX11_nights (p := 33) (v := 54) (by decide +kernel)) (byA eNcX11_nights (p := 34) (v := 5) (by decide +kernel))
theorem dX11_nights_35 : decode cX11_nights 35 = .ok (.iconst 0, 1) := dc_3 (byA eNcX11_nights (p := 35) (v := 3) (by decide +kernel))
theorem dX11_nights_36 : decode cX11_nights 36 = .ok (.istore 6, 2) := dc_54 (byA eNcX11_nights (p := 36) (v := 54) (by decide +kernel)) (byA eNcX11_nights (p := 37) (v := 6) (by decide +kernel))
theorem dX11_nights_38 : decode cX11_nights 38 = .ok (.iload 6, 2) := dc_21 (byA eNcX11_nights (p := 38) (v := 21) (by decide +kernel)) (byA eNcX11_nights (p := 39) (v := 6) (by decide +kernel))
theorem dX11_nights_40 : decode cX11_nights 40 = .ok (.iload_n 2, 1) := dc_28 (byA eNcX11_nights (p := 40) (v := 28) (by decide +kernel))
theorem dX11_nights_41 : decode cX11_nights 41 = .ok (.if_icmp .ge 61, 3) := dc_162 (byA eNcX11_nights (p := 41) (v := 162) (by decide +kernel)) (byA eNcX11_nights (p := 42) (v := 0) (by decide +kernel)) (byA eNcX11_nights (p := 43) (v := 61) (by decide +kernel)) (by decide +kernel)
theorem dX11_nights_44 : decode cX11_nights 44 = .ok (.aload_n 0, 1) := dc_42 (byA eNcX11_nights (p := 44) (v := 42) (by decide +kernel))
theorem dX11_nights_45 : decode cX11_nights 45 = .ok (.iload_n 1, 1) := dc_27 (byA eNcX11_nights (p := 45) (v := 27) (by decide +kernel))
theorem dX11_nights_46 : decode cX11_nights 46 = .ok (.iload 6, 2) := dc_21 (byA eNcX11_nights (p := 46) (v := 21) (by decide +kernel)) (byA eNcX11_nights (p := 47) (v := 6) (by decide +kernel))
theorem dX11_nights_48 : decode cX11_nights 48 = .ok (.invokevirtual 310, 3) := dc_182 (byA eNcX11_nights (p := 48) (v := 182) (by decide +kernel)) (byA eNcX11_nights (p := 49) (v := 1) (by decide +kernel)) (byA eNcX11_nights (p := 50) (v := 54) (by decide +kernel)) rfl
theorem dX11_nights_51 : decode cX11_nights 51 = .ok (.aload_n 0, 1) := dc_42 (byA eNcX11_nights (p := 51) (v := 42) (by decide +kernel))
theorem dX11_nights_52 : decode cX11_nights 52 = .ok (.aload_n 0, 1) := dc_42 (byA eNcX11_nights (p := 52) (v := 42) (by decide +kernel))
theorem dX11_nights_53 : decode cX11_nights 53 = .ok (.invokevirtual 372, 3) := dc_182 (byA eNcX11_nights (p := 53) (v := 182) (by decide +kernel)) (byA eNcX11_nights (p := 54) (v := 1) (by decide +kernel)) (byA eNcX11_nights (p := 55) (v := 116) (by decide +kernel)) rfl
theorem dX11_nights_56 : decode cX11_nights 56 = .ok (.invokevirtual 341, 3) := dc_182 (byA eNcX11_nights (p := 56) (v := 182) (by decide +kernel)) (byA eNcX11_nights (p := 57) (v := 1) (by decide +kernel)) (byA eNcX11_nights (p := 58) (v := 85) (by decide +kernel)) rfl
theorem dX11_nights_59 : decode cX11_nights 59 = .ok (.ifCond .ne 5, 3) := dc_154 (byA eNcX11_nights (p := 59) (v := 154) (by decide +kernel)) (byA eNcX11_nights (p := 60) (v := 0) (by decide +kernel)) (byA eNcX11_nights (p := 61) (v := 5) (by decide +kernel)) (by decide +kernel)
theorem dX11_nights_62 : decode cX11_nights 62 = .ok (.iconst (-1), 1) := dc_2 (byA eNcX11_nights (p := 62) (v := 2) (by decide +kernel))
theorem dX11_nights_63 : decode cX11_nights 63 = .ok (.ireturn, 1) := dc_172 (byA eNcX11_nights (p := 63) (v := 172) (by decide +kernel))
theorem dX11_nights_64 : decode cX11_nights 64 = .ok (.aload_n 0, 1) := dc_42 (byA eNcX11_nights (p := 64) (v := 42) (by decide +kernel))
theorem dX11_nights_65 : decode cX11_nights 65 = .ok (.aload_n 0, 1) := dc_42 (byA eNcX11_nights (p := 65) (v := 42) (by decide +kernel))
theorem dX11_nights_66 : decode cX11_nights 66 = .ok (.invokevirtual 372, 3) := dc_182 (byA eNcX11_nights (p := 66) (v := 182) (by decide +kernel)) (byA eNcX11_nights (p := 67) (v := 1) (by decide +kernel)) (byA eNcX11_nights (p := 68) (v := 116) (by decide +kernel)) rfl
theorem dX11_nights_69 : decode cX11_nights 69 = .ok (.iconst 0, 1) := dc_3 (byA eNcX11_nights (p := 69) (v := 3) (by decide +kernel))
theorem dX11_nights_70 : decode cX11_nights 70 = .ok (.invokevirtual 344, 3) := dc_182 (byA eNcX11_nights (p := 70) (v := 182) (by decide +kernel)) (byA eNcX11_nights (p := 71) (v := 1) (by decide +kernel)) (byA eNcX11_nights (p := 72) (v := 88) (by decide +kernel)) rfl
theorem dX11_nights_73 : decode cX11_nights 73 = .ok (.istore 7, 2) := dc_54 (byA eNcX11_nights (p := 73) (v := 54) (by decide +kernel)) (byA eNcX11_nights (p := 74) (v := 7) (by decide +kernel))
theorem dX11_nights_75 : decode cX11_nights 75 = .ok (.iload 4, 2) := dc_21 (byA eNcX11_nights (p := 75) (v := 21) (by decide +kernel)) (byA eNcX11_nights (p := 76) (v := 4) (by decide +kernel))
theorem dX11_nights_77 : decode cX11_nights 77 = .ok (.iconst (-1), 1) := dc_2 (byA eNcX11_nights (p := 77) (v := 2) (by decide +kernel))
theorem dX11_nights_78 : decode cX11_nights 78 = .ok (.if_icmp .eq 10, 3) := dc_159 (byA eNcX11_nights (p := 78) (v := 159) (by decide +kernel)) (byA eNcX11_nights (p := 79) (v := 0) (by decide +kernel)) (byA eNcX11_nights (p := 80) (v := 10) (by decide +kernel)) (by decide +kernel)
theorem dX11_nights_81 : decode cX11_nights 81 = .ok (.iload 7, 2) := dc_21 (byA eNcX11_nights (p := 81) (v := 21) (by decide +kernel)) (byA eNcX11_nights (p := 82) (v := 7) (by decide +kernel))
theorem dX11_nights_83 : decode cX11_nights 83 = .ok (.iload 5, 2) := dc_21 (byA eNcX11_nights (p := 83) (v := 21) (by decide +kernel)) (byA eNcX11_nights (p := 84) (v := 5) (by decide +kernel))
theorem dX11_nights_85 : decode cX11_nights 85 = .ok (.if_icmp .le 11, 3) := dc_164 (byA eNcX11_nights (p := 85) (v := 164) (by decide +kernel)) (byA eNcX11_nights (p := 86) (v := 0) (by decide +kernel)) (byA eNcX11_nights (p := 87) (v := 11) (by decide +kernel)) (by decide +kernel)
theorem dX11_nights_88 : decode cX11_nights 88 = .ok (.iload 6, 2) := dc_21 (byA eNcX11_nights (p := 88) (v := 21) (by decide +kernel)) (byA eNcX11_nights (p := 89) (v := 6) (by decide +kernel))
theorem dX11_nights_90 : decode cX11_nights 90 = .ok (.istore 4, 2) := dc_54 (byA eNcX11_nights (p := 90) (v := 54) (by decide +kernel)) (byA eNcX11_nights (p := 91) (v := 4) (by decide +kernel))
theorem dX11_nights_92 : decode cX11_nights 92 = .ok (.iload 7, 2) := dc_21 (byA eNcX11_nights (p := 92) (v := 21) (by decide +kernel)) (byA eNcX11_nights (p := 93) (v := 7) (by decide +kernel))
theorem dX11_nights_94 : decode cX11_nights 94 = .ok (.istore 5, 2) := dc_54 (byA eNcX11_nights (p := 94) (v := 54) (by decide +kernel)) (byA eNcX11_nights (p := 95) (v := 5) (by decide +kernel))
theorem dX11_nights_96 : decode cX11_nights 96 = .ok (.iinc 6 1, 3) := dc_132 (byA eNcX11_nights (p := 96) (v := 132) (by decide +kernel)) (byA eNcX11_nights (p := 97) (v := 6) (by decide +kernel)) (byA eNcX11_nights (p := 98) (v := 1) (by decide +kernel)) (by decide +kernel)
theorem dX11_nights_99 : decode cX11_nights 99 = .ok (.goto (-61), 3) := dc_167 (byA eNcX11_nights (p := 99) (v := 167) (by decide +kernel)) (byA eNcX11_nights (p := 100) (v := 255) (by decide +kernel)) (byA eNcX11_nights (p := 101) (v := 195) (by decide +kernel)) (by decide +kernel)
theorem dX11_nights_102 : decode cX11_nights 102 = .ok (.iload_n 3, 1) := dc_29 (byA eNcX11_nights (p := 102) (v := 29) (by decide +kernel))
theorem dX11_nights_103 : decode cX11_nights 103 = .ok (.ifCond .ne 8, 3) := dc_154 (byA eNcX11_nights (p := 103) (v := 154) (by decide +kernel)) (byA eNcX11_nights (p := 104) (v := 0) (by decide +kernel)) (byA eNcX11_nights (p := 105) (v := 8) (by decide +kernel)) (by decide +kernel)
theorem dX11_nights_106 : decode cX11_nights 106 = .ok (.iload 4, 2) := dc_21 (byA eNcX11_nights (p := 106) (v := 21) (by decide +kernel)) (byA eNcX11_nights (p := 107) (v := 4) (by decide +kernel))
theorem dX11_nights_108 : decode cX11_nights 108 = .ok (.goto 5, 3) := dc_167 (byA eNcX11_nights (p := 108) (v := 167) (by decide +kernel)) (byA eNcX11_nights (p := 109) (v := 0) (by decide +kernel)) (byA eNcX11_nights (p := 110) (v := 5) (by decide +kernel)) (by decide +kernel)
theorem dX11_nights_111 : decode cX11_nights 111 = .ok (.iload 5, 2) := dc_21 (byA eNcX11_nights (p := 111) (v := 21) (by decide +kernel)) (byA eNcX11_nights (p := 112) (v := 5) (by decide +kernel))
theorem dX11_nights_113 : decode cX11_nights 113 = .ok (.ireturn, 1) := dc_172 (byA eNcX11_nights (p := 113) (v := 172) (by decide +kernel))
def X11_nights_L38 (l1 : Int) (l2 : Int) (l3 : Int) (k102 : Int → Int → Mm → Rs) : Nat → Int → Int → Int → Mm → Rs
  | 0, _, _, _, _ => none
  | n + 1, l4, l5, l6, μ => if l2 ≤ l6 then (k102 l4 l5 μ) else (bd (X11_layTimes l1 l6 μ) fun v14 μ15 => bd (X11_book μ15) fun v17 μ18 => bd (X11_go v17 μ18) fun v20 μ21 => if v20 = 0 then (some ((-1), μ21)) else (bd (X11_book μ21) fun v24 μ25 => bd (X11_tellOf v24 0 μ25) fun v27 μ28 => if l4 = (-1) then (X11_nights_L38 l1 l2 l3 k102 n l6 v27 (iA l6 1) μ28) else (if v27 ≤ l5 then (X11_nights_L38 l1 l2 l3 k102 n l4 l5 (iA l6 1) μ28) else (X11_nights_L38 l1 l2 l3 k102 n l6 v27 (iA l6 1) μ28))))
def X11_nights (l1 : Int) (l2 : Int) (l3 : Int) (μ : Mm) : Rs := bd (X11_isReady l1 μ) fun v1 μ2 => if v1 = 0 then (some ((-1), μ2)) else (bd (X11_in l2 1 30 μ2) fun v5 μ6 => if v5 = 0 then (some ((-1), μ6)) else (bd (X11_in l3 0 1 μ6) fun v9 μ10 => if v9 = 0 then (some ((-1), μ10)) else (X11_nights_L38 l1 l2 l3 (fun v32 v33 μ34 => if l3 = 0 then (some (v32, μ34)) else (some (v33, μ34))) FU (-1) 0 0 μ10)))
set_option maxHeartbeats 4000000 in
set_option maxRecDepth 100000 in
theorem kX11_nights_L38 (d : Nat) (hd : 7 ≤ d) {l1 : Int} {l2 : Int} {l3 : Int} {k102 : Int → Int → Mm → Rs} {r : Int} {μ' : Mm} (hk_102 : ∀ (v4 v5 : Int) (μ1 : Mm), k102 v4 v5 μ1 = some (r, μ') → VV d mX11_nights 102 [none, none, none, some (vI l3), some (vI v4), some (vI v5), none, none] [] μ1 r μ') : ∀ (n : Nat) {l4 l5 l6 : Int} {μ : Mm}, X11_nights_L38 l1 l2 l3 k102 n l4 l5 l6 μ = some (r, μ') → VV d mX11_nights 38 [some (vR 70), some (vI l1), some (vI l2), some (vI l3), some (vI l4), some (vI l5), some (vI l6), none] [] μ r μ' := by
  intro n
  induction n with
  | zero => intro l4 l5 l6 μ h; rw [X11_nights_L38] at h; cases h
  | succ n ih =>
    intro l4 l5 l6 μ h
    rw [X11_nights_L38] at h
    refine V_iload (q := 40) dX11_nights_38 rfl rfl ?_
    refine V_iload_n (q := 41) dX11_nights_40 rfl rfl rfl ?_
    refine V_icmpge (q := 102) (q2 := 44) dX11_nights_41 (by decide) rfl (fun hc13 => ?_) (fun hc13 => ?_)
    · have h := ifT hc13 h
      exact V_weak (hk_102 _ _ _ h) (sb_n (sb_n (sb_n (sb_s rfl (sb_s rfl (sb_s rfl (sb_n (sb_n sb_0))))))))
    · have h := ifF hc13 h
      refine V_aload_n (q := 45) dX11_nights_44 rfl rfl rfl ?_
      refine V_iload_n (q := 46) dX11_nights_45 rfl rfl rfl ?_
      refine V_iload (q := 48) dX11_nights_46 rfl rfl ?_
      obtain ⟨v14, μ15, hc16, h⟩ := bd_i h
      refine V_cV0 (q := 51) (kX11_layTimes (d - 1) (by omega) hc16) (by omega) mv_X11_310 rfl rfl rfl rfl rfl rfl dX11_nights_48 rfl ?_
      refine V_aload_n (q := 52) dX11_nights_51 rfl rfl rfl ?_
      refine V_aload_n (q := 53) dX11_nights_52 rfl rfl rfl ?_
      obtain ⟨v17, μ18, hc19, h⟩ := bd_i h
      refine V_cV1 (q := 56) (v := vI v17) (kX11_book (d - 1) (by omega) hc19) (by omega) mv_X11_372 rfl rfl rfl rfl rfl rfl dX11_nights_53 rfl ?_
      obtain ⟨v20, μ21, hc22, h⟩ := bd_i h
      refine V_cV1 (q := 59) (v := vI v20) (kX11_go (d - 1) (by omega) hc22) (by omega) mv_X11_341 rfl rfl rfl rfl rfl rfl dX11_nights_56 rfl ?_
      refine V_ifne (q := 64) (q2 := 62) dX11_nights_59 (by decide) rfl (fun hc23 => ?_) (fun hc23 => ?_)
      · have h := ifF hc23 h
        refine V_aload_n (q := 65) dX11_nights_64 rfl rfl rfl ?_
        refine V_aload_n (q := 66) dX11_nights_65 rfl rfl rfl ?_
        obtain ⟨v24, μ25, hc26, h⟩ := bd_i h
        refine V_cV1 (q := 69) (v := vI v24) (kX11_book (d - 1) (by omega) hc26) (by omega) mv_X11_372 rfl rfl rfl rfl rfl rfl dX11_nights_66 rfl ?_
        refine V_iconst (q := 70) dX11_nights_69 rfl rfl ?_
        obtain ⟨v27, μ28, hc29, h⟩ := bd_i h
        refine V_cV1 (q := 73) (v := vI v27) (kX11_tellOf (d - 1) (by omega) hc29) (by omega) mv_X11_344 rfl rfl rfl rfl rfl rfl dX11_nights_70 rfl ?_
        refine V_istore (q := 75) dX11_nights_73 (Nat.le_of_ble_eq_true rfl) trivial rfl ?_
        refine V_iload (q := 77) dX11_nights_75 rfl rfl ?_
        refine V_iconst (q := 78) dX11_nights_77 rfl rfl ?_
        refine V_icmpeq (q := 88) (q2 := 81) dX11_nights_78 (by decide) rfl (fun hc30 => ?_) (fun hc30 => ?_)
        · have h := ifT hc30 h
          refine V_iload (q := 90) dX11_nights_88 rfl rfl ?_
          refine V_istore (q := 92) dX11_nights_90 (Nat.le_of_ble_eq_true rfl) trivial rfl ?_
          refine V_iload (q := 94) dX11_nights_92 rfl rfl ?_
          refine V_istore (q := 96) dX11_nights_94 (Nat.le_of_ble_eq_true rfl) trivial rfl ?_
          refine V_iinc (q := 99) dX11_nights_96 rfl (Nat.le_of_ble_eq_true rfl) trivial rfl ?_
          refine V_goto (q := 38) dX11_nights_99 (by decide) ?_
          exact V_weak (ih h) (sb_s rfl (sb_s rfl (sb_s rfl (sb_s rfl (sb_s rfl (sb_s rfl (sb_s rfl (sb_n sb_0))))))))
        · have h := ifF hc30 h
          refine V_iload (q := 83) dX11_nights_81 rfl rfl ?_
          refine V_iload (q := 85) dX11_nights_83 rfl rfl ?_
          refine V_icmple (q := 96) (q2 := 88) dX11_nights_85 (by decide) rfl (fun hc31 => ?_) (fun hc31 => ?_)
          · have h := ifT hc31 h
            refine V_iinc (q := 99) dX11_nights_96 rfl (Nat.le_of_ble_eq_true rfl) trivial rfl ?_
            refine V_goto (q := 38) dX11_nights_99 (by decide) ?_
            exact V_weak (ih h) (sb_s rfl (sb_s rfl (sb_s rfl (sb_s rfl (sb_s rfl (sb_s rfl (sb_s rfl (sb_n sb_0))))))))
          · have h := ifF hc31 h
            refine V_iload (q := 90) dX11_nights_88 rfl rfl ?_
            refine V_istore (q := 92) dX11_nights_90 (Nat.le_of_ble_eq_true rfl) trivial rfl ?_
            refine V_iload (q := 94) dX11_nights_92 rfl rfl ?_
            refine V_istore (q := 96) dX11_nights_94 (Nat.le_of_ble_eq_true rfl) trivial rfl ?_
            refine V_iinc (q := 99) dX11_nights_96 rfl (Nat.le_of_ble_eq_true rfl) trivial rfl ?_
            refine V_goto (q := 38) dX11_nights_99 (by decide) ?_
            exact V_weak (ih h) (sb_s rfl (sb_s rfl (sb_s rfl (sb_s rfl (sb_s rfl (sb_s rfl (sb_s rfl (sb_n sb_0))))))))
      · have h := ifT hc23 h
        refine V_iconst (q := 63) dX11_nights_62 rfl rfl ?_
        exact V_iret rfl h dX11_nights_63
set_option maxHeartbeats 4000000 in
set_option maxRecDepth 100000 in
theorem kX11_nights (d : Nat) (hd : 7 ≤ d) {l1 : Int} {l2 : Int} {l3 : Int} {μ : Mm} {r : Int} {μ' : Mm} (h : X11_nights l1 l2 l3 μ = some (r, μ')) : CC d mX11_nights [vR 70, vI l1, vI l2, vI l3] μ r μ' := by
  unfold X11_nights at h
  refine V_enter (by decide) (Nat.le_of_ble_eq_true rfl) ?_
  show VV d mX11_nights 0 [some (vR 70), some (vI l1), some (vI l2), some (vI l3), none, none, none, none] [] μ r μ'
  refine V_aload_n (q := 1) dX11_nights_0 rfl rfl rfl ?_
  refine V_iload_n (q := 2) dX11_nights_1 rfl rfl rfl ?_
  obtain ⟨v1, μ2, hc3, h⟩ := bd_i h
  refine V_cV1 (q := 5) (v := vI v1) (kX11_isReady (d - 1) (by omega) hc3) (by omega) mv_X11_335 rfl rfl rfl rfl rfl rfl dX11_nights_2 rfl ?_
  refine V_ifeq (q := 27) (q2 := 8) dX11_nights_5 (by decide) rfl (fun hc4 => ?_) (fun hc4 => ?_)
  · have h := ifT hc4 h
    refine V_iconst (q := 28) dX11_nights_27 rfl rfl ?_
    exact V_iret rfl h dX11_nights_28
  · have h := ifF hc4 h
    refine V_iload_n (q := 9) dX11_nights_8 rfl rfl rfl ?_
    refine V_iconst (q := 10) dX11_nights_9 rfl rfl ?_
    refine V_bipush (q := 12) dX11_nights_10 rfl rfl rfl ?_
    obtain ⟨v5, μ6, hc7, h⟩ := bd_i h
    refine V_cS1 (q := 15) (v := vI v5) (kX11_in (d - 1) (by omega) hc7) (by omega) mv_X11_213 rfl rfl rfl rfl dX11_nights_12 rfl ?_
    refine V_ifeq (q := 27) (q2 := 18) dX11_nights_15 (by decide) rfl (fun hc8 => ?_) (fun hc8 => ?_)
    · have h := ifT hc8 h
      refine V_iconst (q := 28) dX11_nights_27 rfl rfl ?_
      exact V_iret rfl h dX11_nights_28
    · have h := ifF hc8 h
      refine V_iload_n (q := 19) dX11_nights_18 rfl rfl rfl ?_
      refine V_iconst (q := 20) dX11_nights_19 rfl rfl ?_
      refine V_iconst (q := 21) dX11_nights_20 rfl rfl ?_
      obtain ⟨v9, μ10, hc11, h⟩ := bd_i h
      refine V_cS1 (q := 24) (v := vI v9) (kX11_in (d - 1) (by omega) hc11) (by omega) mv_X11_213 rfl rfl rfl rfl dX11_nights_21 rfl ?_
      refine V_ifne (q := 29) (q2 := 27) dX11_nights_24 (by decide) rfl (fun hc12 => ?_) (fun hc12 => ?_)
      · have h := ifF hc12 h
        refine V_iconst (q := 30) dX11_nights_29 rfl rfl ?_
        refine V_istore (q := 32) dX11_nights_30 (Nat.le_of_ble_eq_true rfl) trivial rfl ?_
        refine V_iconst (q := 33) dX11_nights_32 rfl rfl ?_
        refine V_istore (q := 35) dX11_nights_33 (Nat.le_of_ble_eq_true rfl) trivial rfl ?_
        refine V_iconst (q := 36) dX11_nights_35 rfl rfl ?_
        refine V_istore (q := 38) dX11_nights_36 (Nat.le_of_ble_eq_true rfl) trivial rfl ?_
        refine V_weak (kX11_nights_L38 d hd (fun v32 v33 μ34 h => ?_) FU h) (sb_s rfl (sb_s rfl (sb_s rfl (sb_s rfl (sb_s rfl (sb_s rfl (sb_s rfl (sb_n sb_0))))))))
        refine V_iload_n (q := 103) dX11_nights_102 rfl rfl rfl ?_
        refine V_ifne (q := 111) (q2 := 106) dX11_nights_103 (by decide) rfl (fun hc35 => ?_) (fun hc35 => ?_)
        · have h := ifF hc35 h
          refine V_iload (q := 113) dX11_nights_111 rfl rfl ?_
          exact V_iret rfl h dX11_nights_113
        · have h := ifT hc35 h
          refine V_iload (q := 108) dX11_nights_106 rfl rfl ?_
          refine V_goto (q := 113) dX11_nights_108 (by decide) ?_
          exact V_iret rfl h dX11_nights_113
      · have h := ifT hc12 h
        refine V_iconst (q := 28) dX11_nights_27 rfl rfl ?_
        exact V_iret rfl h dX11_nights_28
abbrev mX11_thud : Mth := (yX11_thud, cX11_thud, 3, some .int)
set_option maxRecDepth 100000 in
theorem mi_X11_thud : Cond.instanceMethod yX11_thud ∈ tG ∧ Cond.selects yX11_thud.cls yX11_thud yX11_thud ∈ tG ∧ Cond.initialized yX11_thud.cls ∈ tG ∧ Cond.code yX11_thud cX11_thud 3 (some .int) ∈ tG ∧ (yX11_thud.cls ≠ "java/lang/invoke/MethodHandle" ∧ yX11_thud.cls ≠ "java/lang/invoke/VarHandle" ∧ (parseMethodDescriptor yX11_thud.desc).map (fun d => d.parameters.length) = some 2) ∧ 3 ≤ 60 := ⟨(tG_of (tb7 (List.mem_of_getElem? (i := 125) rfl)) (by decide +kernel)), (tG_of (tb7 (List.mem_of_getElem? (i := 126) rfl)) (by decide +kernel)), (tG_of (tb1 (List.mem_of_getElem? (i := 12) rfl)) (by decide +kernel)), (tG_of (tb7 (List.mem_of_getElem? (i := 127) rfl)) (by decide +kernel)), ⟨by decide, by decide, by decide +kernel⟩, by decide⟩
theorem dX11_thud_0 : decode cX11_thud 0 = .ok (.aload_n 0, 1) := dc_42 (byA eNcX11_thud (p := 0) (v := 42) (by decide +kernel))
theorem dX11_thud_1 : decode cX11_thud 1 = .ok (.iload_n 2, 1) := dc_28 (byA eNcX11_thud (p := 1) (v := 28) (by decide +kernel))
theorem dX11_thud_2 : decode cX11_thud 2 = .ok (.invokevirtual 284, 3) := dc_182 (byA eNcX11_thud (p := 2) (v := 182) (by decide +kernel)) (byA eNcX11_thud (p := 3) (v := 1) (by decide +kernel)) (byA eNcX11_thud (p := 4) (v := 28) (by decide +kernel)) rfl
theorem dX11_thud_5 : decode cX11_thud 5 = .ok (.ifCond .eq 23, 3) := dc_153 (byA eNcX11_thud (p := 5) (v := 153) (by decide +kernel)) (byA eNcX11_thud (p := 6) (v := 0) (by decide +kernel)) (byA eNcX11_thud (p := 7) (v := 23) (by decide +kernel)) (by decide +kernel)
theorem dX11_thud_8 : decode cX11_thud 8 = .ok (.iload_n 1, 1) := dc_27 (byA eNcX11_thud (p := 8) (v := 27) (by decide +kernel))
theorem dX11_thud_9 : decode cX11_thud 9 = .ok (.iconst 0, 1) := dc_3 (byA eNcX11_thud (p := 9) (v := 3) (by decide +kernel))
theorem dX11_thud_10 : decode cX11_thud 10 = .ok (.sipush 999, 3) := dc_17 (byA eNcX11_thud (p := 10) (v := 17) (by decide +kernel)) (byA eNcX11_thud (p := 11) (v := 3) (by decide +kernel)) (byA eNcX11_thud (p := 12) (v := 231) (by decide +kernel)) (by decide +kernel)
theorem dX11_thud_13 : decode cX11_thud 13 = .ok (.invokestatic 213, 3) := dc_184 (byA eNcX11_thud (p := 13) (v := 184) (by decide +kernel)) (byA eNcX11_thud (p := 14) (v := 0) (by decide +kernel)) (byA eNcX11_thud (p := 15) (v := 213) (by decide +kernel)) rfl
theorem dX11_thud_16 : decode cX11_thud 16 = .ok (.ifCond .eq 12, 3) := dc_153 (byA eNcX11_thud (p := 16) (v := 153) (by decide +kernel)) (byA eNcX11_thud (p := 17) (v := 0) (by decide +kernel)) (byA eNcX11_thud (p := 18) (v := 12) (by decide +kernel)) (by decide +kernel)
theorem dX11_thud_19 : decode cX11_thud 19 = .ok (.aload_n 0, 1) := dc_42 (byA eNcX11_thud (p := 19) (v := 42) (by decide +kernel))
theorem dX11_thud_20 : decode cX11_thud 20 = .ok (.getfield 261, 3) := dc_180 (byA eNcX11_thud (p := 20) (v := 180) (by decide +kernel)) (byA eNcX11_thud (p := 21) (v := 1) (by decide +kernel)) (byA eNcX11_thud (p := 22) (v := 5) (by decide +kernel)) rfl
theorem dX11_thud_23 : decode cX11_thud 23 = .ok (.bipush 10, 2) := dc_16 (byA eNcX11_thud (p := 23) (v := 16) (by decide +kernel)) (byA eNcX11_thud (p := 24) (v := 10) (by decide +kernel)) (by decide +kernel)
theorem dX11_thud_25 : decode cX11_thud 25 = .ok (.if_icmp .ne 5, 3) := dc_160 (byA eNcX11_thud (p := 25) (v := 160) (by decide +kernel)) (byA eNcX11_thud (p := 26) (v := 0) (by decide +kernel)) (byA eNcX11_thud (p := 27) (v := 5) (by decide +kernel)) (by decide +kernel)
theorem dX11_thud_28 : decode cX11_thud 28 = .ok (.iconst (-1), 1) := dc_2 (byA eNcX11_thud (p := 28) (v := 2) (by decide +kernel))
theorem dX11_thud_29 : decode cX11_thud 29 = .ok (.ireturn, 1) := dc_172 (byA eNcX11_thud (p := 29) (v := 172) (by decide +kernel))
theorem dX11_thud_30 : decode cX11_thud 30 = .ok (.aload_n 0, 1) := dc_42 (byA eNcX11_thud (p := 30) (v := 42) (by decide +kernel))
theorem dX11_thud_31 : decode cX11_thud 31 = .ok (.getfield 83, 3) := dc_180 (byA eNcX11_thud (p := 31) (v := 180) (by decide +kernel)) (byA eNcX11_thud (p := 32) (v := 0) (by decide +kernel)) (byA eNcX11_thud (p := 33) (v := 83) (by decide +kernel)) rfl
theorem dX11_thud_34 : decode cX11_thud 34 = .ok (.aload_n 0, 1) := dc_42 (byA eNcX11_thud (p := 34) (v := 42) (by decide +kernel))
theorem dX11_thud_35 : decode cX11_thud 35 = .ok (.getfield 261, 3) := dc_180 (byA eNcX11_thud (p := 35) (v := 180) (by decide +kernel)) (byA eNcX11_thud (p := 36) (v := 1) (by decide +kernel)) (byA eNcX11_thud (p := 37) (v := 5) (by decide +kernel)) rfl
theorem dX11_thud_38 : decode cX11_thud 38 = .ok (.iload_n 1, 1) := dc_27 (byA eNcX11_thud (p := 38) (v := 27) (by decide +kernel))
theorem dX11_thud_39 : decode cX11_thud 39 = .ok (.iastore, 1) := dc_79 (byA eNcX11_thud (p := 39) (v := 79) (by decide +kernel))
theorem dX11_thud_40 : decode cX11_thud 40 = .ok (.aload_n 0, 1) := dc_42 (byA eNcX11_thud (p := 40) (v := 42) (by decide +kernel))
theorem dX11_thud_41 : decode cX11_thud 41 = .ok (.getfield 86, 3) := dc_180 (byA eNcX11_thud (p := 41) (v := 180) (by decide +kernel)) (byA eNcX11_thud (p := 42) (v := 0) (by decide +kernel)) (byA eNcX11_thud (p := 43) (v := 86) (by decide +kernel)) rfl
theorem dX11_thud_44 : decode cX11_thud 44 = .ok (.aload_n 0, 1) := dc_42 (byA eNcX11_thud (p := 44) (v := 42) (by decide +kernel))
theorem dX11_thud_45 : decode cX11_thud 45 = .ok (.getfield 261, 3) := dc_180 (byA eNcX11_thud (p := 45) (v := 180) (by decide +kernel)) (byA eNcX11_thud (p := 46) (v := 1) (by decide +kernel)) (byA eNcX11_thud (p := 47) (v := 5) (by decide +kernel)) rfl
theorem dX11_thud_48 : decode cX11_thud 48 = .ok (.iload_n 2, 1) := dc_28 (byA eNcX11_thud (p := 48) (v := 28) (by decide +kernel))
theorem dX11_thud_49 : decode cX11_thud 49 = .ok (.iastore, 1) := dc_79 (byA eNcX11_thud (p := 49) (v := 79) (by decide +kernel))
theorem dX11_thud_50 : decode cX11_thud 50 = .ok (.aload_n 0, 1) := dc_42 (byA eNcX11_thud (p := 50) (v := 42) (by decide +kernel))
theorem dX11_thud_51 : decode cX11_thud 51 = .ok (.dup, 1) := dc_89 (byA eNcX11_thud (p := 51) (v := 89) (by decide +kernel))
theorem dX11_thud_52 : decode cX11_thud 52 = .ok (.getfield 261, 3) := dc_180 (byA eNcX11_thud (p := 52) (v := 180) (by decide +kernel)) (byA eNcX11_thud (p := 53) (v := 1) (by decide +kernel)) (byA eNcX11_thud (p := 54) (v := 5) (by decide +kernel)) rfl
theorem dX11_thud_55 : decode cX11_thud 55 = .ok (.iconst 1, 1) := dc_4 (byA eNcX11_thud (p := 55) (v := 4) (by decide +kernel))
theorem dX11_thud_56 : decode cX11_thud 56 = .ok (.iadd, 1) := dc_96 (byA eNcX11_thud (p := 56) (v := 96) (by decide +kernel))
theorem dX11_thud_57 : decode cX11_thud 57 = .ok (.putfield 261, 3) := dc_181 (byA eNcX11_thud (p := 57) (v := 181) (by decide +kernel)) (byA eNcX11_thud (p := 58) (v := 1) (by decide +kernel)) (byA eNcX11_thud (p := 59) (v := 5) (by decide +kernel)) rfl
theorem dX11_thud_60 : decode cX11_thud 60 = .ok (.aload_n 0, 1) := dc_42 (byA eNcX11_thud (p := 60) (v := 42) (by decide +kernel))
theorem dX11_thud_61 : decode cX11_thud 61 = .ok (.getfield 261, 3) := dc_180 (byA eNcX11_thud (p := 61) (v := 180) (by decide +kernel)) (byA eNcX11_thud (p := 62) (v := 1) (by decide +kernel)) (byA eNcX11_thud (p := 63) (v := 5) (by decide +kernel)) rfl
theorem dX11_thud_64 : decode cX11_thud 64 = .ok (.ireturn, 1) := dc_172 (byA eNcX11_thud (p := 64) (v := 172) (by decide +kernel))
def X11_thud (l1 : Int) (l2 : Int) (μ : Mm) : Rs := bd (X11_isCrank l2 μ) fun v1 μ2 => if v1 = 0 then (some ((-1), μ2)) else (bd (X11_in l1 0 999 μ2) fun v5 μ6 => if v5 = 0 then (some ((-1), μ6)) else (if (μ6 70 45) = 10 then (some ((-1), μ6)) else (stA μ6 93 (μ6 70 45) l1 fun μ10 => stA μ10 94 (μ10 70 45) l2 fun μ12 => sF μ12 70 45 (iA (μ12 70 45) 1) fun μ14 => some (μ14 70 45, μ14))))
set_option maxHeartbeats 4000000 in
set_option maxRecDepth 100000 in
theorem kX11_thud (d : Nat) (hd : 4 ≤ d) {l1 : Int} {l2 : Int} {μ : Mm} {r : Int} {μ' : Mm} (h : X11_thud l1 l2 μ = some (r, μ')) : CC d mX11_thud [vR 70, vI l1, vI l2] μ r μ' := by
  unfold X11_thud at h
  refine V_enter (by decide) (Nat.le_of_ble_eq_true rfl) ?_
  show VV d mX11_thud 0 [some (vR 70), some (vI l1), some (vI l2)] [] μ r μ'
  refine V_aload_n (q := 1) dX11_thud_0 rfl rfl rfl ?_
  refine V_iload_n (q := 2) dX11_thud_1 rfl rfl rfl ?_
  obtain ⟨v1, μ2, hc3, h⟩ := bd_i h
  refine V_cV1 (q := 5) (v := vI v1) (kX11_isCrank (d - 1) (by omega) hc3) (by omega) mv_X11_284 rfl rfl rfl rfl rfl rfl dX11_thud_2 rfl ?_
  refine V_ifeq (q := 28) (q2 := 8) dX11_thud_5 (by decide) rfl (fun hc4 => ?_) (fun hc4 => ?_)
  · have h := ifT hc4 h
    refine V_iconst (q := 29) dX11_thud_28 rfl rfl ?_
    exact V_iret rfl h dX11_thud_29
  · have h := ifF hc4 h
    refine V_iload_n (q := 9) dX11_thud_8 rfl rfl rfl ?_
    refine V_iconst (q := 10) dX11_thud_9 rfl rfl ?_
    refine V_sipush (q := 13) dX11_thud_10 rfl rfl rfl ?_
    obtain ⟨v5, μ6, hc7, h⟩ := bd_i h
    refine V_cS1 (q := 16) (v := vI v5) (kX11_in (d - 1) (by omega) hc7) (by omega) mv_X11_213 rfl rfl rfl rfl dX11_thud_13 rfl ?_
    refine V_ifeq (q := 28) (q2 := 19) dX11_thud_16 (by decide) rfl (fun hc8 => ?_) (fun hc8 => ?_)
    · have h := ifT hc8 h
      refine V_iconst (q := 29) dX11_thud_28 rfl rfl ?_
      exact V_iret rfl h dX11_thud_29
    · have h := ifF hc8 h
      refine V_aload_n (q := 20) dX11_thud_19 rfl rfl rfl ?_
      refine V_getI (q := 23) fl_X11_261 rfl rfl rfl dX11_thud_20 rfl ?_
      refine V_bipush (q := 25) dX11_thud_23 rfl rfl rfl ?_
      refine V_icmpne (q := 30) (q2 := 28) dX11_thud_25 (by decide) rfl (fun hc9 => ?_) (fun hc9 => ?_)
      · have h := ifF hc9 h
        refine V_aload_n (q := 31) dX11_thud_30 rfl rfl rfl ?_
        refine V_getO (q := 34) (t := 93) fl_X11_83 rfl rfl rfl rfl dX11_thud_31 rfl ?_
        refine V_aload_n (q := 35) dX11_thud_34 rfl rfl rfl ?_
        refine V_getI (q := 38) fl_X11_261 rfl rfl rfl dX11_thud_35 rfl ?_
        refine V_iload_n (q := 39) dX11_thud_38 rfl rfl rfl ?_
        obtain ⟨hi11, h⟩ := stA_i h
        refine V_iastore (q := 40) rfl hi11 dX11_thud_39 rfl ?_
        refine V_aload_n (q := 41) dX11_thud_40 rfl rfl rfl ?_
        refine V_getO (q := 44) (t := 94) fl_X11_86 rfl rfl rfl rfl dX11_thud_41 rfl ?_
        refine V_aload_n (q := 45) dX11_thud_44 rfl rfl rfl ?_
        refine V_getI (q := 48) fl_X11_261 rfl rfl rfl dX11_thud_45 rfl ?_
        refine V_iload_n (q := 49) dX11_thud_48 rfl rfl rfl ?_
        obtain ⟨hi13, h⟩ := stA_i h
        refine V_iastore (q := 50) rfl hi13 dX11_thud_49 rfl ?_
        refine V_aload_n (q := 51) dX11_thud_50 rfl rfl rfl ?_
        refine V_dup (q := 52) dX11_thud_51 trivial rfl ?_
        refine V_getI (q := 55) fl_X11_261 rfl rfl rfl dX11_thud_52 rfl ?_
        refine V_iconst (q := 56) dX11_thud_55 rfl rfl ?_
        refine V_iadd (q := 57) dX11_thud_56 rfl ?_
        have h := sF_i h
        refine V_putI (q := 60) fl_X11_261 rfl rfl rfl dX11_thud_57 rfl ?_
        refine V_aload_n (q := 61) dX11_thud_60 rfl rfl rfl ?_
        refine V_getI (q := 64) fl_X11_261 rfl rfl rfl dX11_thud_61 rfl ?_
        exact V_iret rfl h dX11_thud_64
      · have h := ifT hc9 h
        refine V_iconst (q := 29) dX11_thud_28 rfl rfl ?_
        exact V_iret rfl h dX11_thud_29
abbrev mX11_fits : Mth := (yX11_fits, cX11_fits, 5, some .boolean)
set_option maxRecDepth 100000 in
theorem mi_X11_fits : Cond.instanceMethod yX11_fits ∈ tG ∧ Cond.selects yX11_fits.cls yX11_fits yX11_fits ∈ tG ∧ Cond.initialized yX11_fits.cls ∈ tG ∧ Cond.code yX11_fits cX11_fits 5 (some .boolean) ∈ tG ∧ (yX11_fits.cls ≠ "java/lang/invoke/MethodHandle" ∧ yX11_fits.cls ≠ "java/lang/invoke/VarHandle" ∧ (parseMethodDescriptor yX11_fits.desc).map (fun d => d.parameters.length) = some 1) ∧ 5 ≤ 60 := ⟨(tG_of (tb7 (List.mem_of_getElem? (i := 138) rfl)) (by decide +kernel)), (tG_of (List.mem_of_getElem? (i := 97) (by decide +kernel)) (by decide +kernel)), (tG_of (tb1 (List.mem_of_getElem? (i := 12) rfl)) (by decide +kernel)), (tG_of (tb7 (List.mem_of_getElem? (i := 139) rfl)) (by decide +kernel)), ⟨by decide, by decide, by decide +kernel⟩, by decide⟩
set_option maxRecDepth 100000 in
theorem mv_X11_375 : mV RX11 375 mX11_fits 1 := ⟨(tG_of (tb7 (List.mem_of_getElem? (i := 136) rfl)) (by decide +kernel)), mi_X11_fits⟩
theorem dX11_fits_0 : decode cX11_fits 0 = .ok (.iconst 0, 1) := dc_3 (byA eNcX11_fits (p := 0) (v := 3) (by decide +kernel))
theorem dX11_fits_1 : decode cX11_fits 1 = .ok (.istore_n 2, 1) := dc_61 (byA eNcX11_fits (p := 1) (v := 61) (by decide +kernel))
theorem dX11_fits_2 : decode cX11_fits 2 = .ok (.iload_n 2, 1) := dc_28 (byA eNcX11_fits (p := 2) (v := 28) (by decide +kernel))
theorem dX11_fits_3 : decode cX11_fits 3 = .ok (.aload_n 0, 1) := dc_42 (byA eNcX11_fits (p := 3) (v := 42) (by decide +kernel))
theorem dX11_fits_4 : decode cX11_fits 4 = .ok (.getfield 261, 3) := dc_180 (byA eNcX11_fits (p := 4) (v := 180) (by decide +kernel)) (byA eNcX11_fits (p := 5) (v := 1) (by decide +kernel)) (byA eNcX11_fits (p := 6) (v := 5) (by decide +kernel)) rfl
theorem dX11_fits_7 : decode cX11_fits 7 = .ok (.if_icmp .ge 92, 3) := dc_162 (byA eNcX11_fits (p := 7) (v := 162) (by decide +kernel)) (byA eNcX11_fits (p := 8) (v := 0) (by decide +kernel)) (byA eNcX11_fits (p := 9) (v := 92) (by decide +kernel)) (by decide +kernel)
theorem dX11_fits_10 : decode cX11_fits 10 = .ok (.iconst 0, 1) := dc_3 (byA eNcX11_fits (p := 10) (v := 3) (by decide +kernel))
theorem dX11_fits_11 : decode cX11_fits 11 = .ok (.istore_n 3, 1) := dc_62 (byA eNcX11_fits (p := 11) (v := 62) (by decide +kernel))
theorem dX11_fits_12 : decode cX11_fits 12 = .ok (.iconst 0, 1) := dc_3 (byA eNcX11_fits (p := 12) (v := 3) (by decide +kernel))
theorem dX11_fits_13 : decode cX11_fits 13 = .ok (.istore 4, 2) := dc_54 (byA eNcX11_fits (p := 13) (v := 54) (by decide +kernel)) (byA eNcX11_fits (p := 14) (v := 4) (by decide +kernel))
theorem dX11_fits_15 : decode cX11_fits 15 = .ok (.iload 4, 2) := dc_21 (byA eNcX11_fits (p := 15) (v := 21) (by decide +kernel)) (byA eNcX11_fits (p := 16) (v := 4) (by decide +kernel))
theorem dX11_fits_17 : decode cX11_fits 17 = .ok (.aload_n 0, 1) := dc_42 (byA eNcX11_fits (p := 17) (v := 42) (by decide +kernel))
theorem dX11_fits_18 : decode cX11_fits 18 = .ok (.getfield 316, 3) := dc_180 (byA eNcX11_fits (p := 18) (v := 180) (by decide +kernel)) (byA eNcX11_fits (p := 19) (v := 1) (by decide +kernel)) (byA eNcX11_fits (p := 20) (v := 60) (by decide +kernel)) rfl
theorem dX11_fits_21 : decode cX11_fits 21 = .ok (.if_icmp .ge 66, 3) := dc_162 (byA eNcX11_fits (p := 21) (v := 162) (by decide +kernel)) (byA eNcX11_fits (p := 22) (v := 0) (by decide +kernel)) (byA eNcX11_fits (p := 23) (v := 66) (by decide +kernel)) (by decide +kernel)
theorem dX11_fits_24 : decode cX11_fits 24 = .ok (.iload_n 3, 1) := dc_29 (byA eNcX11_fits (p := 24) (v := 29) (by decide +kernel))
theorem dX11_fits_25 : decode cX11_fits 25 = .ok (.ifCond .ne 50, 3) := dc_154 (byA eNcX11_fits (p := 25) (v := 154) (by decide +kernel)) (byA eNcX11_fits (p := 26) (v := 0) (by decide +kernel)) (byA eNcX11_fits (p := 27) (v := 50) (by decide +kernel)) (by decide +kernel)
theorem dX11_fits_28 : decode cX11_fits 28 = .ok (.aload_n 0, 1) := dc_42 (byA eNcX11_fits (p := 28) (v := 42) (by decide +kernel))
theorem dX11_fits_29 : decode cX11_fits 29 = .ok (.getfield 46, 3) := dc_180 (byA eNcX11_fits (p := 29) (v := 180) (by decide +kernel)) (byA eNcX11_fits (p := 30) (v := 0) (by decide +kernel)) (byA eNcX11_fits (p := 31) (v := 46) (by decide +kernel)) rfl
theorem dX11_fits_32 : decode cX11_fits 32 = .ok (.bipush 8, 2) := dc_16 (byA eNcX11_fits (p := 32) (v := 16) (by decide +kernel)) (byA eNcX11_fits (p := 33) (v := 8) (by decide +kernel)) (by decide +kernel)
theorem dX11_fits_34 : decode cX11_fits 34 = .ok (.iload_n 1, 1) := dc_27 (byA eNcX11_fits (p := 34) (v := 27) (by decide +kernel))
theorem dX11_fits_35 : decode cX11_fits 35 = .ok (.imul, 1) := dc_104 (byA eNcX11_fits (p := 35) (v := 104) (by decide +kernel))
theorem dX11_fits_36 : decode cX11_fits 36 = .ok (.iload 4, 2) := dc_21 (byA eNcX11_fits (p := 36) (v := 21) (by decide +kernel)) (byA eNcX11_fits (p := 37) (v := 4) (by decide +kernel))
theorem dX11_fits_38 : decode cX11_fits 38 = .ok (.iadd, 1) := dc_96 (byA eNcX11_fits (p := 38) (v := 96) (by decide +kernel))
theorem dX11_fits_39 : decode cX11_fits 39 = .ok (.iaload, 1) := dc_46 (byA eNcX11_fits (p := 39) (v := 46) (by decide +kernel))
theorem dX11_fits_40 : decode cX11_fits 40 = .ok (.aload_n 0, 1) := dc_42 (byA eNcX11_fits (p := 40) (v := 42) (by decide +kernel))
theorem dX11_fits_41 : decode cX11_fits 41 = .ok (.getfield 86, 3) := dc_180 (byA eNcX11_fits (p := 41) (v := 180) (by decide +kernel)) (byA eNcX11_fits (p := 42) (v := 0) (by decide +kernel)) (byA eNcX11_fits (p := 43) (v := 86) (by decide +kernel)) rfl
theorem dX11_fits_44 : decode cX11_fits 44 = .ok (.iload_n 2, 1) := dc_28 (byA eNcX11_fits (p := 44) (v := 28) (by decide +kernel))
theorem dX11_fits_45 : decode cX11_fits 45 = .ok (.iaload, 1) := dc_46 (byA eNcX11_fits (p := 45) (v := 46) (by decide +kernel))
theorem dX11_fits_46 : decode cX11_fits 46 = .ok (.if_icmp .ne 33, 3) := dc_160 (byA eNcX11_fits (p := 46) (v := 160) (by decide +kernel)) (byA eNcX11_fits (p := 47) (v := 0) (by decide +kernel)) (byA eNcX11_fits (p := 48) (v := 33) (by decide +kernel)) (by decide +kernel)
theorem dX11_fits_49 : decode cX11_fits 49 = .ok (.aload_n 0, 1) := dc_42 (byA eNcX11_fits (p := 49) (v := 42) (by decide +kernel))
theorem dX11_fits_50 : decode cX11_fits 50 = .ok (.getfield 83, 3) := dc_180 (byA eNcX11_fits (p := 50) (v := 180) (by decide +kernel)) (byA eNcX11_fits (p := 51) (v := 0) (by decide +kernel)) (byA eNcX11_fits (p := 52) (v := 83) (by decide +kernel)) rfl
theorem dX11_fits_53 : decode cX11_fits 53 = .ok (.iload_n 2, 1) := dc_28 (byA eNcX11_fits (p := 53) (v := 28) (by decide +kernel))
theorem dX11_fits_54 : decode cX11_fits 54 = .ok (.iaload, 1) := dc_46 (byA eNcX11_fits (p := 54) (v := 46) (by decide +kernel))
theorem dX11_fits_55 : decode cX11_fits 55 = .ok (.aload_n 0, 1) := dc_42 (byA eNcX11_fits (p := 55) (v := 42) (by decide +kernel))
theorem dX11_fits_56 : decode cX11_fits 56 = .ok (.getfield 77, 3) := dc_180 (byA eNcX11_fits (p := 56) (v := 180) (by decide +kernel)) (byA eNcX11_fits (p := 57) (v := 0) (by decide +kernel)) (byA eNcX11_fits (p := 58) (v := 77) (by decide +kernel)) rfl
theorem dX11_fits_59 : decode cX11_fits 59 = .ok (.iload 4, 2) := dc_21 (byA eNcX11_fits (p := 59) (v := 21) (by decide +kernel)) (byA eNcX11_fits (p := 60) (v := 4) (by decide +kernel))
theorem dX11_fits_61 : decode cX11_fits 61 = .ok (.iaload, 1) := dc_46 (byA eNcX11_fits (p := 61) (v := 46) (by decide +kernel))
theorem dX11_fits_62 : decode cX11_fits 62 = .ok (.aload_n 0, 1) := dc_42 (byA eNcX11_fits (p := 62) (v := 42) (by decide +kernel))
theorem dX11_fits_63 : decode cX11_fits 63 = .ok (.getfield 80, 3) := dc_180 (byA eNcX11_fits (p := 63) (v := 180) (by decide +kernel)) (byA eNcX11_fits (p := 64) (v := 0) (by decide +kernel)) (byA eNcX11_fits (p := 65) (v := 80) (by decide +kernel)) rfl
theorem dX11_fits_66 : decode cX11_fits 66 = .ok (.iload 4, 2) := dc_21 (byA eNcX11_fits (p := 66) (v := 21) (by decide +kernel)) (byA eNcX11_fits (p := 67) (v := 4) (by decide +kernel))
theorem dX11_fits_68 : decode cX11_fits 68 = .ok (.iaload, 1) := dc_46 (byA eNcX11_fits (p := 68) (v := 46) (by decide +kernel))
theorem dX11_fits_69 : decode cX11_fits 69 = .ok (.invokestatic 213, 3) := dc_184 (byA eNcX11_fits (p := 69) (v := 184) (by decide +kernel)) (byA eNcX11_fits (p := 70) (v := 0) (by decide +kernel)) (byA eNcX11_fits (p := 71) (v := 213) (by decide +kernel)) rfl
theorem dX11_fits_72 : decode cX11_fits 72 = .ok (.ifCond .eq 7, 3) := dc_153 (byA eNcX11_fits (p := 72) (v := 153) (by decide +kernel)) (byA eNcX11_fits (p := 73) (v := 0) (by decide +kernel)) (byA eNcX11_fits (p := 74) (v := 7) (by decide +kernel)) (by decide +kernel)
theorem dX11_fits_75 : decode cX11_fits 75 = .ok (.iconst 1, 1) := dc_4 (byA eNcX11_fits (p := 75) (v := 4) (by decide +kernel))
theorem dX11_fits_76 : decode cX11_fits 76 = .ok (.goto 4, 3) := dc_167 (byA eNcX11_fits (p := 76) (v := 167) (by decide +kernel)) (byA eNcX11_fits (p := 77) (v := 0) (by decide +kernel)) (byA eNcX11_fits (p := 78) (v := 4) (by decide +kernel)) (by decide +kernel)
theorem dX11_fits_79 : decode cX11_fits 79 = .ok (.iconst 0, 1) := dc_3 (byA eNcX11_fits (p := 79) (v := 3) (by decide +kernel))
theorem dX11_fits_80 : decode cX11_fits 80 = .ok (.istore_n 3, 1) := dc_62 (byA eNcX11_fits (p := 80) (v := 62) (by decide +kernel))
theorem dX11_fits_81 : decode cX11_fits 81 = .ok (.iinc 4 1, 3) := dc_132 (byA eNcX11_fits (p := 81) (v := 132) (by decide +kernel)) (byA eNcX11_fits (p := 82) (v := 4) (by decide +kernel)) (byA eNcX11_fits (p := 83) (v := 1) (by decide +kernel)) (by decide +kernel)
theorem dX11_fits_84 : decode cX11_fits 84 = .ok (.goto (-69), 3) := dc_167 (byA eNcX11_fits (p := 84) (v := 167) (by decide +kernel)) (byA eNcX11_fits (p := 85) (v := 255) (by decide +kernel)) (byA eNcX11_fits (p := 86) (v := 187) (by decide +kernel)) (by decide +kernel)
theorem dX11_fits_87 : decode cX11_fits 87 = .ok (.iload_n 3, 1) := dc_29 (byA eNcX11_fits (p := 87) (v := 29) (by decide +kernel))
theorem dX11_fits_88 : decode cX11_fits 88 = .ok (.ifCond .ne 5, 3) := dc_154 (byA eNcX11_fits (p := 88) (v := 154) (by decide +kernel)) (byA eNcX11_fits (p := 89) (v := 0) (by decide +kernel)) (byA eNcX11_fits (p := 90) (v := 5) (by decide +kernel)) (by decide +kernel)
theorem dX11_fits_91 : decode cX11_fits 91 = .ok (.iconst 0, 1) := dc_3 (byA eNcX11_fits (p := 91) (v := 3) (by decide +kernel))
theorem dX11_fits_92 : decode cX11_fits 92 = .ok (.ireturn, 1) := dc_172 (byA eNcX11_fits (p := 92) (v := 172) (by decide +kernel))
theorem dX11_fits_93 : decode cX11_fits 93 = .ok (.iinc 2 1, 3) := dc_132 (byA eNcX11_fits (p := 93) (v := 132) (by decide +kernel)) (byA eNcX11_fits (p := 94) (v := 2) (by decide +kernel)) (byA eNcX11_fits (p := 95) (v := 1) (by decide +kernel)) (by decide +kernel)
theorem dX11_fits_96 : decode cX11_fits 96 = .ok (.goto (-94), 3) := dc_167 (byA eNcX11_fits (p := 96) (v := 167) (by decide +kernel)) (byA eNcX11_fits (p := 97) (v := 255) (by decide +kernel)) (byA eNcX11_fits (p := 98) (v := 162) (by decide +kernel)) (by decide +kernel)
theorem dX11_fits_99 : decode cX11_fits 99 = .ok (.iconst 1, 1) := dc_4 (byA eNcX11_fits (p := 99) (v := 4) (by decide +kernel))
theorem dX11_fits_100 : decode cX11_fits 100 = .ok (.ireturn, 1) := dc_172 (byA eNcX11_fits (p := 100) (v := 172) (by decide +kernel))
def X11_fits_L15 (l1 : Int) (l2 : Int) (k87 : Int → Mm → Rs) : Nat → Int → Int → Mm → Rs
  | 0, _, _, _ => none
  | n + 1, l3, l4, μ => if (μ 70 37) ≤ l4 then (k87 l3 μ) else (if l3 = 0 then (ldA μ 83 (iA (iM 8 l1) l4) fun v4 => ldA μ 94 l2 fun v6 => if v4 = v6 then (ldA μ 93 l2 fun v9 => ldA μ 91 l4 fun v11 => ldA μ 92 l4 fun v13 => bd (X11_in v9 v11 v13 μ) fun v15 μ16 => if v15 = 0 then (X11_fits_L15 l1 l2 k87 n 0 (iA l4 1) μ16) else (X11_fits_L15 l1 l2 k87 n 1 (iA l4 1) μ16)) else (X11_fits_L15 l1 l2 k87 n 0 (iA l4 1) μ)) else (X11_fits_L15 l1 l2 k87 n 1 (iA l4 1) μ))
def X11_fits_L2 (l1 : Int) : Nat → Int → Mm → Rs
  | 0, _, _ => none
  | n + 1, l2, μ => if (μ 70 45) ≤ l2 then (some (1, μ)) else (X11_fits_L15 l1 l2 (fun v19 μ20 => if v19 = 0 then (some (0, μ20)) else (X11_fits_L2 l1 n (iA l2 1) μ20)) FU 0 0 μ)
def X11_fits (l1 : Int) (μ : Mm) : Rs := X11_fits_L2 l1 FU 0 μ
set_option maxHeartbeats 4000000 in
set_option maxRecDepth 100000 in
theorem kX11_fits_L15 (d : Nat) (hd : 2 ≤ d) {l1 : Int} {l2 : Int} {k87 : Int → Mm → Rs} {r : Int} {μ' : Mm} (hk_87 : ∀ (v3 : Int) (μ1 : Mm), k87 v3 μ1 = some (r, μ') → VV d mX11_fits 87 [some (vR 70), some (vI l1), some (vI l2), some (vI v3), none] [] μ1 r μ') : ∀ (n : Nat) {l3 l4 : Int} {μ : Mm}, X11_fits_L15 l1 l2 k87 n l3 l4 μ = some (r, μ') → VV d mX11_fits 15 [some (vR 70), some (vI l1), some (vI l2), some (vI l3), some (vI l4)] [] μ r μ' := by
  intro n
  induction n with
  | zero => intro l3 l4 μ h; rw [X11_fits_L15] at h; cases h
  | succ n ih =>
    intro l3 l4 μ h
    rw [X11_fits_L15] at h
    refine V_iload (q := 17) dX11_fits_15 rfl rfl ?_
    refine V_aload_n (q := 18) dX11_fits_17 rfl rfl rfl ?_
    refine V_getI (q := 21) fl_X11_316 rfl rfl rfl dX11_fits_18 rfl ?_
    refine V_icmpge (q := 87) (q2 := 24) dX11_fits_21 (by decide) rfl (fun hc2 => ?_) (fun hc2 => ?_)
    · have h := ifT hc2 h
      exact V_weak (hk_87 _ _ h) (sb_s rfl (sb_s rfl (sb_s rfl (sb_s rfl (sb_n sb_0)))))
    · have h := ifF hc2 h
      refine V_iload_n (q := 25) dX11_fits_24 rfl rfl rfl ?_
      refine V_ifne (q := 75) (q2 := 28) dX11_fits_25 (by decide) rfl (fun hc3 => ?_) (fun hc3 => ?_)
      · have h := ifF hc3 h
        refine V_iconst (q := 76) dX11_fits_75 rfl rfl ?_
        refine V_goto (q := 80) dX11_fits_76 (by decide) ?_
        refine V_istore_n (q := 81) dX11_fits_80 rfl (Nat.le_of_ble_eq_true rfl) trivial rfl ?_
        refine V_iinc (q := 84) dX11_fits_81 rfl (Nat.le_of_ble_eq_true rfl) trivial rfl ?_
        refine V_goto (q := 15) dX11_fits_84 (by decide) ?_
        exact V_weak (ih h) (sb_s rfl (sb_s rfl (sb_s rfl (sb_s rfl (sb_s rfl sb_0)))))
      · have h := ifT hc3 h
        refine V_aload_n (q := 29) dX11_fits_28 rfl rfl rfl ?_
        refine V_getO (q := 32) (t := 83) fl_X11_46 rfl rfl rfl rfl dX11_fits_29 rfl ?_
        refine V_bipush (q := 34) dX11_fits_32 rfl rfl rfl ?_
        refine V_iload_n (q := 35) dX11_fits_34 rfl rfl rfl ?_
        refine V_imul (q := 36) dX11_fits_35 rfl ?_
        refine V_iload (q := 38) dX11_fits_36 rfl rfl ?_
        refine V_iadd (q := 39) dX11_fits_38 rfl ?_
        obtain ⟨hi5, h⟩ := ldA_i h
        refine V_iaload (q := 40) rfl hi5 dX11_fits_39 rfl ?_
        refine V_aload_n (q := 41) dX11_fits_40 rfl rfl rfl ?_
        refine V_getO (q := 44) (t := 94) fl_X11_86 rfl rfl rfl rfl dX11_fits_41 rfl ?_
        refine V_iload_n (q := 45) dX11_fits_44 rfl rfl rfl ?_
        obtain ⟨hi7, h⟩ := ldA_i h
        refine V_iaload (q := 46) rfl hi7 dX11_fits_45 rfl ?_
        refine V_icmpne (q := 79) (q2 := 49) dX11_fits_46 (by decide) rfl (fun hc8 => ?_) (fun hc8 => ?_)
        · have h := ifF hc8 h
          refine V_iconst (q := 80) dX11_fits_79 rfl rfl ?_
          refine V_istore_n (q := 81) dX11_fits_80 rfl (Nat.le_of_ble_eq_true rfl) trivial rfl ?_
          refine V_iinc (q := 84) dX11_fits_81 rfl (Nat.le_of_ble_eq_true rfl) trivial rfl ?_
          refine V_goto (q := 15) dX11_fits_84 (by decide) ?_
          exact V_weak (ih h) (sb_s rfl (sb_s rfl (sb_s rfl (sb_s rfl (sb_s rfl sb_0)))))
        · have h := ifT hc8 h
          refine V_aload_n (q := 50) dX11_fits_49 rfl rfl rfl ?_
          refine V_getO (q := 53) (t := 93) fl_X11_83 rfl rfl rfl rfl dX11_fits_50 rfl ?_
          refine V_iload_n (q := 54) dX11_fits_53 rfl rfl rfl ?_
          obtain ⟨hi10, h⟩ := ldA_i h
          refine V_iaload (q := 55) rfl hi10 dX11_fits_54 rfl ?_
          refine V_aload_n (q := 56) dX11_fits_55 rfl rfl rfl ?_
          refine V_getO (q := 59) (t := 91) fl_X11_77 rfl rfl rfl rfl dX11_fits_56 rfl ?_
          refine V_iload (q := 61) dX11_fits_59 rfl rfl ?_
          obtain ⟨hi12, h⟩ := ldA_i h
          refine V_iaload (q := 62) rfl hi12 dX11_fits_61 rfl ?_
          refine V_aload_n (q := 63) dX11_fits_62 rfl rfl rfl ?_
          refine V_getO (q := 66) (t := 92) fl_X11_80 rfl rfl rfl rfl dX11_fits_63 rfl ?_
          refine V_iload (q := 68) dX11_fits_66 rfl rfl ?_
          obtain ⟨hi14, h⟩ := ldA_i h
          refine V_iaload (q := 69) rfl hi14 dX11_fits_68 rfl ?_
          obtain ⟨v15, μ16, hc17, h⟩ := bd_i h
          refine V_cS1 (q := 72) (v := vI v15) (kX11_in (d - 1) (by omega) hc17) (by omega) mv_X11_213 rfl rfl rfl rfl dX11_fits_69 rfl ?_
          refine V_ifeq (q := 79) (q2 := 75) dX11_fits_72 (by decide) rfl (fun hc18 => ?_) (fun hc18 => ?_)
          · have h := ifT hc18 h
            refine V_iconst (q := 80) dX11_fits_79 rfl rfl ?_
            refine V_istore_n (q := 81) dX11_fits_80 rfl (Nat.le_of_ble_eq_true rfl) trivial rfl ?_
            refine V_iinc (q := 84) dX11_fits_81 rfl (Nat.le_of_ble_eq_true rfl) trivial rfl ?_
            refine V_goto (q := 15) dX11_fits_84 (by decide) ?_
            exact V_weak (ih h) (sb_s rfl (sb_s rfl (sb_s rfl (sb_s rfl (sb_s rfl sb_0)))))
          · have h := ifF hc18 h
            refine V_iconst (q := 76) dX11_fits_75 rfl rfl ?_
            refine V_goto (q := 80) dX11_fits_76 (by decide) ?_
            refine V_istore_n (q := 81) dX11_fits_80 rfl (Nat.le_of_ble_eq_true rfl) trivial rfl ?_
            refine V_iinc (q := 84) dX11_fits_81 rfl (Nat.le_of_ble_eq_true rfl) trivial rfl ?_
            refine V_goto (q := 15) dX11_fits_84 (by decide) ?_
            exact V_weak (ih h) (sb_s rfl (sb_s rfl (sb_s rfl (sb_s rfl (sb_s rfl sb_0)))))
set_option maxHeartbeats 4000000 in
set_option maxRecDepth 100000 in
theorem kX11_fits_L2 (d : Nat) (hd : 2 ≤ d) {l1 : Int} {r : Int} {μ' : Mm} : ∀ (n : Nat) {l2 : Int} {μ : Mm}, X11_fits_L2 l1 n l2 μ = some (r, μ') → VV d mX11_fits 2 [some (vR 70), some (vI l1), some (vI l2), none, none] [] μ r μ' := by
  intro n
  induction n with
  | zero => intro l2 μ h; rw [X11_fits_L2] at h; cases h
  | succ n ih =>
    intro l2 μ h
    rw [X11_fits_L2] at h
    refine V_iload_n (q := 3) dX11_fits_2 rfl rfl rfl ?_
    refine V_aload_n (q := 4) dX11_fits_3 rfl rfl rfl ?_
    refine V_getI (q := 7) fl_X11_261 rfl rfl rfl dX11_fits_4 rfl ?_
    refine V_icmpge (q := 99) (q2 := 10) dX11_fits_7 (by decide) rfl (fun hc1 => ?_) (fun hc1 => ?_)
    · have h := ifT hc1 h
      refine V_iconst (q := 100) dX11_fits_99 rfl rfl ?_
      exact V_zret rfl (Or.inr rfl) h dX11_fits_100
    · have h := ifF hc1 h
      refine V_iconst (q := 11) dX11_fits_10 rfl rfl ?_
      refine V_istore_n (q := 12) dX11_fits_11 rfl (Nat.le_of_ble_eq_true rfl) trivial rfl ?_
      refine V_iconst (q := 13) dX11_fits_12 rfl rfl ?_
      refine V_istore (q := 15) dX11_fits_13 (Nat.le_of_ble_eq_true rfl) trivial rfl ?_
      refine V_weak (kX11_fits_L15 d hd (fun v19 μ20 h => ?_) FU h) (sb_s rfl (sb_s rfl (sb_s rfl (sb_s rfl (sb_s rfl sb_0)))))
      refine V_iload_n (q := 88) dX11_fits_87 rfl rfl rfl ?_
      refine V_ifne (q := 93) (q2 := 91) dX11_fits_88 (by decide) rfl (fun hc21 => ?_) (fun hc21 => ?_)
      · have h := ifF hc21 h
        refine V_iinc (q := 96) dX11_fits_93 rfl (Nat.le_of_ble_eq_true rfl) trivial rfl ?_
        refine V_goto (q := 2) dX11_fits_96 (by decide) ?_
        exact V_weak (ih h) (sb_s rfl (sb_s rfl (sb_s rfl (sb_n (sb_n sb_0)))))
      · have h := ifT hc21 h
        refine V_iconst (q := 92) dX11_fits_91 rfl rfl ?_
        exact V_zret rfl (Or.inl rfl) h dX11_fits_92
set_option maxHeartbeats 4000000 in
set_option maxRecDepth 100000 in
theorem kX11_fits (d : Nat) (hd : 2 ≤ d) {l1 : Int} {μ : Mm} {r : Int} {μ' : Mm} (h : X11_fits l1 μ = some (r, μ')) : CC d mX11_fits [vR 70, vI l1] μ r μ' := by
  unfold X11_fits at h
  refine V_enter (by decide) (Nat.le_of_ble_eq_true rfl) ?_
  show VV d mX11_fits 0 [some (vR 70), some (vI l1), none, none, none] [] μ r μ'
  refine V_iconst (q := 1) dX11_fits_0 rfl rfl ?_
  refine V_istore_n (q := 2) dX11_fits_1 rfl (Nat.le_of_ble_eq_true rfl) trivial rfl ?_
  exact V_weak (kX11_fits_L2 d hd  FU h) (sb_s rfl (sb_s rfl (sb_s rfl (sb_n (sb_n sb_0)))))
abbrev mX11_fitFrom : Mth := (yX11_fitFrom, cX11_fitFrom, 6, none)
set_option maxRecDepth 100000 in
theorem mi_X11_fitFrom : Cond.instanceMethod yX11_fitFrom ∈ tG ∧ Cond.selects yX11_fitFrom.cls yX11_fitFrom yX11_fitFrom ∈ tG ∧ Cond.initialized yX11_fitFrom.cls ∈ tG ∧ Cond.code yX11_fitFrom cX11_fitFrom 6 (none) ∈ tG ∧ (yX11_fitFrom.cls ≠ "java/lang/invoke/MethodHandle" ∧ yX11_fitFrom.cls ≠ "java/lang/invoke/VarHandle" ∧ (parseMethodDescriptor yX11_fitFrom.desc).map (fun d => d.parameters.length) = some 4) ∧ 6 ≤ 60 := ⟨(tG_of (tb7 (List.mem_of_getElem? (i := 134) rfl)) (by decide +kernel)), (tG_of (List.mem_of_getElem? (i := 96) (by decide +kernel)) (by decide +kernel)), (tG_of (tb1 (List.mem_of_getElem? (i := 12) rfl)) (by decide +kernel)), (tG_of (tb7 (List.mem_of_getElem? (i := 135) rfl)) (by decide +kernel)), ⟨by decide, by decide, by decide +kernel⟩, by decide⟩
set_option maxRecDepth 100000 in
theorem mv_X11_384 : mV RX11 384 mX11_fitFrom 4 := ⟨(tG_of (tb7 (List.mem_of_getElem? (i := 132) rfl)) (by decide +kernel)), mi_X11_fitFrom⟩
theorem dX11_fitFrom_0 : decode cX11_fitFrom 0 = .ok (.iload_n 2, 1) := dc_28 (byA eNcX11_fitFrom (p := 0) (v := 28) (by decide +kernel))
theorem dX11_fitFrom_1 : decode cX11_fitFrom 1 = .ok (.ifCond .ne 51, 3) := dc_154 (byA eNcX11_fitFrom (p := 1) (v := 154) (by decide +kernel)) (byA eNcX11_fitFrom (p := 2) (v := 0) (by decide +kernel)) (byA eNcX11_fitFrom (p := 3) (v := 51) (by decide +kernel)) (by decide +kernel)
theorem dX11_fitFrom_4 : decode cX11_fitFrom 4 = .ok (.aload_n 0, 1) := dc_42 (byA eNcX11_fitFrom (p := 4) (v := 42) (by decide +kernel))
theorem dX11_fitFrom_5 : decode cX11_fitFrom 5 = .ok (.iload_n 3, 1) := dc_29 (byA eNcX11_fitFrom (p := 5) (v := 29) (by decide +kernel))
theorem dX11_fitFrom_6 : decode cX11_fitFrom 6 = .ok (.invokevirtual 341, 3) := dc_182 (byA eNcX11_fitFrom (p := 6) (v := 182) (by decide +kernel)) (byA eNcX11_fitFrom (p := 7) (v := 1) (by decide +kernel)) (byA eNcX11_fitFrom (p := 8) (v := 85) (by decide +kernel)) rfl
theorem dX11_fitFrom_9 : decode cX11_fitFrom 9 = .ok (.ifCond .eq 42, 3) := dc_153 (byA eNcX11_fitFrom (p := 9) (v := 153) (by decide +kernel)) (byA eNcX11_fitFrom (p := 10) (v := 0) (by decide +kernel)) (byA eNcX11_fitFrom (p := 11) (v := 42) (by decide +kernel)) (by decide +kernel)
theorem dX11_fitFrom_12 : decode cX11_fitFrom 12 = .ok (.aload_n 0, 1) := dc_42 (byA eNcX11_fitFrom (p := 12) (v := 42) (by decide +kernel))
theorem dX11_fitFrom_13 : decode cX11_fitFrom 13 = .ok (.iload_n 1, 1) := dc_27 (byA eNcX11_fitFrom (p := 13) (v := 27) (by decide +kernel))
theorem dX11_fitFrom_14 : decode cX11_fitFrom 14 = .ok (.invokevirtual 375, 3) := dc_182 (byA eNcX11_fitFrom (p := 14) (v := 182) (by decide +kernel)) (byA eNcX11_fitFrom (p := 15) (v := 1) (by decide +kernel)) (byA eNcX11_fitFrom (p := 16) (v := 119) (by decide +kernel)) rfl
theorem dX11_fitFrom_17 : decode cX11_fitFrom 17 = .ok (.ifCond .eq 34, 3) := dc_153 (byA eNcX11_fitFrom (p := 17) (v := 153) (by decide +kernel)) (byA eNcX11_fitFrom (p := 18) (v := 0) (by decide +kernel)) (byA eNcX11_fitFrom (p := 19) (v := 34) (by decide +kernel)) (by decide +kernel)
theorem dX11_fitFrom_20 : decode cX11_fitFrom 20 = .ok (.aload_n 0, 1) := dc_42 (byA eNcX11_fitFrom (p := 20) (v := 42) (by decide +kernel))
theorem dX11_fitFrom_21 : decode cX11_fitFrom 21 = .ok (.aload_n 0, 1) := dc_42 (byA eNcX11_fitFrom (p := 21) (v := 42) (by decide +kernel))
theorem dX11_fitFrom_22 : decode cX11_fitFrom 22 = .ok (.getfield 378, 3) := dc_180 (byA eNcX11_fitFrom (p := 22) (v := 180) (by decide +kernel)) (byA eNcX11_fitFrom (p := 23) (v := 1) (by decide +kernel)) (byA eNcX11_fitFrom (p := 24) (v := 122) (by decide +kernel)) rfl
theorem dX11_fitFrom_25 : decode cX11_fitFrom 25 = .ok (.iload 4, 2) := dc_21 (byA eNcX11_fitFrom (p := 25) (v := 21) (by decide +kernel)) (byA eNcX11_fitFrom (p := 26) (v := 4) (by decide +kernel))
theorem dX11_fitFrom_27 : decode cX11_fitFrom 27 = .ok (.if_icmp .ne 7, 3) := dc_160 (byA eNcX11_fitFrom (p := 27) (v := 160) (by decide +kernel)) (byA eNcX11_fitFrom (p := 28) (v := 0) (by decide +kernel)) (byA eNcX11_fitFrom (p := 29) (v := 7) (by decide +kernel)) (by decide +kernel)
theorem dX11_fitFrom_30 : decode cX11_fitFrom 30 = .ok (.iload_n 3, 1) := dc_29 (byA eNcX11_fitFrom (p := 30) (v := 29) (by decide +kernel))
theorem dX11_fitFrom_31 : decode cX11_fitFrom 31 = .ok (.goto 7, 3) := dc_167 (byA eNcX11_fitFrom (p := 31) (v := 167) (by decide +kernel)) (byA eNcX11_fitFrom (p := 32) (v := 0) (by decide +kernel)) (byA eNcX11_fitFrom (p := 33) (v := 7) (by decide +kernel)) (by decide +kernel)
theorem dX11_fitFrom_34 : decode cX11_fitFrom 34 = .ok (.aload_n 0, 1) := dc_42 (byA eNcX11_fitFrom (p := 34) (v := 42) (by decide +kernel))
theorem dX11_fitFrom_35 : decode cX11_fitFrom 35 = .ok (.getfield 381, 3) := dc_180 (byA eNcX11_fitFrom (p := 35) (v := 180) (by decide +kernel)) (byA eNcX11_fitFrom (p := 36) (v := 1) (by decide +kernel)) (byA eNcX11_fitFrom (p := 37) (v := 125) (by decide +kernel)) rfl
theorem dX11_fitFrom_38 : decode cX11_fitFrom 38 = .ok (.putfield 381, 3) := dc_181 (byA eNcX11_fitFrom (p := 38) (v := 181) (by decide +kernel)) (byA eNcX11_fitFrom (p := 39) (v := 1) (by decide +kernel)) (byA eNcX11_fitFrom (p := 40) (v := 125) (by decide +kernel)) rfl
theorem dX11_fitFrom_41 : decode cX11_fitFrom 41 = .ok (.aload_n 0, 1) := dc_42 (byA eNcX11_fitFrom (p := 41) (v := 42) (by decide +kernel))
theorem dX11_fitFrom_42 : decode cX11_fitFrom 42 = .ok (.dup, 1) := dc_89 (byA eNcX11_fitFrom (p := 42) (v := 89) (by decide +kernel))
theorem dX11_fitFrom_43 : decode cX11_fitFrom 43 = .ok (.getfield 378, 3) := dc_180 (byA eNcX11_fitFrom (p := 43) (v := 180) (by decide +kernel)) (byA eNcX11_fitFrom (p := 44) (v := 1) (by decide +kernel)) (byA eNcX11_fitFrom (p := 45) (v := 122) (by decide +kernel)) rfl
theorem dX11_fitFrom_46 : decode cX11_fitFrom 46 = .ok (.iconst 1, 1) := dc_4 (byA eNcX11_fitFrom (p := 46) (v := 4) (by decide +kernel))
theorem dX11_fitFrom_47 : decode cX11_fitFrom 47 = .ok (.iadd, 1) := dc_96 (byA eNcX11_fitFrom (p := 47) (v := 96) (by decide +kernel))
theorem dX11_fitFrom_48 : decode cX11_fitFrom 48 = .ok (.putfield 378, 3) := dc_181 (byA eNcX11_fitFrom (p := 48) (v := 181) (by decide +kernel)) (byA eNcX11_fitFrom (p := 49) (v := 1) (by decide +kernel)) (byA eNcX11_fitFrom (p := 50) (v := 122) (by decide +kernel)) rfl
theorem dX11_fitFrom_51 : decode cX11_fitFrom 51 = .ok (.return_, 1) := dc_177 (byA eNcX11_fitFrom (p := 51) (v := 177) (by decide +kernel))
theorem dX11_fitFrom_52 : decode cX11_fitFrom 52 = .ok (.iconst 0, 1) := dc_3 (byA eNcX11_fitFrom (p := 52) (v := 3) (by decide +kernel))
theorem dX11_fitFrom_53 : decode cX11_fitFrom 53 = .ok (.istore 5, 2) := dc_54 (byA eNcX11_fitFrom (p := 53) (v := 54) (by decide +kernel)) (byA eNcX11_fitFrom (p := 54) (v := 5) (by decide +kernel))
theorem dX11_fitFrom_55 : decode cX11_fitFrom 55 = .ok (.iload 5, 2) := dc_21 (byA eNcX11_fitFrom (p := 55) (v := 21) (by decide +kernel)) (byA eNcX11_fitFrom (p := 56) (v := 5) (by decide +kernel))
theorem dX11_fitFrom_57 : decode cX11_fitFrom 57 = .ok (.aload_n 0, 1) := dc_42 (byA eNcX11_fitFrom (p := 57) (v := 42) (by decide +kernel))
theorem dX11_fitFrom_58 : decode cX11_fitFrom 58 = .ok (.getfield 316, 3) := dc_180 (byA eNcX11_fitFrom (p := 58) (v := 180) (by decide +kernel)) (byA eNcX11_fitFrom (p := 59) (v := 1) (by decide +kernel)) (byA eNcX11_fitFrom (p := 60) (v := 60) (by decide +kernel)) rfl
theorem dX11_fitFrom_61 : decode cX11_fitFrom 61 = .ok (.if_icmp .ge 40, 3) := dc_162 (byA eNcX11_fitFrom (p := 61) (v := 162) (by decide +kernel)) (byA eNcX11_fitFrom (p := 62) (v := 0) (by decide +kernel)) (byA eNcX11_fitFrom (p := 63) (v := 40) (by decide +kernel)) (by decide +kernel)
theorem dX11_fitFrom_64 : decode cX11_fitFrom 64 = .ok (.iload_n 2, 1) := dc_28 (byA eNcX11_fitFrom (p := 64) (v := 28) (by decide +kernel))
theorem dX11_fitFrom_65 : decode cX11_fitFrom 65 = .ok (.iload 5, 2) := dc_21 (byA eNcX11_fitFrom (p := 65) (v := 21) (by decide +kernel)) (byA eNcX11_fitFrom (p := 66) (v := 5) (by decide +kernel))
theorem dX11_fitFrom_67 : decode cX11_fitFrom 67 = .ok (.invokestatic 227, 3) := dc_184 (byA eNcX11_fitFrom (p := 67) (v := 184) (by decide +kernel)) (byA eNcX11_fitFrom (p := 68) (v := 0) (by decide +kernel)) (byA eNcX11_fitFrom (p := 69) (v := 227) (by decide +kernel)) rfl
theorem dX11_fitFrom_70 : decode cX11_fitFrom 70 = .ok (.ifCond .eq 25, 3) := dc_153 (byA eNcX11_fitFrom (p := 70) (v := 153) (by decide +kernel)) (byA eNcX11_fitFrom (p := 71) (v := 0) (by decide +kernel)) (byA eNcX11_fitFrom (p := 72) (v := 25) (by decide +kernel)) (by decide +kernel)
theorem dX11_fitFrom_73 : decode cX11_fitFrom 73 = .ok (.aload_n 0, 1) := dc_42 (byA eNcX11_fitFrom (p := 73) (v := 42) (by decide +kernel))
theorem dX11_fitFrom_74 : decode cX11_fitFrom 74 = .ok (.iload_n 1, 1) := dc_27 (byA eNcX11_fitFrom (p := 74) (v := 27) (by decide +kernel))
theorem dX11_fitFrom_75 : decode cX11_fitFrom 75 = .ok (.iload_n 2, 1) := dc_28 (byA eNcX11_fitFrom (p := 75) (v := 28) (by decide +kernel))
theorem dX11_fitFrom_76 : decode cX11_fitFrom 76 = .ok (.iconst 1, 1) := dc_4 (byA eNcX11_fitFrom (p := 76) (v := 4) (by decide +kernel))
theorem dX11_fitFrom_77 : decode cX11_fitFrom 77 = .ok (.iload 5, 2) := dc_21 (byA eNcX11_fitFrom (p := 77) (v := 21) (by decide +kernel)) (byA eNcX11_fitFrom (p := 78) (v := 5) (by decide +kernel))
theorem dX11_fitFrom_79 : decode cX11_fitFrom 79 = .ok (.ishl, 1) := dc_120 (byA eNcX11_fitFrom (p := 79) (v := 120) (by decide +kernel))
theorem dX11_fitFrom_80 : decode cX11_fitFrom 80 = .ok (.iconst (-1), 1) := dc_2 (byA eNcX11_fitFrom (p := 80) (v := 2) (by decide +kernel))
theorem dX11_fitFrom_81 : decode cX11_fitFrom 81 = .ok (.ixor, 1) := dc_130 (byA eNcX11_fitFrom (p := 81) (v := 130) (by decide +kernel))
theorem dX11_fitFrom_82 : decode cX11_fitFrom 82 = .ok (.iand, 1) := dc_126 (byA eNcX11_fitFrom (p := 82) (v := 126) (by decide +kernel))
theorem dX11_fitFrom_83 : decode cX11_fitFrom 83 = .ok (.bipush 10, 2) := dc_16 (byA eNcX11_fitFrom (p := 83) (v := 16) (by decide +kernel)) (byA eNcX11_fitFrom (p := 84) (v := 10) (by decide +kernel)) (by decide +kernel)
theorem dX11_fitFrom_85 : decode cX11_fitFrom 85 = .ok (.iload_n 3, 1) := dc_29 (byA eNcX11_fitFrom (p := 85) (v := 29) (by decide +kernel))
theorem dX11_fitFrom_86 : decode cX11_fitFrom 86 = .ok (.imul, 1) := dc_104 (byA eNcX11_fitFrom (p := 86) (v := 104) (by decide +kernel))
theorem dX11_fitFrom_87 : decode cX11_fitFrom 87 = .ok (.iload 5, 2) := dc_21 (byA eNcX11_fitFrom (p := 87) (v := 21) (by decide +kernel)) (byA eNcX11_fitFrom (p := 88) (v := 5) (by decide +kernel))
theorem dX11_fitFrom_89 : decode cX11_fitFrom 89 = .ok (.iadd, 1) := dc_96 (byA eNcX11_fitFrom (p := 89) (v := 96) (by decide +kernel))
theorem dX11_fitFrom_90 : decode cX11_fitFrom 90 = .ok (.iload 4, 2) := dc_21 (byA eNcX11_fitFrom (p := 90) (v := 21) (by decide +kernel)) (byA eNcX11_fitFrom (p := 91) (v := 4) (by decide +kernel))
theorem dX11_fitFrom_92 : decode cX11_fitFrom 92 = .ok (.invokevirtual 384, 3) := dc_182 (byA eNcX11_fitFrom (p := 92) (v := 182) (by decide +kernel)) (byA eNcX11_fitFrom (p := 93) (v := 1) (by decide +kernel)) (byA eNcX11_fitFrom (p := 94) (v := 128) (by decide +kernel)) rfl
theorem dX11_fitFrom_95 : decode cX11_fitFrom 95 = .ok (.iinc 5 1, 3) := dc_132 (byA eNcX11_fitFrom (p := 95) (v := 132) (by decide +kernel)) (byA eNcX11_fitFrom (p := 96) (v := 5) (by decide +kernel)) (byA eNcX11_fitFrom (p := 97) (v := 1) (by decide +kernel)) (by decide +kernel)
theorem dX11_fitFrom_98 : decode cX11_fitFrom 98 = .ok (.goto (-43), 3) := dc_167 (byA eNcX11_fitFrom (p := 98) (v := 167) (by decide +kernel)) (byA eNcX11_fitFrom (p := 99) (v := 255) (by decide +kernel)) (byA eNcX11_fitFrom (p := 100) (v := 213) (by decide +kernel)) (by decide +kernel)
theorem dX11_fitFrom_101 : decode cX11_fitFrom 101 = .ok (.return_, 1) := dc_177 (byA eNcX11_fitFrom (p := 101) (v := 177) (by decide +kernel))
def X11_fitFrom_L55 (rec : Int → Int → Int → Int → Mm → Rs) (l1 : Int) (l2 : Int) (l3 : Int) (l4 : Int) : Nat → Int → Mm → Rs
  | 0, _, _ => none
  | n + 1, l5, μ => if (μ 70 37) ≤ l5 then (some (0, μ)) else (bd (X11_has l2 l5 μ) fun v3 μ4 => if v3 = 0 then (X11_fitFrom_L55 rec l1 l2 l3 l4 n (iA l5 1) μ4) else (bd (rec l1 (bA l2 (bX (bL 1 l5) (-1))) (iA (iM 10 l3) l5) l4 μ4) fun v7 μ8 => X11_fitFrom_L55 rec l1 l2 l3 l4 n (iA l5 1) μ8))
def X11_fitFrom : Nat → Int → Int → Int → Int → Mm → Rs
  | 0, _, _, _, _, _ => none
  | n + 1, l1, l2, l3, l4, μ => if l2 = 0 then (bd (X11_go l3 μ) fun v10 μ11 => if v10 = 0 then (some (0, μ11)) else (bd (X11_fits l1 μ11) fun v14 μ15 => if v14 = 0 then (some (0, μ15)) else (if (μ15 70 46) = l4 then (sF μ15 70 47 l3 fun μ21 => sF μ21 70 46 (iA (μ21 70 46) 1) fun μ22 => some (0, μ22)) else (sF μ15 70 47 (μ15 70 47) fun μ19 => sF μ19 70 46 (iA (μ19 70 46) 1) fun μ20 => some (0, μ20))))) else (X11_fitFrom_L55 (fun w0 w1 w2 w3 μq => X11_fitFrom n w0 w1 w2 w3 μq) l1 l2 l3 l4 FU 0 μ)
set_option maxHeartbeats 4000000 in
set_option maxRecDepth 100000 in
theorem kX11_fitFrom_L55 (d : Nat) {d0 : Nat} (hd : d0 + 9 ≤ d) (hb : 13 ≤ d) {rec : Int → Int → Int → Int → Mm → Rs} (hrec : ∀ {q1 : Int} {q2 : Int} {q3 : Int} {q4 : Int} {μ1 : Mm} {r1 : Int} {μ2 : Mm}, rec q1 q2 q3 q4 μ1 = some (r1, μ2) → CC d0 mX11_fitFrom [vR 70, vI q1, vI q2, vI q3, vI q4] μ1 r1 μ2) {l1 : Int} {l2 : Int} {l3 : Int} {l4 : Int} {r : Int} {μ' : Mm} : ∀ (n : Nat) {l5 : Int} {μ : Mm}, X11_fitFrom_L55 rec l1 l2 l3 l4 n l5 μ = some (r, μ') → VV d mX11_fitFrom 55 [some (vR 70), some (vI l1), some (vI l2), some (vI l3), some (vI l4), some (vI l5)] [] μ r μ' := by
  intro n
  induction n with
  | zero => intro l5 μ h; rw [X11_fitFrom_L55] at h; cases h
  | succ n ih =>
    intro l5 μ h
    rw [X11_fitFrom_L55] at h
    refine V_iload (q := 57) dX11_fitFrom_55 rfl rfl ?_
    refine V_aload_n (q := 58) dX11_fitFrom_57 rfl rfl rfl ?_
    refine V_getI (q := 61) fl_X11_316 rfl rfl rfl dX11_fitFrom_58 rfl ?_
    refine V_icmpge (q := 101) (q2 := 64) dX11_fitFrom_61 (by decide) rfl (fun hc2 => ?_) (fun hc2 => ?_)
    · have h := ifT hc2 h
      exact V_vret rfl h dX11_fitFrom_101
    · have h := ifF hc2 h
      refine V_iload_n (q := 65) dX11_fitFrom_64 rfl rfl rfl ?_
      refine V_iload (q := 67) dX11_fitFrom_65 rfl rfl ?_
      obtain ⟨v3, μ4, hc5, h⟩ := bd_i h
      refine V_cS1 (q := 70) (v := vI v3) (kX11_has (d - 1) (by omega) hc5) (by omega) mv_X11_227 rfl rfl rfl rfl dX11_fitFrom_67 rfl ?_
      refine V_ifeq (q := 95) (q2 := 73) dX11_fitFrom_70 (by decide) rfl (fun hc6 => ?_) (fun hc6 => ?_)
      · have h := ifT hc6 h
        refine V_iinc (q := 98) dX11_fitFrom_95 rfl (Nat.le_of_ble_eq_true rfl) trivial rfl ?_
        refine V_goto (q := 55) dX11_fitFrom_98 (by decide) ?_
        exact V_weak (ih h) (sb_s rfl (sb_s rfl (sb_s rfl (sb_s rfl (sb_s rfl (sb_s rfl sb_0))))))
      · have h := ifF hc6 h
        refine V_aload_n (q := 74) dX11_fitFrom_73 rfl rfl rfl ?_
        refine V_iload_n (q := 75) dX11_fitFrom_74 rfl rfl rfl ?_
        refine V_iload_n (q := 76) dX11_fitFrom_75 rfl rfl rfl ?_
        refine V_iconst (q := 77) dX11_fitFrom_76 rfl rfl ?_
        refine V_iload (q := 79) dX11_fitFrom_77 rfl rfl ?_
        refine V_ishl (q := 80) dX11_fitFrom_79 rfl ?_
        refine V_iconst (q := 81) dX11_fitFrom_80 rfl rfl ?_
        refine V_ixor (q := 82) dX11_fitFrom_81 rfl ?_
        refine V_iand (q := 83) dX11_fitFrom_82 rfl ?_
        refine V_bipush (q := 85) dX11_fitFrom_83 rfl rfl rfl ?_
        refine V_iload_n (q := 86) dX11_fitFrom_85 rfl rfl rfl ?_
        refine V_imul (q := 87) dX11_fitFrom_86 rfl ?_
        refine V_iload (q := 89) dX11_fitFrom_87 rfl rfl ?_
        refine V_iadd (q := 90) dX11_fitFrom_89 rfl ?_
        refine V_iload (q := 92) dX11_fitFrom_90 rfl rfl ?_
        obtain ⟨v7, μ8, hc9, h⟩ := bd_i h
        refine V_cV0 (q := 95) (hrec hc9) (by omega) mv_X11_384 rfl rfl rfl rfl rfl rfl dX11_fitFrom_92 rfl ?_
        refine V_iinc (q := 98) dX11_fitFrom_95 rfl (Nat.le_of_ble_eq_true rfl) trivial rfl ?_
        refine V_goto (q := 55) dX11_fitFrom_98 (by decide) ?_
        exact V_weak (ih h) (sb_s rfl (sb_s rfl (sb_s rfl (sb_s rfl (sb_s rfl (sb_s rfl sb_0))))))
set_option maxHeartbeats 4000000 in
set_option maxRecDepth 100000 in
theorem kX11_fitFrom : ∀ (n d : Nat) (hd : 10 * n + 14 ≤ d) {l1 : Int} {l2 : Int} {l3 : Int} {l4 : Int} {μ : Mm} {r : Int} {μ' : Mm} (h : X11_fitFrom n l1 l2 l3 l4 μ = some (r, μ')), CC d mX11_fitFrom [vR 70, vI l1, vI l2, vI l3, vI l4] μ r μ' := by
  intro n
  induction n with
  | zero => intro d hd l1 l2 l3 l4   μ r μ' h; rw [X11_fitFrom] at h; cases h
  | succ n ih =>
    intro d hd l1 l2 l3 l4   μ r μ' h
    have hb : 13 ≤ d := by omega
    obtain ⟨d0, hd0⟩ : ∃ z, z = 10 * n + 14 := ⟨_, rfl⟩
    have hd : d0 + 10 ≤ d := by omega
    have hrec : ∀ {q1 : Int} {q2 : Int} {q3 : Int} {q4 : Int} {μ1 : Mm} {r1 : Int} {μ2 : Mm}, ((fun w0 w1 w2 w3 μq => X11_fitFrom n w0 w1 w2 w3 μq)) q1 q2 q3 q4 μ1 = some (r1, μ2) → CC d0 mX11_fitFrom [vR 70, vI q1, vI q2, vI q3, vI q4] μ1 r1 μ2 := fun h1 => ih d0 (by omega) h1
    rw [X11_fitFrom] at h
    refine V_enter (by decide) (Nat.le_of_ble_eq_true rfl) ?_
    show VV d mX11_fitFrom 0 [some (vR 70), some (vI l1), some (vI l2), some (vI l3), some (vI l4), none] [] μ r μ'
    refine V_iload_n (q := 1) dX11_fitFrom_0 rfl rfl rfl ?_
    refine V_ifne (q := 52) (q2 := 4) dX11_fitFrom_1 (by decide) rfl (fun hc1 => ?_) (fun hc1 => ?_)
    · have h := ifF hc1 h
      refine V_iconst (q := 53) dX11_fitFrom_52 rfl rfl ?_
      refine V_istore (q := 55) dX11_fitFrom_53 (Nat.le_of_ble_eq_true rfl) trivial rfl ?_
      exact V_weak (kX11_fitFrom_L55 d (by omega) hb hrec  FU h) (sb_s rfl (sb_s rfl (sb_s rfl (sb_s rfl (sb_s rfl (sb_s rfl sb_0))))))
    · have h := ifT hc1 h
      refine V_aload_n (q := 5) dX11_fitFrom_4 rfl rfl rfl ?_
      refine V_iload_n (q := 6) dX11_fitFrom_5 rfl rfl rfl ?_
      obtain ⟨v10, μ11, hc12, h⟩ := bd_i h
      refine V_cV1 (q := 9) (v := vI v10) (kX11_go (d - 1) (by omega) hc12) (by omega) mv_X11_341 rfl rfl rfl rfl rfl rfl dX11_fitFrom_6 rfl ?_
      refine V_ifeq (q := 51) (q2 := 12) dX11_fitFrom_9 (by decide) rfl (fun hc13 => ?_) (fun hc13 => ?_)
      · have h := ifT hc13 h
        exact V_vret rfl h dX11_fitFrom_51
      · have h := ifF hc13 h
        refine V_aload_n (q := 13) dX11_fitFrom_12 rfl rfl rfl ?_
        refine V_iload_n (q := 14) dX11_fitFrom_13 rfl rfl rfl ?_
        obtain ⟨v14, μ15, hc16, h⟩ := bd_i h
        refine V_cV1 (q := 17) (v := vI v14) (kX11_fits (d - 1) (by omega) hc16) (by omega) mv_X11_375 rfl rfl rfl rfl rfl rfl dX11_fitFrom_14 rfl ?_
        refine V_ifeq (q := 51) (q2 := 20) dX11_fitFrom_17 (by decide) rfl (fun hc17 => ?_) (fun hc17 => ?_)
        · have h := ifT hc17 h
          exact V_vret rfl h dX11_fitFrom_51
        · have h := ifF hc17 h
          refine V_aload_n (q := 21) dX11_fitFrom_20 rfl rfl rfl ?_
          refine V_aload_n (q := 22) dX11_fitFrom_21 rfl rfl rfl ?_
          refine V_getI (q := 25) fl_X11_378 rfl rfl rfl dX11_fitFrom_22 rfl ?_
          refine V_iload (q := 27) dX11_fitFrom_25 rfl rfl ?_
          refine V_icmpne (q := 34) (q2 := 30) dX11_fitFrom_27 (by decide) rfl (fun hc18 => ?_) (fun hc18 => ?_)
          · have h := ifF hc18 h
            refine V_aload_n (q := 35) dX11_fitFrom_34 rfl rfl rfl ?_
            refine V_getI (q := 38) fl_X11_381 rfl rfl rfl dX11_fitFrom_35 rfl ?_
            have h := sF_i h
            refine V_putI (q := 41) fl_X11_381 rfl rfl rfl dX11_fitFrom_38 rfl ?_
            refine V_aload_n (q := 42) dX11_fitFrom_41 rfl rfl rfl ?_
            refine V_dup (q := 43) dX11_fitFrom_42 trivial rfl ?_
            refine V_getI (q := 46) fl_X11_378 rfl rfl rfl dX11_fitFrom_43 rfl ?_
            refine V_iconst (q := 47) dX11_fitFrom_46 rfl rfl ?_
            refine V_iadd (q := 48) dX11_fitFrom_47 rfl ?_
            have h := sF_i h
            refine V_putI (q := 51) fl_X11_378 rfl rfl rfl dX11_fitFrom_48 rfl ?_
            exact V_vret rfl h dX11_fitFrom_51
          · have h := ifT hc18 h
            refine V_iload_n (q := 31) dX11_fitFrom_30 rfl rfl rfl ?_
            refine V_goto (q := 38) dX11_fitFrom_31 (by decide) ?_
            have h := sF_i h
            refine V_putI (q := 41) fl_X11_381 rfl rfl rfl dX11_fitFrom_38 rfl ?_
            refine V_aload_n (q := 42) dX11_fitFrom_41 rfl rfl rfl ?_
            refine V_dup (q := 43) dX11_fitFrom_42 trivial rfl ?_
            refine V_getI (q := 46) fl_X11_378 rfl rfl rfl dX11_fitFrom_43 rfl ?_
            refine V_iconst (q := 47) dX11_fitFrom_46 rfl rfl ?_
            refine V_iadd (q := 48) dX11_fitFrom_47 rfl ?_
            have h := sF_i h
            refine V_putI (q := 51) fl_X11_378 rfl rfl rfl dX11_fitFrom_48 rfl ?_
            exact V_vret rfl h dX11_fitFrom_51
abbrev mX11_fit : Mth := (yX11_fit, cX11_fit, 3, some .int)
set_option maxRecDepth 100000 in
theorem mi_X11_fit : Cond.instanceMethod yX11_fit ∈ tG ∧ Cond.selects yX11_fit.cls yX11_fit yX11_fit ∈ tG ∧ Cond.initialized yX11_fit.cls ∈ tG ∧ Cond.code yX11_fit cX11_fit 3 (some .int) ∈ tG ∧ (yX11_fit.cls ≠ "java/lang/invoke/MethodHandle" ∧ yX11_fit.cls ≠ "java/lang/invoke/VarHandle" ∧ (parseMethodDescriptor yX11_fit.desc).map (fun d => d.parameters.length) = some 2) ∧ 3 ≤ 60 := ⟨(tG_of (tb7 (List.mem_of_getElem? (i := 129) rfl)) (by decide +kernel)), (tG_of (tb7 (List.mem_of_getElem? (i := 130) rfl)) (by decide +kernel)), (tG_of (tb1 (List.mem_of_getElem? (i := 12) rfl)) (by decide +kernel)), (tG_of (tb7 (List.mem_of_getElem? (i := 131) rfl)) (by decide +kernel)), ⟨by decide, by decide, by decide +kernel⟩, by decide⟩
theorem dX11_fit_0 : decode cX11_fit 0 = .ok (.aload_n 0, 1) := dc_42 (byA eNcX11_fit (p := 0) (v := 42) (by decide +kernel))
theorem dX11_fit_1 : decode cX11_fit 1 = .ok (.iload_n 1, 1) := dc_27 (byA eNcX11_fit (p := 1) (v := 27) (by decide +kernel))
theorem dX11_fit_2 : decode cX11_fit 2 = .ok (.invokevirtual 335, 3) := dc_182 (byA eNcX11_fit (p := 2) (v := 182) (by decide +kernel)) (byA eNcX11_fit (p := 3) (v := 1) (by decide +kernel)) (byA eNcX11_fit (p := 4) (v := 79) (by decide +kernel)) rfl
theorem dX11_fit_5 : decode cX11_fit 5 = .ok (.ifCond .ne 5, 3) := dc_154 (byA eNcX11_fit (p := 5) (v := 154) (by decide +kernel)) (byA eNcX11_fit (p := 6) (v := 0) (by decide +kernel)) (byA eNcX11_fit (p := 7) (v := 5) (by decide +kernel)) (by decide +kernel)
theorem dX11_fit_8 : decode cX11_fit 8 = .ok (.iconst (-1), 1) := dc_2 (byA eNcX11_fit (p := 8) (v := 2) (by decide +kernel))
theorem dX11_fit_9 : decode cX11_fit 9 = .ok (.ireturn, 1) := dc_172 (byA eNcX11_fit (p := 9) (v := 172) (by decide +kernel))
theorem dX11_fit_10 : decode cX11_fit 10 = .ok (.aload_n 0, 1) := dc_42 (byA eNcX11_fit (p := 10) (v := 42) (by decide +kernel))
theorem dX11_fit_11 : decode cX11_fit 11 = .ok (.iconst 0, 1) := dc_3 (byA eNcX11_fit (p := 11) (v := 3) (by decide +kernel))
theorem dX11_fit_12 : decode cX11_fit 12 = .ok (.putfield 378, 3) := dc_181 (byA eNcX11_fit (p := 12) (v := 181) (by decide +kernel)) (byA eNcX11_fit (p := 13) (v := 1) (by decide +kernel)) (byA eNcX11_fit (p := 14) (v := 122) (by decide +kernel)) rfl
theorem dX11_fit_15 : decode cX11_fit 15 = .ok (.aload_n 0, 1) := dc_42 (byA eNcX11_fit (p := 15) (v := 42) (by decide +kernel))
theorem dX11_fit_16 : decode cX11_fit 16 = .ok (.iconst (-1), 1) := dc_2 (byA eNcX11_fit (p := 16) (v := 2) (by decide +kernel))
theorem dX11_fit_17 : decode cX11_fit 17 = .ok (.putfield 381, 3) := dc_181 (byA eNcX11_fit (p := 17) (v := 181) (by decide +kernel)) (byA eNcX11_fit (p := 18) (v := 1) (by decide +kernel)) (byA eNcX11_fit (p := 19) (v := 125) (by decide +kernel)) rfl
theorem dX11_fit_20 : decode cX11_fit 20 = .ok (.aload_n 0, 1) := dc_42 (byA eNcX11_fit (p := 20) (v := 42) (by decide +kernel))
theorem dX11_fit_21 : decode cX11_fit 21 = .ok (.iload_n 1, 1) := dc_27 (byA eNcX11_fit (p := 21) (v := 27) (by decide +kernel))
theorem dX11_fit_22 : decode cX11_fit 22 = .ok (.aload_n 0, 1) := dc_42 (byA eNcX11_fit (p := 22) (v := 42) (by decide +kernel))
theorem dX11_fit_23 : decode cX11_fit 23 = .ok (.invokevirtual 357, 3) := dc_182 (byA eNcX11_fit (p := 23) (v := 182) (by decide +kernel)) (byA eNcX11_fit (p := 24) (v := 1) (by decide +kernel)) (byA eNcX11_fit (p := 25) (v := 101) (by decide +kernel)) rfl
theorem dX11_fit_26 : decode cX11_fit 26 = .ok (.iconst 0, 1) := dc_3 (byA eNcX11_fit (p := 26) (v := 3) (by decide +kernel))
theorem dX11_fit_27 : decode cX11_fit 27 = .ok (.iload_n 2, 1) := dc_28 (byA eNcX11_fit (p := 27) (v := 28) (by decide +kernel))
theorem dX11_fit_28 : decode cX11_fit 28 = .ok (.invokevirtual 384, 3) := dc_182 (byA eNcX11_fit (p := 28) (v := 182) (by decide +kernel)) (byA eNcX11_fit (p := 29) (v := 1) (by decide +kernel)) (byA eNcX11_fit (p := 30) (v := 128) (by decide +kernel)) rfl
theorem dX11_fit_31 : decode cX11_fit 31 = .ok (.iload_n 2, 1) := dc_28 (byA eNcX11_fit (p := 31) (v := 28) (by decide +kernel))
theorem dX11_fit_32 : decode cX11_fit 32 = .ok (.iconst (-1), 1) := dc_2 (byA eNcX11_fit (p := 32) (v := 2) (by decide +kernel))
theorem dX11_fit_33 : decode cX11_fit 33 = .ok (.if_icmp .ne 10, 3) := dc_160 (byA eNcX11_fit (p := 33) (v := 160) (by decide +kernel)) (byA eNcX11_fit (p := 34) (v := 0) (by decide +kernel)) (byA eNcX11_fit (p := 35) (v := 10) (by decide +kernel)) (by decide +kernel)
theorem dX11_fit_36 : decode cX11_fit 36 = .ok (.aload_n 0, 1) := dc_42 (byA eNcX11_fit (p := 36) (v := 42) (by decide +kernel))
theorem dX11_fit_37 : decode cX11_fit 37 = .ok (.getfield 378, 3) := dc_180 (byA eNcX11_fit (p := 37) (v := 180) (by decide +kernel)) (byA eNcX11_fit (p := 38) (v := 1) (by decide +kernel)) (byA eNcX11_fit (p := 39) (v := 122) (by decide +kernel)) rfl
theorem dX11_fit_40 : decode cX11_fit 40 = .ok (.goto 7, 3) := dc_167 (byA eNcX11_fit (p := 40) (v := 167) (by decide +kernel)) (byA eNcX11_fit (p := 41) (v := 0) (by decide +kernel)) (byA eNcX11_fit (p := 42) (v := 7) (by decide +kernel)) (by decide +kernel)
theorem dX11_fit_43 : decode cX11_fit 43 = .ok (.aload_n 0, 1) := dc_42 (byA eNcX11_fit (p := 43) (v := 42) (by decide +kernel))
theorem dX11_fit_44 : decode cX11_fit 44 = .ok (.getfield 381, 3) := dc_180 (byA eNcX11_fit (p := 44) (v := 180) (by decide +kernel)) (byA eNcX11_fit (p := 45) (v := 1) (by decide +kernel)) (byA eNcX11_fit (p := 46) (v := 125) (by decide +kernel)) rfl
theorem dX11_fit_47 : decode cX11_fit 47 = .ok (.ireturn, 1) := dc_172 (byA eNcX11_fit (p := 47) (v := 172) (by decide +kernel))
def X11_fit (l1 : Int) (l2 : Int) (μ : Mm) : Rs := bd (X11_isReady l1 μ) fun v1 μ2 => if v1 = 0 then (some ((-1), μ2)) else (sF μ2 70 46 0 fun μ5 => sF μ5 70 47 (-1) fun μ6 => bd (X11_all μ6) fun v7 μ8 => bd (X11_fitFrom RD l1 v7 0 l2 μ8) fun v10 μ11 => if l2 = (-1) then (some (μ11 70 46, μ11)) else (some (μ11 70 47, μ11)))
set_option maxHeartbeats 4000000 in
set_option maxRecDepth 100000 in
theorem kX11_fit (d : Nat) (hd : 135 ≤ d) {l1 : Int} {l2 : Int} {μ : Mm} {r : Int} {μ' : Mm} (h : X11_fit l1 l2 μ = some (r, μ')) : CC d mX11_fit [vR 70, vI l1, vI l2] μ r μ' := by
  unfold X11_fit at h
  refine V_enter (by decide) (Nat.le_of_ble_eq_true rfl) ?_
  show VV d mX11_fit 0 [some (vR 70), some (vI l1), some (vI l2)] [] μ r μ'
  refine V_aload_n (q := 1) dX11_fit_0 rfl rfl rfl ?_
  refine V_iload_n (q := 2) dX11_fit_1 rfl rfl rfl ?_
  obtain ⟨v1, μ2, hc3, h⟩ := bd_i h
  refine V_cV1 (q := 5) (v := vI v1) (kX11_isReady (d - 1) (by omega) hc3) (by omega) mv_X11_335 rfl rfl rfl rfl rfl rfl dX11_fit_2 rfl ?_
  refine V_ifne (q := 10) (q2 := 8) dX11_fit_5 (by decide) rfl (fun hc4 => ?_) (fun hc4 => ?_)
  · have h := ifF hc4 h
    refine V_aload_n (q := 11) dX11_fit_10 rfl rfl rfl ?_
    refine V_iconst (q := 12) dX11_fit_11 rfl rfl ?_
    have h := sF_i h
    refine V_putI (q := 15) fl_X11_378 rfl rfl rfl dX11_fit_12 rfl ?_
    refine V_aload_n (q := 16) dX11_fit_15 rfl rfl rfl ?_
    refine V_iconst (q := 17) dX11_fit_16 rfl rfl ?_
    have h := sF_i h
    refine V_putI (q := 20) fl_X11_381 rfl rfl rfl dX11_fit_17 rfl ?_
    refine V_aload_n (q := 21) dX11_fit_20 rfl rfl rfl ?_
    refine V_iload_n (q := 22) dX11_fit_21 rfl rfl rfl ?_
    refine V_aload_n (q := 23) dX11_fit_22 rfl rfl rfl ?_
    obtain ⟨v7, μ8, hc9, h⟩ := bd_i h
    refine V_cV1 (q := 26) (v := vI v7) (kX11_all (d - 1) (by omega) hc9) (by omega) mv_X11_357 rfl rfl rfl rfl rfl rfl dX11_fit_23 rfl ?_
    refine V_iconst (q := 27) dX11_fit_26 rfl rfl ?_
    refine V_iload_n (q := 28) dX11_fit_27 rfl rfl rfl ?_
    obtain ⟨v10, μ11, hc12, h⟩ := bd_i h
    refine V_cV0 (q := 31) (kX11_fitFrom RD (d - 1) (by unfold RD; omega) hc12) (by omega) mv_X11_384 rfl rfl rfl rfl rfl rfl dX11_fit_28 rfl ?_
    refine V_iload_n (q := 32) dX11_fit_31 rfl rfl rfl ?_
    refine V_iconst (q := 33) dX11_fit_32 rfl rfl ?_
    refine V_icmpne (q := 43) (q2 := 36) dX11_fit_33 (by decide) rfl (fun hc13 => ?_) (fun hc13 => ?_)
    · have h := ifF hc13 h
      refine V_aload_n (q := 44) dX11_fit_43 rfl rfl rfl ?_
      refine V_getI (q := 47) fl_X11_381 rfl rfl rfl dX11_fit_44 rfl ?_
      exact V_iret rfl h dX11_fit_47
    · have h := ifT hc13 h
      refine V_aload_n (q := 37) dX11_fit_36 rfl rfl rfl ?_
      refine V_getI (q := 40) fl_X11_378 rfl rfl rfl dX11_fit_37 rfl ?_
      refine V_goto (q := 47) dX11_fit_40 (by decide) ?_
      exact V_iret rfl h dX11_fit_47
  · have h := ifT hc4 h
    refine V_iconst (q := 9) dX11_fit_8 rfl rfl ?_
    exact V_iret rfl h dX11_fit_9
abbrev mX11_boy : Mth := (yX11_boy, cX11_boy, 10, some .int)
set_option maxRecDepth 100000 in
theorem mi_X11_boy : Cond.instanceMethod yX11_boy ∈ tG ∧ Cond.selects yX11_boy.cls yX11_boy yX11_boy ∈ tG ∧ Cond.initialized yX11_boy.cls ∈ tG ∧ Cond.code yX11_boy cX11_boy 10 (some .int) ∈ tG ∧ (yX11_boy.cls ≠ "java/lang/invoke/MethodHandle" ∧ yX11_boy.cls ≠ "java/lang/invoke/VarHandle" ∧ (parseMethodDescriptor yX11_boy.desc).map (fun d => d.parameters.length) = some 4) ∧ 10 ≤ 60 := ⟨(tG_of (tb7 (List.mem_of_getElem? (i := 141) rfl)) (by decide +kernel)), (tG_of (tb7 (List.mem_of_getElem? (i := 142) rfl)) (by decide +kernel)), (tG_of (tb1 (List.mem_of_getElem? (i := 12) rfl)) (by decide +kernel)), (tG_of (tb7 (List.mem_of_getElem? (i := 143) rfl)) (by decide +kernel)), ⟨by decide, by decide, by decide +kernel⟩, by decide⟩
theorem dX11_boy_0 : decode cX11_boy 0 = .ok (.aload_n 0, 1) := dc_42 (byA eNcX11_boy (p := 0) (v := 42) (by decide +kernel))
theorem dX11_boy_1 : decode cX11_boy 1 = .ok (.iload_n 1, 1) := dc_27 (byA eNcX11_boy (p := 1) (v := 27) (by decide +kernel))
theorem dX11_boy_2 : decode cX11_boy 2 = .ok (.invokevirtual 335, 3) := dc_182 (byA eNcX11_boy (p := 2) (v := 182) (by decide +kernel)) (byA eNcX11_boy (p := 3) (v := 1) (by decide +kernel)) (byA eNcX11_boy (p := 4) (v := 79) (by decide +kernel)) rfl
theorem dX11_boy_5 : decode cX11_boy 5 = .ok (.ifCond .eq 31, 3) := dc_153 (byA eNcX11_boy (p := 5) (v := 153) (by decide +kernel)) (byA eNcX11_boy (p := 6) (v := 0) (by decide +kernel)) (byA eNcX11_boy (p := 7) (v := 31) (by decide +kernel)) (by decide +kernel)
theorem dX11_boy_8 : decode cX11_boy 8 = .ok (.aload_n 0, 1) := dc_42 (byA eNcX11_boy (p := 8) (v := 42) (by decide +kernel))
theorem dX11_boy_9 : decode cX11_boy 9 = .ok (.iload_n 2, 1) := dc_28 (byA eNcX11_boy (p := 9) (v := 28) (by decide +kernel))
theorem dX11_boy_10 : decode cX11_boy 10 = .ok (.invokevirtual 290, 3) := dc_182 (byA eNcX11_boy (p := 10) (v := 182) (by decide +kernel)) (byA eNcX11_boy (p := 11) (v := 1) (by decide +kernel)) (byA eNcX11_boy (p := 12) (v := 34) (by decide +kernel)) rfl
theorem dX11_boy_13 : decode cX11_boy 13 = .ok (.ifCond .eq 23, 3) := dc_153 (byA eNcX11_boy (p := 13) (v := 153) (by decide +kernel)) (byA eNcX11_boy (p := 14) (v := 0) (by decide +kernel)) (byA eNcX11_boy (p := 15) (v := 23) (by decide +kernel)) (by decide +kernel)
theorem dX11_boy_16 : decode cX11_boy 16 = .ok (.iload_n 3, 1) := dc_29 (byA eNcX11_boy (p := 16) (v := 29) (by decide +kernel))
theorem dX11_boy_17 : decode cX11_boy 17 = .ok (.iconst 1, 1) := dc_4 (byA eNcX11_boy (p := 17) (v := 4) (by decide +kernel))
theorem dX11_boy_18 : decode cX11_boy 18 = .ok (.bipush 9, 2) := dc_16 (byA eNcX11_boy (p := 18) (v := 16) (by decide +kernel)) (byA eNcX11_boy (p := 19) (v := 9) (by decide +kernel)) (by decide +kernel)
theorem dX11_boy_20 : decode cX11_boy 20 = .ok (.invokestatic 213, 3) := dc_184 (byA eNcX11_boy (p := 20) (v := 184) (by decide +kernel)) (byA eNcX11_boy (p := 21) (v := 0) (by decide +kernel)) (byA eNcX11_boy (p := 22) (v := 213) (by decide +kernel)) rfl
theorem dX11_boy_23 : decode cX11_boy 23 = .ok (.ifCond .eq 13, 3) := dc_153 (byA eNcX11_boy (p := 23) (v := 153) (by decide +kernel)) (byA eNcX11_boy (p := 24) (v := 0) (by decide +kernel)) (byA eNcX11_boy (p := 25) (v := 13) (by decide +kernel)) (by decide +kernel)
theorem dX11_boy_26 : decode cX11_boy 26 = .ok (.iload 4, 2) := dc_21 (byA eNcX11_boy (p := 26) (v := 21) (by decide +kernel)) (byA eNcX11_boy (p := 27) (v := 4) (by decide +kernel))
theorem dX11_boy_28 : decode cX11_boy 28 = .ok (.iconst 0, 1) := dc_3 (byA eNcX11_boy (p := 28) (v := 3) (by decide +kernel))
theorem dX11_boy_29 : decode cX11_boy 29 = .ok (.iconst 1, 1) := dc_4 (byA eNcX11_boy (p := 29) (v := 4) (by decide +kernel))
theorem dX11_boy_30 : decode cX11_boy 30 = .ok (.invokestatic 213, 3) := dc_184 (byA eNcX11_boy (p := 30) (v := 184) (by decide +kernel)) (byA eNcX11_boy (p := 31) (v := 0) (by decide +kernel)) (byA eNcX11_boy (p := 32) (v := 213) (by decide +kernel)) rfl
theorem dX11_boy_33 : decode cX11_boy 33 = .ok (.ifCond .ne 5, 3) := dc_154 (byA eNcX11_boy (p := 33) (v := 154) (by decide +kernel)) (byA eNcX11_boy (p := 34) (v := 0) (by decide +kernel)) (byA eNcX11_boy (p := 35) (v := 5) (by decide +kernel)) (by decide +kernel)
theorem dX11_boy_36 : decode cX11_boy 36 = .ok (.iconst (-1), 1) := dc_2 (byA eNcX11_boy (p := 36) (v := 2) (by decide +kernel))
theorem dX11_boy_37 : decode cX11_boy 37 = .ok (.ireturn, 1) := dc_172 (byA eNcX11_boy (p := 37) (v := 172) (by decide +kernel))
theorem dX11_boy_38 : decode cX11_boy 38 = .ok (.iconst 0, 1) := dc_3 (byA eNcX11_boy (p := 38) (v := 3) (by decide +kernel))
theorem dX11_boy_39 : decode cX11_boy 39 = .ok (.istore 5, 2) := dc_54 (byA eNcX11_boy (p := 39) (v := 54) (by decide +kernel)) (byA eNcX11_boy (p := 40) (v := 5) (by decide +kernel))
theorem dX11_boy_41 : decode cX11_boy 41 = .ok (.iload 5, 2) := dc_21 (byA eNcX11_boy (p := 41) (v := 21) (by decide +kernel)) (byA eNcX11_boy (p := 42) (v := 5) (by decide +kernel))
theorem dX11_boy_43 : decode cX11_boy 43 = .ok (.aload_n 0, 1) := dc_42 (byA eNcX11_boy (p := 43) (v := 42) (by decide +kernel))
theorem dX11_boy_44 : decode cX11_boy 44 = .ok (.invokevirtual 357, 3) := dc_182 (byA eNcX11_boy (p := 44) (v := 182) (by decide +kernel)) (byA eNcX11_boy (p := 45) (v := 1) (by decide +kernel)) (byA eNcX11_boy (p := 46) (v := 101) (by decide +kernel)) rfl
theorem dX11_boy_47 : decode cX11_boy 47 = .ok (.if_icmp .gt 23, 3) := dc_163 (byA eNcX11_boy (p := 47) (v := 163) (by decide +kernel)) (byA eNcX11_boy (p := 48) (v := 0) (by decide +kernel)) (byA eNcX11_boy (p := 49) (v := 23) (by decide +kernel)) (by decide +kernel)
theorem dX11_boy_50 : decode cX11_boy 50 = .ok (.aload_n 0, 1) := dc_42 (byA eNcX11_boy (p := 50) (v := 42) (by decide +kernel))
theorem dX11_boy_51 : decode cX11_boy 51 = .ok (.getfield 89, 3) := dc_180 (byA eNcX11_boy (p := 51) (v := 180) (by decide +kernel)) (byA eNcX11_boy (p := 52) (v := 0) (by decide +kernel)) (byA eNcX11_boy (p := 53) (v := 89) (by decide +kernel)) rfl
theorem dX11_boy_54 : decode cX11_boy 54 = .ok (.iload 5, 2) := dc_21 (byA eNcX11_boy (p := 54) (v := 21) (by decide +kernel)) (byA eNcX11_boy (p := 55) (v := 5) (by decide +kernel))
theorem dX11_boy_56 : decode cX11_boy 56 = .ok (.aload_n 0, 1) := dc_42 (byA eNcX11_boy (p := 56) (v := 42) (by decide +kernel))
theorem dX11_boy_57 : decode cX11_boy 57 = .ok (.iconst 0, 1) := dc_3 (byA eNcX11_boy (p := 57) (v := 3) (by decide +kernel))
theorem dX11_boy_58 : decode cX11_boy 58 = .ok (.iload 5, 2) := dc_21 (byA eNcX11_boy (p := 58) (v := 21) (by decide +kernel)) (byA eNcX11_boy (p := 59) (v := 5) (by decide +kernel))
theorem dX11_boy_60 : decode cX11_boy 60 = .ok (.invokevirtual 360, 3) := dc_182 (byA eNcX11_boy (p := 60) (v := 182) (by decide +kernel)) (byA eNcX11_boy (p := 61) (v := 1) (by decide +kernel)) (byA eNcX11_boy (p := 62) (v := 104) (by decide +kernel)) rfl
theorem dX11_boy_63 : decode cX11_boy 63 = .ok (.iastore, 1) := dc_79 (byA eNcX11_boy (p := 63) (v := 79) (by decide +kernel))
theorem dX11_boy_64 : decode cX11_boy 64 = .ok (.iinc 5 1, 3) := dc_132 (byA eNcX11_boy (p := 64) (v := 132) (by decide +kernel)) (byA eNcX11_boy (p := 65) (v := 5) (by decide +kernel)) (byA eNcX11_boy (p := 66) (v := 1) (by decide +kernel)) (by decide +kernel)
theorem dX11_boy_67 : decode cX11_boy 67 = .ok (.goto (-26), 3) := dc_167 (byA eNcX11_boy (p := 67) (v := 167) (by decide +kernel)) (byA eNcX11_boy (p := 68) (v := 255) (by decide +kernel)) (byA eNcX11_boy (p := 69) (v := 230) (by decide +kernel)) (by decide +kernel)
theorem dX11_boy_70 : decode cX11_boy 70 = .ok (.aload_n 0, 1) := dc_42 (byA eNcX11_boy (p := 70) (v := 42) (by decide +kernel))
theorem dX11_boy_71 : decode cX11_boy 71 = .ok (.iload_n 1, 1) := dc_27 (byA eNcX11_boy (p := 71) (v := 27) (by decide +kernel))
theorem dX11_boy_72 : decode cX11_boy 72 = .ok (.iload_n 2, 1) := dc_28 (byA eNcX11_boy (p := 72) (v := 28) (by decide +kernel))
theorem dX11_boy_73 : decode cX11_boy 73 = .ok (.iload_n 3, 1) := dc_29 (byA eNcX11_boy (p := 73) (v := 29) (by decide +kernel))
theorem dX11_boy_74 : decode cX11_boy 74 = .ok (.invokevirtual 322, 3) := dc_182 (byA eNcX11_boy (p := 74) (v := 182) (by decide +kernel)) (byA eNcX11_boy (p := 75) (v := 1) (by decide +kernel)) (byA eNcX11_boy (p := 76) (v := 66) (by decide +kernel)) rfl
theorem dX11_boy_77 : decode cX11_boy 77 = .ok (.iconst (-1), 1) := dc_2 (byA eNcX11_boy (p := 77) (v := 2) (by decide +kernel))
theorem dX11_boy_78 : decode cX11_boy 78 = .ok (.istore 5, 2) := dc_54 (byA eNcX11_boy (p := 78) (v := 54) (by decide +kernel)) (byA eNcX11_boy (p := 79) (v := 5) (by decide +kernel))
theorem dX11_boy_80 : decode cX11_boy 80 = .ok (.iconst 0, 1) := dc_3 (byA eNcX11_boy (p := 80) (v := 3) (by decide +kernel))
theorem dX11_boy_81 : decode cX11_boy 81 = .ok (.istore 6, 2) := dc_54 (byA eNcX11_boy (p := 81) (v := 54) (by decide +kernel)) (byA eNcX11_boy (p := 82) (v := 6) (by decide +kernel))
theorem dX11_boy_83 : decode cX11_boy 83 = .ok (.iconst 0, 1) := dc_3 (byA eNcX11_boy (p := 83) (v := 3) (by decide +kernel))
theorem dX11_boy_84 : decode cX11_boy 84 = .ok (.istore 7, 2) := dc_54 (byA eNcX11_boy (p := 84) (v := 54) (by decide +kernel)) (byA eNcX11_boy (p := 85) (v := 7) (by decide +kernel))
theorem dX11_boy_86 : decode cX11_boy 86 = .ok (.iload 7, 2) := dc_21 (byA eNcX11_boy (p := 86) (v := 21) (by decide +kernel)) (byA eNcX11_boy (p := 87) (v := 7) (by decide +kernel))
theorem dX11_boy_88 : decode cX11_boy 88 = .ok (.aload_n 0, 1) := dc_42 (byA eNcX11_boy (p := 88) (v := 42) (by decide +kernel))
theorem dX11_boy_89 : decode cX11_boy 89 = .ok (.invokevirtual 357, 3) := dc_182 (byA eNcX11_boy (p := 89) (v := 182) (by decide +kernel)) (byA eNcX11_boy (p := 90) (v := 1) (by decide +kernel)) (byA eNcX11_boy (p := 91) (v := 101) (by decide +kernel)) rfl
theorem dX11_boy_92 : decode cX11_boy 92 = .ok (.if_icmp .gt 73, 3) := dc_163 (byA eNcX11_boy (p := 92) (v := 163) (by decide +kernel)) (byA eNcX11_boy (p := 93) (v := 0) (by decide +kernel)) (byA eNcX11_boy (p := 94) (v := 73) (by decide +kernel)) (by decide +kernel)
theorem dX11_boy_95 : decode cX11_boy 95 = .ok (.aload_n 0, 1) := dc_42 (byA eNcX11_boy (p := 95) (v := 42) (by decide +kernel))
theorem dX11_boy_96 : decode cX11_boy 96 = .ok (.iconst 0, 1) := dc_3 (byA eNcX11_boy (p := 96) (v := 3) (by decide +kernel))
theorem dX11_boy_97 : decode cX11_boy 97 = .ok (.iload 7, 2) := dc_21 (byA eNcX11_boy (p := 97) (v := 21) (by decide +kernel)) (byA eNcX11_boy (p := 98) (v := 7) (by decide +kernel))
theorem dX11_boy_99 : decode cX11_boy 99 = .ok (.invokevirtual 360, 3) := dc_182 (byA eNcX11_boy (p := 99) (v := 182) (by decide +kernel)) (byA eNcX11_boy (p := 100) (v := 1) (by decide +kernel)) (byA eNcX11_boy (p := 101) (v := 104) (by decide +kernel)) rfl
theorem dX11_boy_102 : decode cX11_boy 102 = .ok (.istore 8, 2) := dc_54 (byA eNcX11_boy (p := 102) (v := 54) (by decide +kernel)) (byA eNcX11_boy (p := 103) (v := 8) (by decide +kernel))
theorem dX11_boy_104 : decode cX11_boy 104 = .ok (.aload_n 0, 1) := dc_42 (byA eNcX11_boy (p := 104) (v := 42) (by decide +kernel))
theorem dX11_boy_105 : decode cX11_boy 105 = .ok (.getfield 89, 3) := dc_180 (byA eNcX11_boy (p := 105) (v := 180) (by decide +kernel)) (byA eNcX11_boy (p := 106) (v := 0) (by decide +kernel)) (byA eNcX11_boy (p := 107) (v := 89) (by decide +kernel)) rfl
theorem dX11_boy_108 : decode cX11_boy 108 = .ok (.aload_n 0, 1) := dc_42 (byA eNcX11_boy (p := 108) (v := 42) (by decide +kernel))
theorem dX11_boy_109 : decode cX11_boy 109 = .ok (.invokevirtual 357, 3) := dc_182 (byA eNcX11_boy (p := 109) (v := 182) (by decide +kernel)) (byA eNcX11_boy (p := 110) (v := 1) (by decide +kernel)) (byA eNcX11_boy (p := 111) (v := 101) (by decide +kernel)) rfl
theorem dX11_boy_112 : decode cX11_boy 112 = .ok (.iload 7, 2) := dc_21 (byA eNcX11_boy (p := 112) (v := 21) (by decide +kernel)) (byA eNcX11_boy (p := 113) (v := 7) (by decide +kernel))
theorem dX11_boy_114 : decode cX11_boy 114 = .ok (.iconst (-1), 1) := dc_2 (byA eNcX11_boy (p := 114) (v := 2) (by decide +kernel))
theorem dX11_boy_115 : decode cX11_boy 115 = .ok (.ixor, 1) := dc_130 (byA eNcX11_boy (p := 115) (v := 130) (by decide +kernel))
theorem dX11_boy_116 : decode cX11_boy 116 = .ok (.iand, 1) := dc_126 (byA eNcX11_boy (p := 116) (v := 126) (by decide +kernel))
theorem dX11_boy_117 : decode cX11_boy 117 = .ok (.iaload, 1) := dc_46 (byA eNcX11_boy (p := 117) (v := 46) (by decide +kernel))
theorem dX11_boy_118 : decode cX11_boy 118 = .ok (.istore 9, 2) := dc_54 (byA eNcX11_boy (p := 118) (v := 54) (by decide +kernel)) (byA eNcX11_boy (p := 119) (v := 9) (by decide +kernel))
theorem dX11_boy_120 : decode cX11_boy 120 = .ok (.iload 8, 2) := dc_21 (byA eNcX11_boy (p := 120) (v := 21) (by decide +kernel)) (byA eNcX11_boy (p := 121) (v := 8) (by decide +kernel))
theorem dX11_boy_122 : decode cX11_boy 122 = .ok (.iconst (-1), 1) := dc_2 (byA eNcX11_boy (p := 122) (v := 2) (by decide +kernel))
theorem dX11_boy_123 : decode cX11_boy 123 = .ok (.if_icmp .eq 36, 3) := dc_159 (byA eNcX11_boy (p := 123) (v := 159) (by decide +kernel)) (byA eNcX11_boy (p := 124) (v := 0) (by decide +kernel)) (byA eNcX11_boy (p := 125) (v := 36) (by decide +kernel)) (by decide +kernel)
theorem dX11_boy_126 : decode cX11_boy 126 = .ok (.iload 9, 2) := dc_21 (byA eNcX11_boy (p := 126) (v := 21) (by decide +kernel)) (byA eNcX11_boy (p := 127) (v := 9) (by decide +kernel))
theorem dX11_boy_128 : decode cX11_boy 128 = .ok (.iconst (-1), 1) := dc_2 (byA eNcX11_boy (p := 128) (v := 2) (by decide +kernel))
theorem dX11_boy_129 : decode cX11_boy 129 = .ok (.if_icmp .eq 30, 3) := dc_159 (byA eNcX11_boy (p := 129) (v := 159) (by decide +kernel)) (byA eNcX11_boy (p := 130) (v := 0) (by decide +kernel)) (byA eNcX11_boy (p := 131) (v := 30) (by decide +kernel)) (by decide +kernel)
theorem dX11_boy_132 : decode cX11_boy 132 = .ok (.iload 5, 2) := dc_21 (byA eNcX11_boy (p := 132) (v := 21) (by decide +kernel)) (byA eNcX11_boy (p := 133) (v := 5) (by decide +kernel))
theorem dX11_boy_134 : decode cX11_boy 134 = .ok (.iconst (-1), 1) := dc_2 (byA eNcX11_boy (p := 134) (v := 2) (by decide +kernel))
theorem dX11_boy_135 : decode cX11_boy 135 = .ok (.if_icmp .eq 13, 3) := dc_159 (byA eNcX11_boy (p := 135) (v := 159) (by decide +kernel)) (byA eNcX11_boy (p := 136) (v := 0) (by decide +kernel)) (byA eNcX11_boy (p := 137) (v := 13) (by decide +kernel)) (by decide +kernel)
theorem dX11_boy_138 : decode cX11_boy 138 = .ok (.iload 8, 2) := dc_21 (byA eNcX11_boy (p := 138) (v := 21) (by decide +kernel)) (byA eNcX11_boy (p := 139) (v := 8) (by decide +kernel))
theorem dX11_boy_140 : decode cX11_boy 140 = .ok (.iload 9, 2) := dc_21 (byA eNcX11_boy (p := 140) (v := 21) (by decide +kernel)) (byA eNcX11_boy (p := 141) (v := 9) (by decide +kernel))
theorem dX11_boy_142 : decode cX11_boy 142 = .ok (.iadd, 1) := dc_96 (byA eNcX11_boy (p := 142) (v := 96) (by decide +kernel))
theorem dX11_boy_143 : decode cX11_boy 143 = .ok (.iload 6, 2) := dc_21 (byA eNcX11_boy (p := 143) (v := 21) (by decide +kernel)) (byA eNcX11_boy (p := 144) (v := 6) (by decide +kernel))
theorem dX11_boy_145 : decode cX11_boy 145 = .ok (.if_icmp .ge 14, 3) := dc_162 (byA eNcX11_boy (p := 145) (v := 162) (by decide +kernel)) (byA eNcX11_boy (p := 146) (v := 0) (by decide +kernel)) (byA eNcX11_boy (p := 147) (v := 14) (by decide +kernel)) (by decide +kernel)
theorem dX11_boy_148 : decode cX11_boy 148 = .ok (.iload 7, 2) := dc_21 (byA eNcX11_boy (p := 148) (v := 21) (by decide +kernel)) (byA eNcX11_boy (p := 149) (v := 7) (by decide +kernel))
theorem dX11_boy_150 : decode cX11_boy 150 = .ok (.istore 5, 2) := dc_54 (byA eNcX11_boy (p := 150) (v := 54) (by decide +kernel)) (byA eNcX11_boy (p := 151) (v := 5) (by decide +kernel))
theorem dX11_boy_152 : decode cX11_boy 152 = .ok (.iload 8, 2) := dc_21 (byA eNcX11_boy (p := 152) (v := 21) (by decide +kernel)) (byA eNcX11_boy (p := 153) (v := 8) (by decide +kernel))
theorem dX11_boy_154 : decode cX11_boy 154 = .ok (.iload 9, 2) := dc_21 (byA eNcX11_boy (p := 154) (v := 21) (by decide +kernel)) (byA eNcX11_boy (p := 155) (v := 9) (by decide +kernel))
theorem dX11_boy_156 : decode cX11_boy 156 = .ok (.iadd, 1) := dc_96 (byA eNcX11_boy (p := 156) (v := 96) (by decide +kernel))
theorem dX11_boy_157 : decode cX11_boy 157 = .ok (.istore 6, 2) := dc_54 (byA eNcX11_boy (p := 157) (v := 54) (by decide +kernel)) (byA eNcX11_boy (p := 158) (v := 6) (by decide +kernel))
theorem dX11_boy_159 : decode cX11_boy 159 = .ok (.iinc 7 1, 3) := dc_132 (byA eNcX11_boy (p := 159) (v := 132) (by decide +kernel)) (byA eNcX11_boy (p := 160) (v := 7) (by decide +kernel)) (byA eNcX11_boy (p := 161) (v := 1) (by decide +kernel)) (by decide +kernel)
theorem dX11_boy_162 : decode cX11_boy 162 = .ok (.goto (-76), 3) := dc_167 (byA eNcX11_boy (p := 162) (v := 167) (by decide +kernel)) (byA eNcX11_boy (p := 163) (v := 255) (by decide +kernel)) (byA eNcX11_boy (p := 164) (v := 180) (by decide +kernel)) (by decide +kernel)
theorem dX11_boy_165 : decode cX11_boy 165 = .ok (.iload 5, 2) := dc_21 (byA eNcX11_boy (p := 165) (v := 21) (by decide +kernel)) (byA eNcX11_boy (p := 166) (v := 5) (by decide +kernel))
theorem dX11_boy_167 : decode cX11_boy 167 = .ok (.iconst (-1), 1) := dc_2 (byA eNcX11_boy (p := 167) (v := 2) (by decide +kernel))
theorem dX11_boy_168 : decode cX11_boy 168 = .ok (.if_icmp .eq 8, 3) := dc_159 (byA eNcX11_boy (p := 168) (v := 159) (by decide +kernel)) (byA eNcX11_boy (p := 169) (v := 0) (by decide +kernel)) (byA eNcX11_boy (p := 170) (v := 8) (by decide +kernel)) (by decide +kernel)
theorem dX11_boy_171 : decode cX11_boy 171 = .ok (.iload 4, 2) := dc_21 (byA eNcX11_boy (p := 171) (v := 21) (by decide +kernel)) (byA eNcX11_boy (p := 172) (v := 4) (by decide +kernel))
theorem dX11_boy_173 : decode cX11_boy 173 = .ok (.ifCond .ne 8, 3) := dc_154 (byA eNcX11_boy (p := 173) (v := 154) (by decide +kernel)) (byA eNcX11_boy (p := 174) (v := 0) (by decide +kernel)) (byA eNcX11_boy (p := 175) (v := 8) (by decide +kernel)) (by decide +kernel)
theorem dX11_boy_176 : decode cX11_boy 176 = .ok (.iload 5, 2) := dc_21 (byA eNcX11_boy (p := 176) (v := 21) (by decide +kernel)) (byA eNcX11_boy (p := 177) (v := 5) (by decide +kernel))
theorem dX11_boy_178 : decode cX11_boy 178 = .ok (.goto 5, 3) := dc_167 (byA eNcX11_boy (p := 178) (v := 167) (by decide +kernel)) (byA eNcX11_boy (p := 179) (v := 0) (by decide +kernel)) (byA eNcX11_boy (p := 180) (v := 5) (by decide +kernel)) (by decide +kernel)
theorem dX11_boy_181 : decode cX11_boy 181 = .ok (.iload 6, 2) := dc_21 (byA eNcX11_boy (p := 181) (v := 21) (by decide +kernel)) (byA eNcX11_boy (p := 182) (v := 6) (by decide +kernel))
theorem dX11_boy_183 : decode cX11_boy 183 = .ok (.ireturn, 1) := dc_172 (byA eNcX11_boy (p := 183) (v := 172) (by decide +kernel))
def X11_boy_L41 (l1 : Int) (l2 : Int) (l3 : Int) (l4 : Int) (k70 : Mm → Rs) : Nat → Int → Mm → Rs
  | 0, _, _ => none
  | n + 1, l5, μ => bd (X11_all μ) fun v17 μ18 => if v17 < l5 then (k70 μ18) else (bd (X11_leastOf 0 l5 μ18) fun v21 μ22 => stA μ22 95 l5 v21 fun μ24 => X11_boy_L41 l1 l2 l3 l4 k70 n (iA l5 1) μ24)
def X11_boy_L86 (l4 : Int) (k165 : Int → Int → Mm → Rs) : Nat → Int → Int → Int → Mm → Rs
  | 0, _, _, _, _ => none
  | n + 1, l5, l6, l7, μ => bd (X11_all μ) fun v30 μ31 => if v30 < l7 then (k165 l5 l6 μ31) else (bd (X11_leastOf 0 l7 μ31) fun v34 μ35 => bd (X11_all μ35) fun v37 μ38 => ldA μ38 95 (bA v37 (bX l7 (-1))) fun v40 => if v34 = (-1) then (X11_boy_L86 l4 k165 n l5 l6 (iA l7 1) μ38) else (if v40 = (-1) then (X11_boy_L86 l4 k165 n l5 l6 (iA l7 1) μ38) else (if l5 = (-1) then (X11_boy_L86 l4 k165 n l7 (iA v34 v40) (iA l7 1) μ38) else (if l6 ≤ (iA v34 v40) then (X11_boy_L86 l4 k165 n l5 l6 (iA l7 1) μ38) else (X11_boy_L86 l4 k165 n l7 (iA v34 v40) (iA l7 1) μ38)))))
def X11_boy (l1 : Int) (l2 : Int) (l3 : Int) (l4 : Int) (μ : Mm) : Rs := bd (X11_isReady l1 μ) fun v1 μ2 => if v1 = 0 then (some ((-1), μ2)) else (bd (X11_isOpen l2 μ2) fun v5 μ6 => if v5 = 0 then (some ((-1), μ6)) else (bd (X11_in l3 1 9 μ6) fun v9 μ10 => if v9 = 0 then (some ((-1), μ10)) else (bd (X11_in l4 0 1 μ10) fun v13 μ14 => if v13 = 0 then (some ((-1), μ14)) else (X11_boy_L41 l1 l2 l3 l4 (fun μ26 => bd (X11_lay l1 l2 l3 μ26) fun v27 μ28 => X11_boy_L86 l4 (fun v46 v47 μ48 => if v46 = (-1) then (some (v46, μ48)) else (if l4 = 0 then (some (v46, μ48)) else (some (v47, μ48)))) FU (-1) 0 0 μ28) FU 0 μ14))))
set_option maxHeartbeats 4000000 in
set_option maxRecDepth 100000 in
theorem kX11_boy_L41 (d : Nat) (hd : 134 ≤ d) {l1 : Int} {l2 : Int} {l3 : Int} {l4 : Int} {k70 : Mm → Rs} {r : Int} {μ' : Mm} (hk_70 : ∀ (μ1 : Mm), k70 μ1 = some (r, μ') → VV d mX11_boy 70 [some (vR 70), some (vI l1), some (vI l2), some (vI l3), some (vI l4), none, none, none, none, none] [] μ1 r μ') : ∀ (n : Nat) {l5 : Int} {μ : Mm}, X11_boy_L41 l1 l2 l3 l4 k70 n l5 μ = some (r, μ') → VV d mX11_boy 41 [some (vR 70), some (vI l1), some (vI l2), some (vI l3), some (vI l4), some (vI l5), none, none, none, none] [] μ r μ' := by
  intro n
  induction n with
  | zero => intro l5 μ h; rw [X11_boy_L41] at h; cases h
  | succ n ih =>
    intro l5 μ h
    rw [X11_boy_L41] at h
    refine V_iload (q := 43) dX11_boy_41 rfl rfl ?_
    refine V_aload_n (q := 44) dX11_boy_43 rfl rfl rfl ?_
    obtain ⟨v17, μ18, hc19, h⟩ := bd_i h
    refine V_cV1 (q := 47) (v := vI v17) (kX11_all (d - 1) (by omega) hc19) (by omega) mv_X11_357 rfl rfl rfl rfl rfl rfl dX11_boy_44 rfl ?_
    refine V_icmpgt (q := 70) (q2 := 50) dX11_boy_47 (by decide) rfl (fun hc20 => ?_) (fun hc20 => ?_)
    · have h := ifT hc20 h
      exact V_weak (hk_70 _ h) (sb_s rfl (sb_s rfl (sb_s rfl (sb_s rfl (sb_s rfl (sb_n (sb_n (sb_n (sb_n (sb_n sb_0))))))))))
    · have h := ifF hc20 h
      refine V_aload_n (q := 51) dX11_boy_50 rfl rfl rfl ?_
      refine V_getO (q := 54) (t := 95) fl_X11_89 rfl rfl rfl rfl dX11_boy_51 rfl ?_
      refine V_iload (q := 56) dX11_boy_54 rfl rfl ?_
      refine V_aload_n (q := 57) dX11_boy_56 rfl rfl rfl ?_
      refine V_iconst (q := 58) dX11_boy_57 rfl rfl ?_
      refine V_iload (q := 60) dX11_boy_58 rfl rfl ?_
      obtain ⟨v21, μ22, hc23, h⟩ := bd_i h
      refine V_cV1 (q := 63) (v := vI v21) (kX11_leastOf (d - 1) (by omega) hc23) (by omega) mv_X11_360 rfl rfl rfl rfl rfl rfl dX11_boy_60 rfl ?_
      obtain ⟨hi25, h⟩ := stA_i h
      refine V_iastore (q := 64) rfl hi25 dX11_boy_63 rfl ?_
      refine V_iinc (q := 67) dX11_boy_64 rfl (Nat.le_of_ble_eq_true rfl) trivial rfl ?_
      refine V_goto (q := 41) dX11_boy_67 (by decide) ?_
      exact V_weak (ih h) (sb_s rfl (sb_s rfl (sb_s rfl (sb_s rfl (sb_s rfl (sb_s rfl (sb_n (sb_n (sb_n (sb_n sb_0))))))))))
set_option maxHeartbeats 4000000 in
set_option maxRecDepth 100000 in
theorem kX11_boy_L86 (d : Nat) (hd : 134 ≤ d) {l4 : Int} {k165 : Int → Int → Mm → Rs} {r : Int} {μ' : Mm} (hk_165 : ∀ (v5 v6 : Int) (μ1 : Mm), k165 v5 v6 μ1 = some (r, μ') → VV d mX11_boy 165 [none, none, none, none, some (vI l4), some (vI v5), some (vI v6), none, none, none] [] μ1 r μ') : ∀ (n : Nat) {l5 l6 l7 : Int} {μ : Mm}, X11_boy_L86 l4 k165 n l5 l6 l7 μ = some (r, μ') → VV d mX11_boy 86 [some (vR 70), none, none, none, some (vI l4), some (vI l5), some (vI l6), some (vI l7), none, none] [] μ r μ' := by
  intro n
  induction n with
  | zero => intro l5 l6 l7 μ h; rw [X11_boy_L86] at h; cases h
  | succ n ih =>
    intro l5 l6 l7 μ h
    rw [X11_boy_L86] at h
    refine V_iload (q := 88) dX11_boy_86 rfl rfl ?_
    refine V_aload_n (q := 89) dX11_boy_88 rfl rfl rfl ?_
    obtain ⟨v30, μ31, hc32, h⟩ := bd_i h
    refine V_cV1 (q := 92) (v := vI v30) (kX11_all (d - 1) (by omega) hc32) (by omega) mv_X11_357 rfl rfl rfl rfl rfl rfl dX11_boy_89 rfl ?_
    refine V_icmpgt (q := 165) (q2 := 95) dX11_boy_92 (by decide) rfl (fun hc33 => ?_) (fun hc33 => ?_)
    · have h := ifT hc33 h
      exact V_weak (hk_165 _ _ _ h) (sb_n (sb_n (sb_n (sb_n (sb_s rfl (sb_s rfl (sb_s rfl (sb_n (sb_n (sb_n sb_0))))))))))
    · have h := ifF hc33 h
      refine V_aload_n (q := 96) dX11_boy_95 rfl rfl rfl ?_
      refine V_iconst (q := 97) dX11_boy_96 rfl rfl ?_
      refine V_iload (q := 99) dX11_boy_97 rfl rfl ?_
      obtain ⟨v34, μ35, hc36, h⟩ := bd_i h
      refine V_cV1 (q := 102) (v := vI v34) (kX11_leastOf (d - 1) (by omega) hc36) (by omega) mv_X11_360 rfl rfl rfl rfl rfl rfl dX11_boy_99 rfl ?_
      refine V_istore (q := 104) dX11_boy_102 (Nat.le_of_ble_eq_true rfl) trivial rfl ?_
      refine V_aload_n (q := 105) dX11_boy_104 rfl rfl rfl ?_
      refine V_getO (q := 108) (t := 95) fl_X11_89 rfl rfl rfl rfl dX11_boy_105 rfl ?_
      refine V_aload_n (q := 109) dX11_boy_108 rfl rfl rfl ?_
      obtain ⟨v37, μ38, hc39, h⟩ := bd_i h
      refine V_cV1 (q := 112) (v := vI v37) (kX11_all (d - 1) (by omega) hc39) (by omega) mv_X11_357 rfl rfl rfl rfl rfl rfl dX11_boy_109 rfl ?_
      refine V_iload (q := 114) dX11_boy_112 rfl rfl ?_
      refine V_iconst (q := 115) dX11_boy_114 rfl rfl ?_
      refine V_ixor (q := 116) dX11_boy_115 rfl ?_
      refine V_iand (q := 117) dX11_boy_116 rfl ?_
      obtain ⟨hi41, h⟩ := ldA_i h
      refine V_iaload (q := 118) rfl hi41 dX11_boy_117 rfl ?_
      refine V_istore (q := 120) dX11_boy_118 (Nat.le_of_ble_eq_true rfl) trivial rfl ?_
      refine V_iload (q := 122) dX11_boy_120 rfl rfl ?_
      refine V_iconst (q := 123) dX11_boy_122 rfl rfl ?_
      refine V_icmpeq (q := 159) (q2 := 126) dX11_boy_123 (by decide) rfl (fun hc42 => ?_) (fun hc42 => ?_)
      · have h := ifT hc42 h
        refine V_iinc (q := 162) dX11_boy_159 rfl (Nat.le_of_ble_eq_true rfl) trivial rfl ?_
        refine V_goto (q := 86) dX11_boy_162 (by decide) ?_
        exact V_weak (ih h) (sb_s rfl (sb_n (sb_n (sb_n (sb_s rfl (sb_s rfl (sb_s rfl (sb_s rfl (sb_n (sb_n sb_0))))))))))
      · have h := ifF hc42 h
        refine V_iload (q := 128) dX11_boy_126 rfl rfl ?_
        refine V_iconst (q := 129) dX11_boy_128 rfl rfl ?_
        refine V_icmpeq (q := 159) (q2 := 132) dX11_boy_129 (by decide) rfl (fun hc43 => ?_) (fun hc43 => ?_)
        · have h := ifT hc43 h
          refine V_iinc (q := 162) dX11_boy_159 rfl (Nat.le_of_ble_eq_true rfl) trivial rfl ?_
          refine V_goto (q := 86) dX11_boy_162 (by decide) ?_
          exact V_weak (ih h) (sb_s rfl (sb_n (sb_n (sb_n (sb_s rfl (sb_s rfl (sb_s rfl (sb_s rfl (sb_n (sb_n sb_0))))))))))
        · have h := ifF hc43 h
          refine V_iload (q := 134) dX11_boy_132 rfl rfl ?_
          refine V_iconst (q := 135) dX11_boy_134 rfl rfl ?_
          refine V_icmpeq (q := 148) (q2 := 138) dX11_boy_135 (by decide) rfl (fun hc44 => ?_) (fun hc44 => ?_)
          · have h := ifT hc44 h
            refine V_iload (q := 150) dX11_boy_148 rfl rfl ?_
            refine V_istore (q := 152) dX11_boy_150 (Nat.le_of_ble_eq_true rfl) trivial rfl ?_
            refine V_iload (q := 154) dX11_boy_152 rfl rfl ?_
            refine V_iload (q := 156) dX11_boy_154 rfl rfl ?_
            refine V_iadd (q := 157) dX11_boy_156 rfl ?_
            refine V_istore (q := 159) dX11_boy_157 (Nat.le_of_ble_eq_true rfl) trivial rfl ?_
            refine V_iinc (q := 162) dX11_boy_159 rfl (Nat.le_of_ble_eq_true rfl) trivial rfl ?_
            refine V_goto (q := 86) dX11_boy_162 (by decide) ?_
            exact V_weak (ih h) (sb_s rfl (sb_n (sb_n (sb_n (sb_s rfl (sb_s rfl (sb_s rfl (sb_s rfl (sb_n (sb_n sb_0))))))))))
          · have h := ifF hc44 h
            refine V_iload (q := 140) dX11_boy_138 rfl rfl ?_
            refine V_iload (q := 142) dX11_boy_140 rfl rfl ?_
            refine V_iadd (q := 143) dX11_boy_142 rfl ?_
            refine V_iload (q := 145) dX11_boy_143 rfl rfl ?_
            refine V_icmpge (q := 159) (q2 := 148) dX11_boy_145 (by decide) rfl (fun hc45 => ?_) (fun hc45 => ?_)
            · have h := ifT hc45 h
              refine V_iinc (q := 162) dX11_boy_159 rfl (Nat.le_of_ble_eq_true rfl) trivial rfl ?_
              refine V_goto (q := 86) dX11_boy_162 (by decide) ?_
              exact V_weak (ih h) (sb_s rfl (sb_n (sb_n (sb_n (sb_s rfl (sb_s rfl (sb_s rfl (sb_s rfl (sb_n (sb_n sb_0))))))))))
            · have h := ifF hc45 h
              refine V_iload (q := 150) dX11_boy_148 rfl rfl ?_
              refine V_istore (q := 152) dX11_boy_150 (Nat.le_of_ble_eq_true rfl) trivial rfl ?_
              refine V_iload (q := 154) dX11_boy_152 rfl rfl ?_
              refine V_iload (q := 156) dX11_boy_154 rfl rfl ?_
              refine V_iadd (q := 157) dX11_boy_156 rfl ?_
              refine V_istore (q := 159) dX11_boy_157 (Nat.le_of_ble_eq_true rfl) trivial rfl ?_
              refine V_iinc (q := 162) dX11_boy_159 rfl (Nat.le_of_ble_eq_true rfl) trivial rfl ?_
              refine V_goto (q := 86) dX11_boy_162 (by decide) ?_
              exact V_weak (ih h) (sb_s rfl (sb_n (sb_n (sb_n (sb_s rfl (sb_s rfl (sb_s rfl (sb_s rfl (sb_n (sb_n sb_0))))))))))
set_option maxHeartbeats 4000000 in
set_option maxRecDepth 100000 in
theorem kX11_boy (d : Nat) (hd : 134 ≤ d) {l1 : Int} {l2 : Int} {l3 : Int} {l4 : Int} {μ : Mm} {r : Int} {μ' : Mm} (h : X11_boy l1 l2 l3 l4 μ = some (r, μ')) : CC d mX11_boy [vR 70, vI l1, vI l2, vI l3, vI l4] μ r μ' := by
  unfold X11_boy at h
  refine V_enter (by decide) (Nat.le_of_ble_eq_true rfl) ?_
  show VV d mX11_boy 0 [some (vR 70), some (vI l1), some (vI l2), some (vI l3), some (vI l4), none, none, none, none, none] [] μ r μ'
  refine V_aload_n (q := 1) dX11_boy_0 rfl rfl rfl ?_
  refine V_iload_n (q := 2) dX11_boy_1 rfl rfl rfl ?_
  obtain ⟨v1, μ2, hc3, h⟩ := bd_i h
  refine V_cV1 (q := 5) (v := vI v1) (kX11_isReady (d - 1) (by omega) hc3) (by omega) mv_X11_335 rfl rfl rfl rfl rfl rfl dX11_boy_2 rfl ?_
  refine V_ifeq (q := 36) (q2 := 8) dX11_boy_5 (by decide) rfl (fun hc4 => ?_) (fun hc4 => ?_)
  · have h := ifT hc4 h
    refine V_iconst (q := 37) dX11_boy_36 rfl rfl ?_
    exact V_iret rfl h dX11_boy_37
  · have h := ifF hc4 h
    refine V_aload_n (q := 9) dX11_boy_8 rfl rfl rfl ?_
    refine V_iload_n (q := 10) dX11_boy_9 rfl rfl rfl ?_
    obtain ⟨v5, μ6, hc7, h⟩ := bd_i h
    refine V_cV1 (q := 13) (v := vI v5) (kX11_isOpen (d - 1) (by omega) hc7) (by omega) mv_X11_290 rfl rfl rfl rfl rfl rfl dX11_boy_10 rfl ?_
    refine V_ifeq (q := 36) (q2 := 16) dX11_boy_13 (by decide) rfl (fun hc8 => ?_) (fun hc8 => ?_)
    · have h := ifT hc8 h
      refine V_iconst (q := 37) dX11_boy_36 rfl rfl ?_
      exact V_iret rfl h dX11_boy_37
    · have h := ifF hc8 h
      refine V_iload_n (q := 17) dX11_boy_16 rfl rfl rfl ?_
      refine V_iconst (q := 18) dX11_boy_17 rfl rfl ?_
      refine V_bipush (q := 20) dX11_boy_18 rfl rfl rfl ?_
      obtain ⟨v9, μ10, hc11, h⟩ := bd_i h
      refine V_cS1 (q := 23) (v := vI v9) (kX11_in (d - 1) (by omega) hc11) (by omega) mv_X11_213 rfl rfl rfl rfl dX11_boy_20 rfl ?_
      refine V_ifeq (q := 36) (q2 := 26) dX11_boy_23 (by decide) rfl (fun hc12 => ?_) (fun hc12 => ?_)
      · have h := ifT hc12 h
        refine V_iconst (q := 37) dX11_boy_36 rfl rfl ?_
        exact V_iret rfl h dX11_boy_37
      · have h := ifF hc12 h
        refine V_iload (q := 28) dX11_boy_26 rfl rfl ?_
        refine V_iconst (q := 29) dX11_boy_28 rfl rfl ?_
        refine V_iconst (q := 30) dX11_boy_29 rfl rfl ?_
        obtain ⟨v13, μ14, hc15, h⟩ := bd_i h
        refine V_cS1 (q := 33) (v := vI v13) (kX11_in (d - 1) (by omega) hc15) (by omega) mv_X11_213 rfl rfl rfl rfl dX11_boy_30 rfl ?_
        refine V_ifne (q := 38) (q2 := 36) dX11_boy_33 (by decide) rfl (fun hc16 => ?_) (fun hc16 => ?_)
        · have h := ifF hc16 h
          refine V_iconst (q := 39) dX11_boy_38 rfl rfl ?_
          refine V_istore (q := 41) dX11_boy_39 (Nat.le_of_ble_eq_true rfl) trivial rfl ?_
          refine V_weak (kX11_boy_L41 d hd (fun μ26 h => ?_) FU h) (sb_s rfl (sb_s rfl (sb_s rfl (sb_s rfl (sb_s rfl (sb_s rfl (sb_n (sb_n (sb_n (sb_n sb_0))))))))))
          refine V_aload_n (q := 71) dX11_boy_70 rfl rfl rfl ?_
          refine V_iload_n (q := 72) dX11_boy_71 rfl rfl rfl ?_
          refine V_iload_n (q := 73) dX11_boy_72 rfl rfl rfl ?_
          refine V_iload_n (q := 74) dX11_boy_73 rfl rfl rfl ?_
          obtain ⟨v27, μ28, hc29, h⟩ := bd_i h
          refine V_cV0 (q := 77) (kX11_lay (d - 1) (by omega) hc29) (by omega) mv_X11_322 rfl rfl rfl rfl rfl rfl dX11_boy_74 rfl ?_
          refine V_iconst (q := 78) dX11_boy_77 rfl rfl ?_
          refine V_istore (q := 80) dX11_boy_78 (Nat.le_of_ble_eq_true rfl) trivial rfl ?_
          refine V_iconst (q := 81) dX11_boy_80 rfl rfl ?_
          refine V_istore (q := 83) dX11_boy_81 (Nat.le_of_ble_eq_true rfl) trivial rfl ?_
          refine V_iconst (q := 84) dX11_boy_83 rfl rfl ?_
          refine V_istore (q := 86) dX11_boy_84 (Nat.le_of_ble_eq_true rfl) trivial rfl ?_
          refine V_weak (kX11_boy_L86 d hd (fun v46 v47 μ48 h => ?_) FU h) (sb_s rfl (sb_n (sb_n (sb_n (sb_s rfl (sb_s rfl (sb_s rfl (sb_s rfl (sb_n (sb_n sb_0))))))))))
          refine V_iload (q := 167) dX11_boy_165 rfl rfl ?_
          refine V_iconst (q := 168) dX11_boy_167 rfl rfl ?_
          refine V_icmpeq (q := 176) (q2 := 171) dX11_boy_168 (by decide) rfl (fun hc49 => ?_) (fun hc49 => ?_)
          · have h := ifT hc49 h
            refine V_iload (q := 178) dX11_boy_176 rfl rfl ?_
            refine V_goto (q := 183) dX11_boy_178 (by decide) ?_
            exact V_iret rfl h dX11_boy_183
          · have h := ifF hc49 h
            refine V_iload (q := 173) dX11_boy_171 rfl rfl ?_
            refine V_ifne (q := 181) (q2 := 176) dX11_boy_173 (by decide) rfl (fun hc50 => ?_) (fun hc50 => ?_)
            · have h := ifF hc50 h
              refine V_iload (q := 183) dX11_boy_181 rfl rfl ?_
              exact V_iret rfl h dX11_boy_183
            · have h := ifT hc50 h
              refine V_iload (q := 178) dX11_boy_176 rfl rfl ?_
              refine V_goto (q := 183) dX11_boy_178 (by decide) ?_
              exact V_iret rfl h dX11_boy_183
        · have h := ifT hc16 h
          refine V_iconst (q := 37) dX11_boy_36 rfl rfl ?_
          exact V_iret rfl h dX11_boy_37
abbrev mX11_out : Mth := (yX11_out, cX11_out, 2, some .int)
set_option maxRecDepth 100000 in
theorem mi_X11_out : Cond.instanceMethod yX11_out ∈ tG ∧ Cond.selects yX11_out.cls yX11_out yX11_out ∈ tG ∧ Cond.initialized yX11_out.cls ∈ tG ∧ Cond.code yX11_out cX11_out 2 (some .int) ∈ tG ∧ (yX11_out.cls ≠ "java/lang/invoke/MethodHandle" ∧ yX11_out.cls ≠ "java/lang/invoke/VarHandle" ∧ (parseMethodDescriptor yX11_out.desc).map (fun d => d.parameters.length) = some 1) ∧ 2 ≤ 60 := ⟨(tG_of (tb7 (List.mem_of_getElem? (i := 145) rfl)) (by decide +kernel)), (tG_of (tb7 (List.mem_of_getElem? (i := 146) rfl)) (by decide +kernel)), (tG_of (tb1 (List.mem_of_getElem? (i := 12) rfl)) (by decide +kernel)), (tG_of (tb7 (List.mem_of_getElem? (i := 147) rfl)) (by decide +kernel)), ⟨by decide, by decide, by decide +kernel⟩, by decide⟩
theorem dX11_out_0 : decode cX11_out 0 = .ok (.aload_n 0, 1) := dc_42 (byA eNcX11_out (p := 0) (v := 42) (by decide +kernel))
theorem dX11_out_1 : decode cX11_out 1 = .ok (.iload_n 1, 1) := dc_27 (byA eNcX11_out (p := 1) (v := 27) (by decide +kernel))
theorem dX11_out_2 : decode cX11_out 2 = .ok (.invokevirtual 284, 3) := dc_182 (byA eNcX11_out (p := 2) (v := 182) (by decide +kernel)) (byA eNcX11_out (p := 3) (v := 1) (by decide +kernel)) (byA eNcX11_out (p := 4) (v := 28) (by decide +kernel)) rfl
theorem dX11_out_5 : decode cX11_out 5 = .ok (.ifCond .ne 5, 3) := dc_154 (byA eNcX11_out (p := 5) (v := 154) (by decide +kernel)) (byA eNcX11_out (p := 6) (v := 0) (by decide +kernel)) (byA eNcX11_out (p := 7) (v := 5) (by decide +kernel)) (by decide +kernel)
theorem dX11_out_8 : decode cX11_out 8 = .ok (.iconst (-1), 1) := dc_2 (byA eNcX11_out (p := 8) (v := 2) (by decide +kernel))
theorem dX11_out_9 : decode cX11_out 9 = .ok (.ireturn, 1) := dc_172 (byA eNcX11_out (p := 9) (v := 172) (by decide +kernel))
theorem dX11_out_10 : decode cX11_out 10 = .ok (.aload_n 0, 1) := dc_42 (byA eNcX11_out (p := 10) (v := 42) (by decide +kernel))
theorem dX11_out_11 : decode cX11_out 11 = .ok (.aload_n 0, 1) := dc_42 (byA eNcX11_out (p := 11) (v := 42) (by decide +kernel))
theorem dX11_out_12 : decode cX11_out 12 = .ok (.iconst 3, 1) := dc_6 (byA eNcX11_out (p := 12) (v := 6) (by decide +kernel))
theorem dX11_out_13 : decode cX11_out 13 = .ok (.iload_n 1, 1) := dc_27 (byA eNcX11_out (p := 13) (v := 27) (by decide +kernel))
theorem dX11_out_14 : decode cX11_out 14 = .ok (.iadd, 1) := dc_96 (byA eNcX11_out (p := 14) (v := 96) (by decide +kernel))
theorem dX11_out_15 : decode cX11_out 15 = .ok (.invokevirtual 281, 3) := dc_182 (byA eNcX11_out (p := 15) (v := 182) (by decide +kernel)) (byA eNcX11_out (p := 16) (v := 1) (by decide +kernel)) (byA eNcX11_out (p := 17) (v := 25) (by decide +kernel)) rfl
theorem dX11_out_18 : decode cX11_out 18 = .ok (.invokevirtual 293, 3) := dc_182 (byA eNcX11_out (p := 18) (v := 182) (by decide +kernel)) (byA eNcX11_out (p := 19) (v := 1) (by decide +kernel)) (byA eNcX11_out (p := 20) (v := 37) (by decide +kernel)) rfl
theorem dX11_out_21 : decode cX11_out 21 = .ok (.aload_n 0, 1) := dc_42 (byA eNcX11_out (p := 21) (v := 42) (by decide +kernel))
theorem dX11_out_22 : decode cX11_out 22 = .ok (.getfield 65, 3) := dc_180 (byA eNcX11_out (p := 22) (v := 180) (by decide +kernel)) (byA eNcX11_out (p := 23) (v := 0) (by decide +kernel)) (byA eNcX11_out (p := 24) (v := 65) (by decide +kernel)) rfl
theorem dX11_out_25 : decode cX11_out 25 = .ok (.aload_n 0, 1) := dc_42 (byA eNcX11_out (p := 25) (v := 42) (by decide +kernel))
theorem dX11_out_26 : decode cX11_out 26 = .ok (.iconst 2, 1) := dc_5 (byA eNcX11_out (p := 26) (v := 5) (by decide +kernel))
theorem dX11_out_27 : decode cX11_out 27 = .ok (.invokevirtual 281, 3) := dc_182 (byA eNcX11_out (p := 27) (v := 182) (by decide +kernel)) (byA eNcX11_out (p := 28) (v := 1) (by decide +kernel)) (byA eNcX11_out (p := 29) (v := 25) (by decide +kernel)) rfl
theorem dX11_out_30 : decode cX11_out 30 = .ok (.iaload, 1) := dc_46 (byA eNcX11_out (p := 30) (v := 46) (by decide +kernel))
theorem dX11_out_31 : decode cX11_out 31 = .ok (.ireturn, 1) := dc_172 (byA eNcX11_out (p := 31) (v := 172) (by decide +kernel))
def X11_out (l1 : Int) (μ : Mm) : Rs := bd (X11_isCrank l1 μ) fun v1 μ2 => if v1 = 0 then (some ((-1), μ2)) else (bd (X11_placeOf (iA 3 l1) μ2) fun v5 μ6 => bd (X11_spread v5 μ6) fun v8 μ9 => bd (X11_placeOf 2 μ9) fun v11 μ12 => ldA μ12 87 v11 fun v14 => some (v14, μ12))
set_option maxHeartbeats 4000000 in
set_option maxRecDepth 100000 in
theorem kX11_out (d : Nat) (hd : 4 ≤ d) {l1 : Int} {μ : Mm} {r : Int} {μ' : Mm} (h : X11_out l1 μ = some (r, μ')) : CC d mX11_out [vR 70, vI l1] μ r μ' := by
  unfold X11_out at h
  refine V_enter (by decide) (Nat.le_of_ble_eq_true rfl) ?_
  show VV d mX11_out 0 [some (vR 70), some (vI l1)] [] μ r μ'
  refine V_aload_n (q := 1) dX11_out_0 rfl rfl rfl ?_
  refine V_iload_n (q := 2) dX11_out_1 rfl rfl rfl ?_
  obtain ⟨v1, μ2, hc3, h⟩ := bd_i h
  refine V_cV1 (q := 5) (v := vI v1) (kX11_isCrank (d - 1) (by omega) hc3) (by omega) mv_X11_284 rfl rfl rfl rfl rfl rfl dX11_out_2 rfl ?_
  refine V_ifne (q := 10) (q2 := 8) dX11_out_5 (by decide) rfl (fun hc4 => ?_) (fun hc4 => ?_)
  · have h := ifF hc4 h
    refine V_aload_n (q := 11) dX11_out_10 rfl rfl rfl ?_
    refine V_aload_n (q := 12) dX11_out_11 rfl rfl rfl ?_
    refine V_iconst (q := 13) dX11_out_12 rfl rfl ?_
    refine V_iload_n (q := 14) dX11_out_13 rfl rfl rfl ?_
    refine V_iadd (q := 15) dX11_out_14 rfl ?_
    obtain ⟨v5, μ6, hc7, h⟩ := bd_i h
    refine V_cV1 (q := 18) (v := vI v5) (kX11_placeOf (d - 1) (by omega) hc7) (by omega) mv_X11_281 rfl rfl rfl rfl rfl rfl dX11_out_15 rfl ?_
    obtain ⟨v8, μ9, hc10, h⟩ := bd_i h
    refine V_cV0 (q := 21) (kX11_spread (d - 1) (by omega) hc10) (by omega) mv_X11_293 rfl rfl rfl rfl rfl rfl dX11_out_18 rfl ?_
    refine V_aload_n (q := 22) dX11_out_21 rfl rfl rfl ?_
    refine V_getO (q := 25) (t := 87) fl_X11_65 rfl rfl rfl rfl dX11_out_22 rfl ?_
    refine V_aload_n (q := 26) dX11_out_25 rfl rfl rfl ?_
    refine V_iconst (q := 27) dX11_out_26 rfl rfl ?_
    obtain ⟨v11, μ12, hc13, h⟩ := bd_i h
    refine V_cV1 (q := 30) (v := vI v11) (kX11_placeOf (d - 1) (by omega) hc13) (by omega) mv_X11_281 rfl rfl rfl rfl rfl rfl dX11_out_27 rfl ?_
    obtain ⟨hi15, h⟩ := ldA_i h
    refine V_iaload (q := 31) rfl hi15 dX11_out_30 rfl ?_
    exact V_iret rfl h dX11_out_31
  · have h := ifT hc4 h
    refine V_iconst (q := 9) dX11_out_8 rfl rfl ?_
    exact V_iret rfl h dX11_out_9
