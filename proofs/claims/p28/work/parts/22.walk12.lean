abbrev mX11_readCellar : Mth := (yX11_readCellar, cX11_readCellar, 2, some .int)
set_option maxRecDepth 100000 in
theorem mi_X11_readCellar : Cond.instanceMethod yX11_readCellar ∈ tG ∧ Cond.selects yX11_readCellar.cls yX11_readCellar yX11_readCellar ∈ tG ∧ Cond.initialized yX11_readCellar.cls ∈ tG ∧ Cond.code yX11_readCellar cX11_readCellar 2 (some .int) ∈ tG ∧ (yX11_readCellar.cls ≠ "java/lang/invoke/MethodHandle" ∧ yX11_readCellar.cls ≠ "java/lang/invoke/VarHandle" ∧ (parseMethodDescriptor yX11_readCellar.desc).map (fun d => d.parameters.length) = some 0) ∧ 2 ≤ 60 := ⟨(tG_of (tb6 (List.mem_of_getElem? (i := 48) rfl)) (by decide +kernel)), (tG_of (List.mem_of_getElem? (i := 47) (by decide +kernel)) (by decide +kernel)), (tG_of (tb1 (List.mem_of_getElem? (i := 12) rfl)) (by decide +kernel)), (tG_of (tb6 (List.mem_of_getElem? (i := 49) rfl)) (by decide +kernel)), ⟨by decide, by decide, by decide +kernel⟩, by decide⟩
set_option maxRecDepth 100000 in
theorem mv_X11_243 : mV RX11 243 mX11_readCellar 0 := ⟨(tG_of (tb6 (List.mem_of_getElem? (i := 46) rfl)) (by decide +kernel)), mi_X11_readCellar⟩
theorem dX11_readCellar_0 : decode cX11_readCellar 0 = .ok (.aload_n 0, 1) := dc_42 (byA eNcX11_readCellar (p := 0) (v := 42) (by decide +kernel))
theorem dX11_readCellar_1 : decode cX11_readCellar 1 = .ok (.iconst 0, 1) := dc_3 (byA eNcX11_readCellar (p := 1) (v := 3) (by decide +kernel))
theorem dX11_readCellar_2 : decode cX11_readCellar 2 = .ok (.putfield 108, 3) := dc_181 (byA eNcX11_readCellar (p := 2) (v := 181) (by decide +kernel)) (byA eNcX11_readCellar (p := 3) (v := 0) (by decide +kernel)) (byA eNcX11_readCellar (p := 4) (v := 108) (by decide +kernel)) rfl
theorem dX11_readCellar_5 : decode cX11_readCellar 5 = .ok (.aload_n 0, 1) := dc_42 (byA eNcX11_readCellar (p := 5) (v := 42) (by decide +kernel))
theorem dX11_readCellar_6 : decode cX11_readCellar 6 = .ok (.iconst (-1), 1) := dc_2 (byA eNcX11_readCellar (p := 6) (v := 2) (by decide +kernel))
theorem dX11_readCellar_7 : decode cX11_readCellar 7 = .ok (.putfield 115, 3) := dc_181 (byA eNcX11_readCellar (p := 7) (v := 181) (by decide +kernel)) (byA eNcX11_readCellar (p := 8) (v := 0) (by decide +kernel)) (byA eNcX11_readCellar (p := 9) (v := 115) (by decide +kernel)) rfl
theorem dX11_readCellar_10 : decode cX11_readCellar 10 = .ok (.aload_n 0, 1) := dc_42 (byA eNcX11_readCellar (p := 10) (v := 42) (by decide +kernel))
theorem dX11_readCellar_11 : decode cX11_readCellar 11 = .ok (.iconst 0, 1) := dc_3 (byA eNcX11_readCellar (p := 11) (v := 3) (by decide +kernel))
theorem dX11_readCellar_12 : decode cX11_readCellar 12 = .ok (.putfield 231, 3) := dc_181 (byA eNcX11_readCellar (p := 12) (v := 181) (by decide +kernel)) (byA eNcX11_readCellar (p := 13) (v := 0) (by decide +kernel)) (byA eNcX11_readCellar (p := 14) (v := 231) (by decide +kernel)) rfl
theorem dX11_readCellar_15 : decode cX11_readCellar 15 = .ok (.aload_n 0, 1) := dc_42 (byA eNcX11_readCellar (p := 15) (v := 42) (by decide +kernel))
theorem dX11_readCellar_16 : decode cX11_readCellar 16 = .ok (.iconst 0, 1) := dc_3 (byA eNcX11_readCellar (p := 16) (v := 3) (by decide +kernel))
theorem dX11_readCellar_17 : decode cX11_readCellar 17 = .ok (.putfield 224, 3) := dc_181 (byA eNcX11_readCellar (p := 17) (v := 181) (by decide +kernel)) (byA eNcX11_readCellar (p := 18) (v := 0) (by decide +kernel)) (byA eNcX11_readCellar (p := 19) (v := 224) (by decide +kernel)) rfl
theorem dX11_readCellar_20 : decode cX11_readCellar 20 = .ok (.aload_n 0, 1) := dc_42 (byA eNcX11_readCellar (p := 20) (v := 42) (by decide +kernel))
theorem dX11_readCellar_21 : decode cX11_readCellar 21 = .ok (.iconst 0, 1) := dc_3 (byA eNcX11_readCellar (p := 21) (v := 3) (by decide +kernel))
theorem dX11_readCellar_22 : decode cX11_readCellar 22 = .ok (.putfield 220, 3) := dc_181 (byA eNcX11_readCellar (p := 22) (v := 181) (by decide +kernel)) (byA eNcX11_readCellar (p := 23) (v := 0) (by decide +kernel)) (byA eNcX11_readCellar (p := 24) (v := 220) (by decide +kernel)) rfl
theorem dX11_readCellar_25 : decode cX11_readCellar 25 = .ok (.iconst 1, 1) := dc_4 (byA eNcX11_readCellar (p := 25) (v := 4) (by decide +kernel))
theorem dX11_readCellar_26 : decode cX11_readCellar 26 = .ok (.istore_n 1, 1) := dc_60 (byA eNcX11_readCellar (p := 26) (v := 60) (by decide +kernel))
theorem dX11_readCellar_27 : decode cX11_readCellar 27 = .ok (.iload_n 1, 1) := dc_27 (byA eNcX11_readCellar (p := 27) (v := 27) (by decide +kernel))
theorem dX11_readCellar_28 : decode cX11_readCellar 28 = .ok (.ifCond .eq 68, 3) := dc_153 (byA eNcX11_readCellar (p := 28) (v := 153) (by decide +kernel)) (byA eNcX11_readCellar (p := 29) (v := 0) (by decide +kernel)) (byA eNcX11_readCellar (p := 30) (v := 68) (by decide +kernel)) (by decide +kernel)
theorem dX11_readCellar_31 : decode cX11_readCellar 31 = .ok (.aload_n 0, 1) := dc_42 (byA eNcX11_readCellar (p := 31) (v := 42) (by decide +kernel))
theorem dX11_readCellar_32 : decode cX11_readCellar 32 = .ok (.getfield 115, 3) := dc_180 (byA eNcX11_readCellar (p := 32) (v := 180) (by decide +kernel)) (byA eNcX11_readCellar (p := 33) (v := 0) (by decide +kernel)) (byA eNcX11_readCellar (p := 34) (v := 115) (by decide +kernel)) rfl
theorem dX11_readCellar_35 : decode cX11_readCellar 35 = .ok (.iconst (-1), 1) := dc_2 (byA eNcX11_readCellar (p := 35) (v := 2) (by decide +kernel))
theorem dX11_readCellar_36 : decode cX11_readCellar 36 = .ok (.if_icmp .ne 60, 3) := dc_160 (byA eNcX11_readCellar (p := 36) (v := 160) (by decide +kernel)) (byA eNcX11_readCellar (p := 37) (v := 0) (by decide +kernel)) (byA eNcX11_readCellar (p := 38) (v := 60) (by decide +kernel)) (by decide +kernel)
theorem dX11_readCellar_39 : decode cX11_readCellar 39 = .ok (.aload_n 0, 1) := dc_42 (byA eNcX11_readCellar (p := 39) (v := 42) (by decide +kernel))
theorem dX11_readCellar_40 : decode cX11_readCellar 40 = .ok (.invokevirtual 237, 3) := dc_182 (byA eNcX11_readCellar (p := 40) (v := 182) (by decide +kernel)) (byA eNcX11_readCellar (p := 41) (v := 0) (by decide +kernel)) (byA eNcX11_readCellar (p := 42) (v := 237) (by decide +kernel)) rfl
theorem dX11_readCellar_43 : decode cX11_readCellar 43 = .ok (.aload_n 0, 1) := dc_42 (byA eNcX11_readCellar (p := 43) (v := 42) (by decide +kernel))
theorem dX11_readCellar_44 : decode cX11_readCellar 44 = .ok (.getfield 115, 3) := dc_180 (byA eNcX11_readCellar (p := 44) (v := 180) (by decide +kernel)) (byA eNcX11_readCellar (p := 45) (v := 0) (by decide +kernel)) (byA eNcX11_readCellar (p := 46) (v := 115) (by decide +kernel)) rfl
theorem dX11_readCellar_47 : decode cX11_readCellar 47 = .ok (.iconst (-1), 1) := dc_2 (byA eNcX11_readCellar (p := 47) (v := 2) (by decide +kernel))
theorem dX11_readCellar_48 : decode cX11_readCellar 48 = .ok (.if_icmp .ne 25, 3) := dc_160 (byA eNcX11_readCellar (p := 48) (v := 160) (by decide +kernel)) (byA eNcX11_readCellar (p := 49) (v := 0) (by decide +kernel)) (byA eNcX11_readCellar (p := 50) (v := 25) (by decide +kernel)) (by decide +kernel)
theorem dX11_readCellar_51 : decode cX11_readCellar 51 = .ok (.aload_n 0, 1) := dc_42 (byA eNcX11_readCellar (p := 51) (v := 42) (by decide +kernel))
theorem dX11_readCellar_52 : decode cX11_readCellar 52 = .ok (.invokevirtual 127, 3) := dc_182 (byA eNcX11_readCellar (p := 52) (v := 182) (by decide +kernel)) (byA eNcX11_readCellar (p := 53) (v := 0) (by decide +kernel)) (byA eNcX11_readCellar (p := 54) (v := 127) (by decide +kernel)) rfl
theorem dX11_readCellar_55 : decode cX11_readCellar 55 = .ok (.bipush 47, 2) := dc_16 (byA eNcX11_readCellar (p := 55) (v := 16) (by decide +kernel)) (byA eNcX11_readCellar (p := 56) (v := 47) (by decide +kernel)) (by decide +kernel)
theorem dX11_readCellar_57 : decode cX11_readCellar 57 = .ok (.if_icmp .ne 16, 3) := dc_160 (byA eNcX11_readCellar (p := 57) (v := 160) (by decide +kernel)) (byA eNcX11_readCellar (p := 58) (v := 0) (by decide +kernel)) (byA eNcX11_readCellar (p := 59) (v := 16) (by decide +kernel)) (by decide +kernel)
theorem dX11_readCellar_60 : decode cX11_readCellar 60 = .ok (.aload_n 0, 1) := dc_42 (byA eNcX11_readCellar (p := 60) (v := 42) (by decide +kernel))
theorem dX11_readCellar_61 : decode cX11_readCellar 61 = .ok (.getfield 231, 3) := dc_180 (byA eNcX11_readCellar (p := 61) (v := 180) (by decide +kernel)) (byA eNcX11_readCellar (p := 62) (v := 0) (by decide +kernel)) (byA eNcX11_readCellar (p := 63) (v := 231) (by decide +kernel)) rfl
theorem dX11_readCellar_64 : decode cX11_readCellar 64 = .ok (.bipush 6, 2) := dc_16 (byA eNcX11_readCellar (p := 64) (v := 16) (by decide +kernel)) (byA eNcX11_readCellar (p := 65) (v := 6) (by decide +kernel)) (by decide +kernel)
theorem dX11_readCellar_66 : decode cX11_readCellar 66 = .ok (.if_icmp .ge 7, 3) := dc_162 (byA eNcX11_readCellar (p := 66) (v := 162) (by decide +kernel)) (byA eNcX11_readCellar (p := 67) (v := 0) (by decide +kernel)) (byA eNcX11_readCellar (p := 68) (v := 7) (by decide +kernel)) (by decide +kernel)
theorem dX11_readCellar_69 : decode cX11_readCellar 69 = .ok (.iconst 1, 1) := dc_4 (byA eNcX11_readCellar (p := 69) (v := 4) (by decide +kernel))
theorem dX11_readCellar_70 : decode cX11_readCellar 70 = .ok (.goto 4, 3) := dc_167 (byA eNcX11_readCellar (p := 70) (v := 167) (by decide +kernel)) (byA eNcX11_readCellar (p := 71) (v := 0) (by decide +kernel)) (byA eNcX11_readCellar (p := 72) (v := 4) (by decide +kernel)) (by decide +kernel)
theorem dX11_readCellar_73 : decode cX11_readCellar 73 = .ok (.iconst 0, 1) := dc_3 (byA eNcX11_readCellar (p := 73) (v := 3) (by decide +kernel))
theorem dX11_readCellar_74 : decode cX11_readCellar 74 = .ok (.istore_n 1, 1) := dc_60 (byA eNcX11_readCellar (p := 74) (v := 60) (by decide +kernel))
theorem dX11_readCellar_75 : decode cX11_readCellar 75 = .ok (.aload_n 0, 1) := dc_42 (byA eNcX11_readCellar (p := 75) (v := 42) (by decide +kernel))
theorem dX11_readCellar_76 : decode cX11_readCellar 76 = .ok (.dup, 1) := dc_89 (byA eNcX11_readCellar (p := 76) (v := 89) (by decide +kernel))
theorem dX11_readCellar_77 : decode cX11_readCellar 77 = .ok (.getfield 108, 3) := dc_180 (byA eNcX11_readCellar (p := 77) (v := 180) (by decide +kernel)) (byA eNcX11_readCellar (p := 78) (v := 0) (by decide +kernel)) (byA eNcX11_readCellar (p := 79) (v := 108) (by decide +kernel)) rfl
theorem dX11_readCellar_80 : decode cX11_readCellar 80 = .ok (.iload_n 1, 1) := dc_27 (byA eNcX11_readCellar (p := 80) (v := 27) (by decide +kernel))
theorem dX11_readCellar_81 : decode cX11_readCellar 81 = .ok (.ifCond .eq 7, 3) := dc_153 (byA eNcX11_readCellar (p := 81) (v := 153) (by decide +kernel)) (byA eNcX11_readCellar (p := 82) (v := 0) (by decide +kernel)) (byA eNcX11_readCellar (p := 83) (v := 7) (by decide +kernel)) (by decide +kernel)
theorem dX11_readCellar_84 : decode cX11_readCellar 84 = .ok (.iconst 1, 1) := dc_4 (byA eNcX11_readCellar (p := 84) (v := 4) (by decide +kernel))
theorem dX11_readCellar_85 : decode cX11_readCellar 85 = .ok (.goto 4, 3) := dc_167 (byA eNcX11_readCellar (p := 85) (v := 167) (by decide +kernel)) (byA eNcX11_readCellar (p := 86) (v := 0) (by decide +kernel)) (byA eNcX11_readCellar (p := 87) (v := 4) (by decide +kernel)) (by decide +kernel)
theorem dX11_readCellar_88 : decode cX11_readCellar 88 = .ok (.iconst 0, 1) := dc_3 (byA eNcX11_readCellar (p := 88) (v := 3) (by decide +kernel))
theorem dX11_readCellar_89 : decode cX11_readCellar 89 = .ok (.iadd, 1) := dc_96 (byA eNcX11_readCellar (p := 89) (v := 96) (by decide +kernel))
theorem dX11_readCellar_90 : decode cX11_readCellar 90 = .ok (.putfield 108, 3) := dc_181 (byA eNcX11_readCellar (p := 90) (v := 181) (by decide +kernel)) (byA eNcX11_readCellar (p := 91) (v := 0) (by decide +kernel)) (byA eNcX11_readCellar (p := 92) (v := 108) (by decide +kernel)) rfl
theorem dX11_readCellar_93 : decode cX11_readCellar 93 = .ok (.goto (-66), 3) := dc_167 (byA eNcX11_readCellar (p := 93) (v := 167) (by decide +kernel)) (byA eNcX11_readCellar (p := 94) (v := 255) (by decide +kernel)) (byA eNcX11_readCellar (p := 95) (v := 190) (by decide +kernel)) (by decide +kernel)
theorem dX11_readCellar_96 : decode cX11_readCellar 96 = .ok (.aload_n 0, 1) := dc_42 (byA eNcX11_readCellar (p := 96) (v := 42) (by decide +kernel))
theorem dX11_readCellar_97 : decode cX11_readCellar 97 = .ok (.getfield 115, 3) := dc_180 (byA eNcX11_readCellar (p := 97) (v := 180) (by decide +kernel)) (byA eNcX11_readCellar (p := 98) (v := 0) (by decide +kernel)) (byA eNcX11_readCellar (p := 99) (v := 115) (by decide +kernel)) rfl
theorem dX11_readCellar_100 : decode cX11_readCellar 100 = .ok (.iconst (-1), 1) := dc_2 (byA eNcX11_readCellar (p := 100) (v := 2) (by decide +kernel))
theorem dX11_readCellar_101 : decode cX11_readCellar 101 = .ok (.if_icmp .ne 29, 3) := dc_160 (byA eNcX11_readCellar (p := 101) (v := 160) (by decide +kernel)) (byA eNcX11_readCellar (p := 102) (v := 0) (by decide +kernel)) (byA eNcX11_readCellar (p := 103) (v := 29) (by decide +kernel)) (by decide +kernel)
theorem dX11_readCellar_104 : decode cX11_readCellar 104 = .ok (.aload_n 0, 1) := dc_42 (byA eNcX11_readCellar (p := 104) (v := 42) (by decide +kernel))
theorem dX11_readCellar_105 : decode cX11_readCellar 105 = .ok (.invokevirtual 127, 3) := dc_182 (byA eNcX11_readCellar (p := 105) (v := 182) (by decide +kernel)) (byA eNcX11_readCellar (p := 106) (v := 0) (by decide +kernel)) (byA eNcX11_readCellar (p := 107) (v := 127) (by decide +kernel)) rfl
theorem dX11_readCellar_108 : decode cX11_readCellar 108 = .ok (.iconst (-1), 1) := dc_2 (byA eNcX11_readCellar (p := 108) (v := 2) (by decide +kernel))
theorem dX11_readCellar_109 : decode cX11_readCellar 109 = .ok (.if_icmp .ne 17, 3) := dc_160 (byA eNcX11_readCellar (p := 109) (v := 160) (by decide +kernel)) (byA eNcX11_readCellar (p := 110) (v := 0) (by decide +kernel)) (byA eNcX11_readCellar (p := 111) (v := 17) (by decide +kernel)) (by decide +kernel)
theorem dX11_readCellar_112 : decode cX11_readCellar 112 = .ok (.aload_n 0, 1) := dc_42 (byA eNcX11_readCellar (p := 112) (v := 42) (by decide +kernel))
theorem dX11_readCellar_113 : decode cX11_readCellar 113 = .ok (.getfield 220, 3) := dc_180 (byA eNcX11_readCellar (p := 113) (v := 180) (by decide +kernel)) (byA eNcX11_readCellar (p := 114) (v := 0) (by decide +kernel)) (byA eNcX11_readCellar (p := 115) (v := 220) (by decide +kernel)) rfl
theorem dX11_readCellar_116 : decode cX11_readCellar 116 = .ok (.ifCond .eq 10, 3) := dc_153 (byA eNcX11_readCellar (p := 116) (v := 153) (by decide +kernel)) (byA eNcX11_readCellar (p := 117) (v := 0) (by decide +kernel)) (byA eNcX11_readCellar (p := 118) (v := 10) (by decide +kernel)) (by decide +kernel)
theorem dX11_readCellar_119 : decode cX11_readCellar 119 = .ok (.aload_n 0, 1) := dc_42 (byA eNcX11_readCellar (p := 119) (v := 42) (by decide +kernel))
theorem dX11_readCellar_120 : decode cX11_readCellar 120 = .ok (.getfield 224, 3) := dc_180 (byA eNcX11_readCellar (p := 120) (v := 180) (by decide +kernel)) (byA eNcX11_readCellar (p := 121) (v := 0) (by decide +kernel)) (byA eNcX11_readCellar (p := 122) (v := 224) (by decide +kernel)) rfl
theorem dX11_readCellar_123 : decode cX11_readCellar 123 = .ok (.ifCond .ne 7, 3) := dc_154 (byA eNcX11_readCellar (p := 123) (v := 154) (by decide +kernel)) (byA eNcX11_readCellar (p := 124) (v := 0) (by decide +kernel)) (byA eNcX11_readCellar (p := 125) (v := 7) (by decide +kernel)) (by decide +kernel)
theorem dX11_readCellar_126 : decode cX11_readCellar 126 = .ok (.aload_n 0, 1) := dc_42 (byA eNcX11_readCellar (p := 126) (v := 42) (by decide +kernel))
theorem dX11_readCellar_127 : decode cX11_readCellar 127 = .ok (.invokevirtual 124, 3) := dc_182 (byA eNcX11_readCellar (p := 127) (v := 182) (by decide +kernel)) (byA eNcX11_readCellar (p := 128) (v := 0) (by decide +kernel)) (byA eNcX11_readCellar (p := 129) (v := 124) (by decide +kernel)) rfl
theorem dX11_readCellar_130 : decode cX11_readCellar 130 = .ok (.aload_n 0, 1) := dc_42 (byA eNcX11_readCellar (p := 130) (v := 42) (by decide +kernel))
theorem dX11_readCellar_131 : decode cX11_readCellar 131 = .ok (.getfield 115, 3) := dc_180 (byA eNcX11_readCellar (p := 131) (v := 180) (by decide +kernel)) (byA eNcX11_readCellar (p := 132) (v := 0) (by decide +kernel)) (byA eNcX11_readCellar (p := 133) (v := 115) (by decide +kernel)) rfl
theorem dX11_readCellar_134 : decode cX11_readCellar 134 = .ok (.ireturn, 1) := dc_172 (byA eNcX11_readCellar (p := 134) (v := 172) (by decide +kernel))
def X11_readCellar_J74 (k27 : Int → Mm → Rs) (s0 : Int) (μ : Mm) : Rs := if s0 = 0 then (sF μ 70 3 (iA (μ 70 3) 0) fun μ14 => k27 s0 μ14) else (sF μ 70 3 (iA (μ 70 3) 1) fun μ15 => k27 s0 μ15)
def X11_readCellar_J73 (k27 : Int → Mm → Rs) (μ : Mm) : Rs := X11_readCellar_J74 (fun w1 μq => k27 w1 μq) 0 μ
def X11_readCellar_L27 (k96 : Mm → Rs) : Nat → Int → Mm → Rs
  | 0, _, _ => none
  | n + 1, l1, μ => if l1 = 0 then (k96 μ) else (if (μ 70 4) = (-1) then (bd (X11_rowText μ) fun v9 μ10 => if (μ10 70 4) = (-1) then (bd (X11_look μ10) fun v16 μ17 => if v16 = 47 then (if 6 ≤ (μ17 70 18) then (X11_readCellar_J73 (fun w1 μq => X11_readCellar_L27 k96 n w1 μq) μ17) else (X11_readCellar_J74 (fun w1 μq => X11_readCellar_L27 k96 n w1 μq) 1 μ17)) else (X11_readCellar_J73 (fun w1 μq => X11_readCellar_L27 k96 n w1 μq) μ17)) else (X11_readCellar_J73 (fun w1 μq => X11_readCellar_L27 k96 n w1 μq) μ10)) else (k96 μ))
def X11_readCellar_J96 (μ : Mm) : Rs := if (μ 70 4) = (-1) then (bd (X11_look μ) fun v23 μ24 => if v23 = (-1) then (if (μ24 70 21) = 0 then (bd (X11_bad μ24) fun v31 μ32 => some (μ32 70 4, μ32)) else (if (μ24 70 20) = 0 then (bd (X11_bad μ24) fun v35 μ36 => some (μ36 70 4, μ36)) else (some (μ24 70 4, μ24)))) else (bd (X11_bad μ24) fun v27 μ28 => some (μ28 70 4, μ28))) else (some (μ 70 4, μ))
def X11_readCellar (μ : Mm) : Rs := sF μ 70 3 0 fun μ1 => sF μ1 70 4 (-1) fun μ2 => sF μ2 70 18 0 fun μ3 => sF μ3 70 20 0 fun μ4 => sZ μ4 70 21 0 fun μ5 => X11_readCellar_L27 (fun μ21 => X11_readCellar_J96 μ21) FU 1 μ5
set_option maxHeartbeats 4000000 in
set_option maxRecDepth 100000 in
theorem kX11_readCellar_J74 (d : Nat) (hd : 4 ≤ d) {k27 : Int → Mm → Rs} {s0 : Int} {μ : Mm} {r : Int} {μ' : Mm} (hk_27 : ∀ (v1 : Int) (μ1 : Mm), k27 v1 μ1 = some (r, μ') → VV d mX11_readCellar 27 [some (vR 70), some (vI v1)] [] μ1 r μ') (h : X11_readCellar_J74 k27 s0 μ = some (r, μ')) : VV d mX11_readCellar 74 [some (vR 70), none] [vI s0] μ r μ' := by
  unfold X11_readCellar_J74 at h
  refine V_istore_n (q := 75) dX11_readCellar_74 rfl (Nat.le_of_ble_eq_true rfl) trivial rfl ?_
  refine V_aload_n (q := 76) dX11_readCellar_75 rfl rfl rfl ?_
  refine V_dup (q := 77) dX11_readCellar_76 trivial rfl ?_
  refine V_getI (q := 80) fl_X11_108 rfl rfl rfl dX11_readCellar_77 rfl ?_
  refine V_iload_n (q := 81) dX11_readCellar_80 rfl rfl rfl ?_
  refine V_ifeq (q := 88) (q2 := 84) dX11_readCellar_81 (by decide) rfl (fun hc13 => ?_) (fun hc13 => ?_)
  · have h := ifT hc13 h
    refine V_iconst (q := 89) dX11_readCellar_88 rfl rfl ?_
    refine V_iadd (q := 90) dX11_readCellar_89 rfl ?_
    have h := sF_i h
    refine V_putI (q := 93) fl_X11_108 rfl rfl rfl dX11_readCellar_90 rfl ?_
    refine V_goto (q := 27) dX11_readCellar_93 (by decide) ?_
    exact V_weak (hk_27 _ _ h) (sb_s rfl (sb_s rfl sb_0))
  · have h := ifF hc13 h
    refine V_iconst (q := 85) dX11_readCellar_84 rfl rfl ?_
    refine V_goto (q := 89) dX11_readCellar_85 (by decide) ?_
    refine V_iadd (q := 90) dX11_readCellar_89 rfl ?_
    have h := sF_i h
    refine V_putI (q := 93) fl_X11_108 rfl rfl rfl dX11_readCellar_90 rfl ?_
    refine V_goto (q := 27) dX11_readCellar_93 (by decide) ?_
    exact V_weak (hk_27 _ _ h) (sb_s rfl (sb_s rfl sb_0))
set_option maxHeartbeats 4000000 in
set_option maxRecDepth 100000 in
theorem kX11_readCellar_J73 (d : Nat) (hd : 4 ≤ d) {k27 : Int → Mm → Rs} {μ : Mm} {r : Int} {μ' : Mm} (hk_27 : ∀ (v1 : Int) (μ1 : Mm), k27 v1 μ1 = some (r, μ') → VV d mX11_readCellar 27 [some (vR 70), some (vI v1)] [] μ1 r μ') (h : X11_readCellar_J73 k27 μ = some (r, μ')) : VV d mX11_readCellar 73 [some (vR 70), none] [] μ r μ' := by
  unfold X11_readCellar_J73 at h
  refine V_iconst (q := 74) dX11_readCellar_73 rfl rfl ?_
  exact V_weak (kX11_readCellar_J74 d hd (fun _ _ h => hk_27 _ _ h) h) (sb_s rfl (sb_n sb_0))
set_option maxHeartbeats 4000000 in
set_option maxRecDepth 100000 in
theorem kX11_readCellar_L27 (d : Nat) (hd : 4 ≤ d) {k96 : Mm → Rs} {r : Int} {μ' : Mm} (hk_96 : ∀ (μ1 : Mm), k96 μ1 = some (r, μ') → VV d mX11_readCellar 96 [some (vR 70), none] [] μ1 r μ') : ∀ (n : Nat) {l1 : Int} {μ : Mm}, X11_readCellar_L27 k96 n l1 μ = some (r, μ') → VV d mX11_readCellar 27 [some (vR 70), some (vI l1)] [] μ r μ' := by
  intro n
  induction n with
  | zero => intro l1 μ h; rw [X11_readCellar_L27] at h; cases h
  | succ n ih =>
    intro l1 μ h
    rw [X11_readCellar_L27] at h
    refine V_iload_n (q := 28) dX11_readCellar_27 rfl rfl rfl ?_
    refine V_ifeq (q := 96) (q2 := 31) dX11_readCellar_28 (by decide) rfl (fun hc7 => ?_) (fun hc7 => ?_)
    · have h := ifT hc7 h
      exact V_weak (hk_96 _ h) (sb_s rfl (sb_n sb_0))
    · have h := ifF hc7 h
      refine V_aload_n (q := 32) dX11_readCellar_31 rfl rfl rfl ?_
      refine V_getI (q := 35) fl_X11_115 rfl rfl rfl dX11_readCellar_32 rfl ?_
      refine V_iconst (q := 36) dX11_readCellar_35 rfl rfl ?_
      refine V_icmpne (q := 96) (q2 := 39) dX11_readCellar_36 (by decide) rfl (fun hc8 => ?_) (fun hc8 => ?_)
      · have h := ifF hc8 h
        exact V_weak (hk_96 _ h) (sb_s rfl (sb_n sb_0))
      · have h := ifT hc8 h
        refine V_aload_n (q := 40) dX11_readCellar_39 rfl rfl rfl ?_
        obtain ⟨v9, μ10, hc11, h⟩ := bd_i h
        refine V_cV0 (q := 43) (kX11_rowText (d - 1) (by omega) hc11) (by omega) mv_X11_237 rfl rfl rfl rfl rfl rfl dX11_readCellar_40 rfl ?_
        refine V_aload_n (q := 44) dX11_readCellar_43 rfl rfl rfl ?_
        refine V_getI (q := 47) fl_X11_115 rfl rfl rfl dX11_readCellar_44 rfl ?_
        refine V_iconst (q := 48) dX11_readCellar_47 rfl rfl ?_
        refine V_icmpne (q := 73) (q2 := 51) dX11_readCellar_48 (by decide) rfl (fun hc12 => ?_) (fun hc12 => ?_)
        · have h := ifF hc12 h
          exact V_weak (kX11_readCellar_J73 d hd (fun _ _ h => ih h) h) (sb_s rfl (sb_n sb_0))
        · have h := ifT hc12 h
          refine V_aload_n (q := 52) dX11_readCellar_51 rfl rfl rfl ?_
          obtain ⟨v16, μ17, hc18, h⟩ := bd_i h
          refine V_cV1 (q := 55) (v := vI v16) (kX11_look (d - 1) (by omega) hc18) (by omega) mv_X11_127 rfl rfl rfl rfl rfl rfl dX11_readCellar_52 rfl ?_
          refine V_bipush (q := 57) dX11_readCellar_55 rfl rfl rfl ?_
          refine V_icmpne (q := 73) (q2 := 60) dX11_readCellar_57 (by decide) rfl (fun hc19 => ?_) (fun hc19 => ?_)
          · have h := ifF hc19 h
            exact V_weak (kX11_readCellar_J73 d hd (fun _ _ h => ih h) h) (sb_s rfl (sb_n sb_0))
          · have h := ifT hc19 h
            refine V_aload_n (q := 61) dX11_readCellar_60 rfl rfl rfl ?_
            refine V_getI (q := 64) fl_X11_231 rfl rfl rfl dX11_readCellar_61 rfl ?_
            refine V_bipush (q := 66) dX11_readCellar_64 rfl rfl rfl ?_
            refine V_icmpge (q := 73) (q2 := 69) dX11_readCellar_66 (by decide) rfl (fun hc20 => ?_) (fun hc20 => ?_)
            · have h := ifT hc20 h
              exact V_weak (kX11_readCellar_J73 d hd (fun _ _ h => ih h) h) (sb_s rfl (sb_n sb_0))
            · have h := ifF hc20 h
              refine V_iconst (q := 70) dX11_readCellar_69 rfl rfl ?_
              refine V_goto (q := 74) dX11_readCellar_70 (by decide) ?_
              exact V_weak (kX11_readCellar_J74 d hd (fun _ _ h => ih h) h) (sb_s rfl (sb_n sb_0))
set_option maxHeartbeats 4000000 in
set_option maxRecDepth 100000 in
theorem kX11_readCellar_J96 (d : Nat) (hd : 4 ≤ d) {μ : Mm} {r : Int} {μ' : Mm} (h : X11_readCellar_J96 μ = some (r, μ')) : VV d mX11_readCellar 96 [some (vR 70), none] [] μ r μ' := by
  unfold X11_readCellar_J96 at h
  refine V_aload_n (q := 97) dX11_readCellar_96 rfl rfl rfl ?_
  refine V_getI (q := 100) fl_X11_115 rfl rfl rfl dX11_readCellar_97 rfl ?_
  refine V_iconst (q := 101) dX11_readCellar_100 rfl rfl ?_
  refine V_icmpne (q := 130) (q2 := 104) dX11_readCellar_101 (by decide) rfl (fun hc22 => ?_) (fun hc22 => ?_)
  · have h := ifF hc22 h
    refine V_aload_n (q := 131) dX11_readCellar_130 rfl rfl rfl ?_
    refine V_getI (q := 134) fl_X11_115 rfl rfl rfl dX11_readCellar_131 rfl ?_
    exact V_iret rfl h dX11_readCellar_134
  · have h := ifT hc22 h
    refine V_aload_n (q := 105) dX11_readCellar_104 rfl rfl rfl ?_
    obtain ⟨v23, μ24, hc25, h⟩ := bd_i h
    refine V_cV1 (q := 108) (v := vI v23) (kX11_look (d - 1) (by omega) hc25) (by omega) mv_X11_127 rfl rfl rfl rfl rfl rfl dX11_readCellar_105 rfl ?_
    refine V_iconst (q := 109) dX11_readCellar_108 rfl rfl ?_
    refine V_icmpne (q := 126) (q2 := 112) dX11_readCellar_109 (by decide) rfl (fun hc26 => ?_) (fun hc26 => ?_)
    · have h := ifF hc26 h
      refine V_aload_n (q := 127) dX11_readCellar_126 rfl rfl rfl ?_
      obtain ⟨v27, μ28, hc29, h⟩ := bd_i h
      refine V_cV0 (q := 130) (kX11_bad (d - 1) (by omega) hc29) (by omega) mv_X11_124 rfl rfl rfl rfl rfl rfl dX11_readCellar_127 rfl ?_
      refine V_aload_n (q := 131) dX11_readCellar_130 rfl rfl rfl ?_
      refine V_getI (q := 134) fl_X11_115 rfl rfl rfl dX11_readCellar_131 rfl ?_
      exact V_iret rfl h dX11_readCellar_134
    · have h := ifT hc26 h
      refine V_aload_n (q := 113) dX11_readCellar_112 rfl rfl rfl ?_
      refine V_getI (q := 116) fl_X11_220 rfl rfl rfl dX11_readCellar_113 rfl ?_
      refine V_ifeq (q := 126) (q2 := 119) dX11_readCellar_116 (by decide) rfl (fun hc30 => ?_) (fun hc30 => ?_)
      · have h := ifT hc30 h
        refine V_aload_n (q := 127) dX11_readCellar_126 rfl rfl rfl ?_
        obtain ⟨v31, μ32, hc33, h⟩ := bd_i h
        refine V_cV0 (q := 130) (kX11_bad (d - 1) (by omega) hc33) (by omega) mv_X11_124 rfl rfl rfl rfl rfl rfl dX11_readCellar_127 rfl ?_
        refine V_aload_n (q := 131) dX11_readCellar_130 rfl rfl rfl ?_
        refine V_getI (q := 134) fl_X11_115 rfl rfl rfl dX11_readCellar_131 rfl ?_
        exact V_iret rfl h dX11_readCellar_134
      · have h := ifF hc30 h
        refine V_aload_n (q := 120) dX11_readCellar_119 rfl rfl rfl ?_
        refine V_getI (q := 123) fl_X11_224 rfl rfl rfl dX11_readCellar_120 rfl ?_
        refine V_ifne (q := 130) (q2 := 126) dX11_readCellar_123 (by decide) rfl (fun hc34 => ?_) (fun hc34 => ?_)
        · have h := ifF hc34 h
          refine V_aload_n (q := 131) dX11_readCellar_130 rfl rfl rfl ?_
          refine V_getI (q := 134) fl_X11_115 rfl rfl rfl dX11_readCellar_131 rfl ?_
          exact V_iret rfl h dX11_readCellar_134
        · have h := ifT hc34 h
          refine V_aload_n (q := 127) dX11_readCellar_126 rfl rfl rfl ?_
          obtain ⟨v35, μ36, hc37, h⟩ := bd_i h
          refine V_cV0 (q := 130) (kX11_bad (d - 1) (by omega) hc37) (by omega) mv_X11_124 rfl rfl rfl rfl rfl rfl dX11_readCellar_127 rfl ?_
          refine V_aload_n (q := 131) dX11_readCellar_130 rfl rfl rfl ?_
          refine V_getI (q := 134) fl_X11_115 rfl rfl rfl dX11_readCellar_131 rfl ?_
          exact V_iret rfl h dX11_readCellar_134
set_option maxHeartbeats 4000000 in
set_option maxRecDepth 100000 in
theorem kX11_readCellar (d : Nat) (hd : 4 ≤ d) {μ : Mm} {r : Int} {μ' : Mm} (h : X11_readCellar μ = some (r, μ')) : CC d mX11_readCellar [vR 70] μ r μ' := by
  unfold X11_readCellar at h
  refine V_enter (by decide) (Nat.le_of_ble_eq_true rfl) ?_
  show VV d mX11_readCellar 0 [some (vR 70), none] [] μ r μ'
  refine V_aload_n (q := 1) dX11_readCellar_0 rfl rfl rfl ?_
  refine V_iconst (q := 2) dX11_readCellar_1 rfl rfl ?_
  have h := sF_i h
  refine V_putI (q := 5) fl_X11_108 rfl rfl rfl dX11_readCellar_2 rfl ?_
  refine V_aload_n (q := 6) dX11_readCellar_5 rfl rfl rfl ?_
  refine V_iconst (q := 7) dX11_readCellar_6 rfl rfl ?_
  have h := sF_i h
  refine V_putI (q := 10) fl_X11_115 rfl rfl rfl dX11_readCellar_7 rfl ?_
  refine V_aload_n (q := 11) dX11_readCellar_10 rfl rfl rfl ?_
  refine V_iconst (q := 12) dX11_readCellar_11 rfl rfl ?_
  have h := sF_i h
  refine V_putI (q := 15) fl_X11_231 rfl rfl rfl dX11_readCellar_12 rfl ?_
  refine V_aload_n (q := 16) dX11_readCellar_15 rfl rfl rfl ?_
  refine V_iconst (q := 17) dX11_readCellar_16 rfl rfl ?_
  have h := sF_i h
  refine V_putI (q := 20) fl_X11_224 rfl rfl rfl dX11_readCellar_17 rfl ?_
  refine V_aload_n (q := 21) dX11_readCellar_20 rfl rfl rfl ?_
  refine V_iconst (q := 22) dX11_readCellar_21 rfl rfl ?_
  obtain ⟨hz6, h⟩ := sZ_i h
  refine V_putZ (q := 25) fl_X11_220 rfl rfl rfl hz6 dX11_readCellar_22 rfl ?_
  refine V_iconst (q := 26) dX11_readCellar_25 rfl rfl ?_
  refine V_istore_n (q := 27) dX11_readCellar_26 rfl (Nat.le_of_ble_eq_true rfl) trivial rfl ?_
  refine V_weak (kX11_readCellar_L27 d hd (fun μ21 h => ?_) FU h) (sb_s rfl (sb_s rfl sb_0))
  exact V_weak (kX11_readCellar_J96 d hd h) (sb_s rfl (sb_n sb_0))
abbrev mX11_cueText : Mth := (yX11_cueText, cX11_cueText, 5, none)
set_option maxRecDepth 100000 in
theorem mi_X11_cueText : Cond.instanceMethod yX11_cueText ∈ tG ∧ Cond.selects yX11_cueText.cls yX11_cueText yX11_cueText ∈ tG ∧ Cond.initialized yX11_cueText.cls ∈ tG ∧ Cond.code yX11_cueText cX11_cueText 5 (none) ∈ tG ∧ (yX11_cueText.cls ≠ "java/lang/invoke/MethodHandle" ∧ yX11_cueText.cls ≠ "java/lang/invoke/VarHandle" ∧ (parseMethodDescriptor yX11_cueText.desc).map (fun d => d.parameters.length) = some 1) ∧ 5 ≤ 60 := ⟨(tG_of (tb6 (List.mem_of_getElem? (i := 81) rfl)) (by decide +kernel)), (tG_of (List.mem_of_getElem? (i := 53) (by decide +kernel)) (by decide +kernel)), (tG_of (tb1 (List.mem_of_getElem? (i := 12) rfl)) (by decide +kernel)), (tG_of (tb6 (List.mem_of_getElem? (i := 82) rfl)) (by decide +kernel)), ⟨by decide, by decide, by decide +kernel⟩, by decide⟩
set_option maxRecDepth 100000 in
theorem mv_X11_240 : mV RX11 240 mX11_cueText 1 := ⟨(tG_of (tb6 (List.mem_of_getElem? (i := 79) rfl)) (by decide +kernel)), mi_X11_cueText⟩
theorem dX11_cueText_0 : decode cX11_cueText 0 = .ok (.bipush 8, 2) := dc_16 (byA eNcX11_cueText (p := 0) (v := 16) (by decide +kernel)) (byA eNcX11_cueText (p := 1) (v := 8) (by decide +kernel)) (by decide +kernel)
theorem dX11_cueText_2 : decode cX11_cueText 2 = .ok (.iload_n 1, 1) := dc_27 (byA eNcX11_cueText (p := 2) (v := 27) (by decide +kernel))
theorem dX11_cueText_3 : decode cX11_cueText 3 = .ok (.imul, 1) := dc_104 (byA eNcX11_cueText (p := 3) (v := 104) (by decide +kernel))
theorem dX11_cueText_4 : decode cX11_cueText 4 = .ok (.aload_n 0, 1) := dc_42 (byA eNcX11_cueText (p := 4) (v := 42) (by decide +kernel))
theorem dX11_cueText_5 : decode cX11_cueText 5 = .ok (.getfield 52, 3) := dc_180 (byA eNcX11_cueText (p := 5) (v := 180) (by decide +kernel)) (byA eNcX11_cueText (p := 6) (v := 0) (by decide +kernel)) (byA eNcX11_cueText (p := 7) (v := 52) (by decide +kernel)) rfl
theorem dX11_cueText_8 : decode cX11_cueText 8 = .ok (.iload_n 1, 1) := dc_27 (byA eNcX11_cueText (p := 8) (v := 27) (by decide +kernel))
theorem dX11_cueText_9 : decode cX11_cueText 9 = .ok (.iaload, 1) := dc_46 (byA eNcX11_cueText (p := 9) (v := 46) (by decide +kernel))
theorem dX11_cueText_10 : decode cX11_cueText 10 = .ok (.iadd, 1) := dc_96 (byA eNcX11_cueText (p := 10) (v := 96) (by decide +kernel))
theorem dX11_cueText_11 : decode cX11_cueText 11 = .ok (.istore_n 2, 1) := dc_61 (byA eNcX11_cueText (p := 11) (v := 61) (by decide +kernel))
theorem dX11_cueText_12 : decode cX11_cueText 12 = .ok (.aload_n 0, 1) := dc_42 (byA eNcX11_cueText (p := 12) (v := 42) (by decide +kernel))
theorem dX11_cueText_13 : decode cX11_cueText 13 = .ok (.getfield 46, 3) := dc_180 (byA eNcX11_cueText (p := 13) (v := 180) (by decide +kernel)) (byA eNcX11_cueText (p := 14) (v := 0) (by decide +kernel)) (byA eNcX11_cueText (p := 15) (v := 46) (by decide +kernel)) rfl
theorem dX11_cueText_16 : decode cX11_cueText 16 = .ok (.iload_n 2, 1) := dc_28 (byA eNcX11_cueText (p := 16) (v := 28) (by decide +kernel))
theorem dX11_cueText_17 : decode cX11_cueText 17 = .ok (.aload_n 0, 1) := dc_42 (byA eNcX11_cueText (p := 17) (v := 42) (by decide +kernel))
theorem dX11_cueText_18 : decode cX11_cueText 18 = .ok (.invokevirtual 127, 3) := dc_182 (byA eNcX11_cueText (p := 18) (v := 182) (by decide +kernel)) (byA eNcX11_cueText (p := 19) (v := 0) (by decide +kernel)) (byA eNcX11_cueText (p := 20) (v := 127) (by decide +kernel)) rfl
theorem dX11_cueText_21 : decode cX11_cueText 21 = .ok (.bipush 65, 2) := dc_16 (byA eNcX11_cueText (p := 21) (v := 16) (by decide +kernel)) (byA eNcX11_cueText (p := 22) (v := 65) (by decide +kernel)) (by decide +kernel)
theorem dX11_cueText_23 : decode cX11_cueText 23 = .ok (.isub, 1) := dc_100 (byA eNcX11_cueText (p := 23) (v := 100) (by decide +kernel))
theorem dX11_cueText_24 : decode cX11_cueText 24 = .ok (.iastore, 1) := dc_79 (byA eNcX11_cueText (p := 24) (v := 79) (by decide +kernel))
theorem dX11_cueText_25 : decode cX11_cueText 25 = .ok (.aload_n 0, 1) := dc_42 (byA eNcX11_cueText (p := 25) (v := 42) (by decide +kernel))
theorem dX11_cueText_26 : decode cX11_cueText 26 = .ok (.getfield 46, 3) := dc_180 (byA eNcX11_cueText (p := 26) (v := 180) (by decide +kernel)) (byA eNcX11_cueText (p := 27) (v := 0) (by decide +kernel)) (byA eNcX11_cueText (p := 28) (v := 46) (by decide +kernel)) rfl
theorem dX11_cueText_29 : decode cX11_cueText 29 = .ok (.iload_n 2, 1) := dc_28 (byA eNcX11_cueText (p := 29) (v := 28) (by decide +kernel))
theorem dX11_cueText_30 : decode cX11_cueText 30 = .ok (.iaload, 1) := dc_46 (byA eNcX11_cueText (p := 30) (v := 46) (by decide +kernel))
theorem dX11_cueText_31 : decode cX11_cueText 31 = .ok (.iconst 0, 1) := dc_3 (byA eNcX11_cueText (p := 31) (v := 3) (by decide +kernel))
theorem dX11_cueText_32 : decode cX11_cueText 32 = .ok (.bipush 7, 2) := dc_16 (byA eNcX11_cueText (p := 32) (v := 16) (by decide +kernel)) (byA eNcX11_cueText (p := 33) (v := 7) (by decide +kernel)) (by decide +kernel)
theorem dX11_cueText_34 : decode cX11_cueText 34 = .ok (.invokestatic 213, 3) := dc_184 (byA eNcX11_cueText (p := 34) (v := 184) (by decide +kernel)) (byA eNcX11_cueText (p := 35) (v := 0) (by decide +kernel)) (byA eNcX11_cueText (p := 36) (v := 213) (by decide +kernel)) rfl
theorem dX11_cueText_37 : decode cX11_cueText 37 = .ok (.ifCond .ne 8, 3) := dc_154 (byA eNcX11_cueText (p := 37) (v := 154) (by decide +kernel)) (byA eNcX11_cueText (p := 38) (v := 0) (by decide +kernel)) (byA eNcX11_cueText (p := 39) (v := 8) (by decide +kernel)) (by decide +kernel)
theorem dX11_cueText_40 : decode cX11_cueText 40 = .ok (.aload_n 0, 1) := dc_42 (byA eNcX11_cueText (p := 40) (v := 42) (by decide +kernel))
theorem dX11_cueText_41 : decode cX11_cueText 41 = .ok (.invokevirtual 124, 3) := dc_182 (byA eNcX11_cueText (p := 41) (v := 182) (by decide +kernel)) (byA eNcX11_cueText (p := 42) (v := 0) (by decide +kernel)) (byA eNcX11_cueText (p := 43) (v := 124) (by decide +kernel)) rfl
theorem dX11_cueText_44 : decode cX11_cueText 44 = .ok (.return_, 1) := dc_177 (byA eNcX11_cueText (p := 44) (v := 177) (by decide +kernel))
theorem dX11_cueText_45 : decode cX11_cueText 45 = .ok (.aload_n 0, 1) := dc_42 (byA eNcX11_cueText (p := 45) (v := 42) (by decide +kernel))
theorem dX11_cueText_46 : decode cX11_cueText 46 = .ok (.dup, 1) := dc_89 (byA eNcX11_cueText (p := 46) (v := 89) (by decide +kernel))
theorem dX11_cueText_47 : decode cX11_cueText 47 = .ok (.getfield 108, 3) := dc_180 (byA eNcX11_cueText (p := 47) (v := 180) (by decide +kernel)) (byA eNcX11_cueText (p := 48) (v := 0) (by decide +kernel)) (byA eNcX11_cueText (p := 49) (v := 108) (by decide +kernel)) rfl
theorem dX11_cueText_50 : decode cX11_cueText 50 = .ok (.iconst 1, 1) := dc_4 (byA eNcX11_cueText (p := 50) (v := 4) (by decide +kernel))
theorem dX11_cueText_51 : decode cX11_cueText 51 = .ok (.iadd, 1) := dc_96 (byA eNcX11_cueText (p := 51) (v := 96) (by decide +kernel))
theorem dX11_cueText_52 : decode cX11_cueText 52 = .ok (.putfield 108, 3) := dc_181 (byA eNcX11_cueText (p := 52) (v := 181) (by decide +kernel)) (byA eNcX11_cueText (p := 53) (v := 0) (by decide +kernel)) (byA eNcX11_cueText (p := 54) (v := 108) (by decide +kernel)) rfl
theorem dX11_cueText_55 : decode cX11_cueText 55 = .ok (.aload_n 0, 1) := dc_42 (byA eNcX11_cueText (p := 55) (v := 42) (by decide +kernel))
theorem dX11_cueText_56 : decode cX11_cueText 56 = .ok (.invokevirtual 127, 3) := dc_182 (byA eNcX11_cueText (p := 56) (v := 182) (by decide +kernel)) (byA eNcX11_cueText (p := 57) (v := 0) (by decide +kernel)) (byA eNcX11_cueText (p := 58) (v := 127) (by decide +kernel)) rfl
theorem dX11_cueText_59 : decode cX11_cueText 59 = .ok (.invokestatic 130, 3) := dc_184 (byA eNcX11_cueText (p := 59) (v := 184) (by decide +kernel)) (byA eNcX11_cueText (p := 60) (v := 0) (by decide +kernel)) (byA eNcX11_cueText (p := 61) (v := 130) (by decide +kernel)) rfl
theorem dX11_cueText_62 : decode cX11_cueText 62 = .ok (.ifCond .ne 8, 3) := dc_154 (byA eNcX11_cueText (p := 62) (v := 154) (by decide +kernel)) (byA eNcX11_cueText (p := 63) (v := 0) (by decide +kernel)) (byA eNcX11_cueText (p := 64) (v := 8) (by decide +kernel)) (by decide +kernel)
theorem dX11_cueText_65 : decode cX11_cueText 65 = .ok (.aload_n 0, 1) := dc_42 (byA eNcX11_cueText (p := 65) (v := 42) (by decide +kernel))
theorem dX11_cueText_66 : decode cX11_cueText 66 = .ok (.invokevirtual 124, 3) := dc_182 (byA eNcX11_cueText (p := 66) (v := 182) (by decide +kernel)) (byA eNcX11_cueText (p := 67) (v := 0) (by decide +kernel)) (byA eNcX11_cueText (p := 68) (v := 124) (by decide +kernel)) rfl
theorem dX11_cueText_69 : decode cX11_cueText 69 = .ok (.return_, 1) := dc_177 (byA eNcX11_cueText (p := 69) (v := 177) (by decide +kernel))
theorem dX11_cueText_70 : decode cX11_cueText 70 = .ok (.iconst 0, 1) := dc_3 (byA eNcX11_cueText (p := 70) (v := 3) (by decide +kernel))
theorem dX11_cueText_71 : decode cX11_cueText 71 = .ok (.istore_n 3, 1) := dc_62 (byA eNcX11_cueText (p := 71) (v := 62) (by decide +kernel))
theorem dX11_cueText_72 : decode cX11_cueText 72 = .ok (.iconst 0, 1) := dc_3 (byA eNcX11_cueText (p := 72) (v := 3) (by decide +kernel))
theorem dX11_cueText_73 : decode cX11_cueText 73 = .ok (.istore 4, 2) := dc_54 (byA eNcX11_cueText (p := 73) (v := 54) (by decide +kernel)) (byA eNcX11_cueText (p := 74) (v := 4) (by decide +kernel))
theorem dX11_cueText_75 : decode cX11_cueText 75 = .ok (.iload 4, 2) := dc_21 (byA eNcX11_cueText (p := 75) (v := 21) (by decide +kernel)) (byA eNcX11_cueText (p := 76) (v := 4) (by decide +kernel))
theorem dX11_cueText_77 : decode cX11_cueText 77 = .ok (.iconst 3, 1) := dc_6 (byA eNcX11_cueText (p := 77) (v := 6) (by decide +kernel))
theorem dX11_cueText_78 : decode cX11_cueText 78 = .ok (.if_icmp .ge 42, 3) := dc_162 (byA eNcX11_cueText (p := 78) (v := 162) (by decide +kernel)) (byA eNcX11_cueText (p := 79) (v := 0) (by decide +kernel)) (byA eNcX11_cueText (p := 80) (v := 42) (by decide +kernel)) (by decide +kernel)
theorem dX11_cueText_81 : decode cX11_cueText 81 = .ok (.aload_n 0, 1) := dc_42 (byA eNcX11_cueText (p := 81) (v := 42) (by decide +kernel))
theorem dX11_cueText_82 : decode cX11_cueText 82 = .ok (.invokevirtual 111, 3) := dc_182 (byA eNcX11_cueText (p := 82) (v := 182) (by decide +kernel)) (byA eNcX11_cueText (p := 83) (v := 0) (by decide +kernel)) (byA eNcX11_cueText (p := 84) (v := 111) (by decide +kernel)) rfl
theorem dX11_cueText_85 : decode cX11_cueText 85 = .ok (.invokestatic 130, 3) := dc_184 (byA eNcX11_cueText (p := 85) (v := 184) (by decide +kernel)) (byA eNcX11_cueText (p := 86) (v := 0) (by decide +kernel)) (byA eNcX11_cueText (p := 87) (v := 130) (by decide +kernel)) rfl
theorem dX11_cueText_88 : decode cX11_cueText 88 = .ok (.ifCond .eq 32, 3) := dc_153 (byA eNcX11_cueText (p := 88) (v := 153) (by decide +kernel)) (byA eNcX11_cueText (p := 89) (v := 0) (by decide +kernel)) (byA eNcX11_cueText (p := 90) (v := 32) (by decide +kernel)) (by decide +kernel)
theorem dX11_cueText_91 : decode cX11_cueText 91 = .ok (.bipush 10, 2) := dc_16 (byA eNcX11_cueText (p := 91) (v := 16) (by decide +kernel)) (byA eNcX11_cueText (p := 92) (v := 10) (by decide +kernel)) (by decide +kernel)
theorem dX11_cueText_93 : decode cX11_cueText 93 = .ok (.iload_n 3, 1) := dc_29 (byA eNcX11_cueText (p := 93) (v := 29) (by decide +kernel))
theorem dX11_cueText_94 : decode cX11_cueText 94 = .ok (.imul, 1) := dc_104 (byA eNcX11_cueText (p := 94) (v := 104) (by decide +kernel))
theorem dX11_cueText_95 : decode cX11_cueText 95 = .ok (.aload_n 0, 1) := dc_42 (byA eNcX11_cueText (p := 95) (v := 42) (by decide +kernel))
theorem dX11_cueText_96 : decode cX11_cueText 96 = .ok (.invokevirtual 111, 3) := dc_182 (byA eNcX11_cueText (p := 96) (v := 182) (by decide +kernel)) (byA eNcX11_cueText (p := 97) (v := 0) (by decide +kernel)) (byA eNcX11_cueText (p := 98) (v := 111) (by decide +kernel)) rfl
theorem dX11_cueText_99 : decode cX11_cueText 99 = .ok (.iadd, 1) := dc_96 (byA eNcX11_cueText (p := 99) (v := 96) (by decide +kernel))
theorem dX11_cueText_100 : decode cX11_cueText 100 = .ok (.bipush 48, 2) := dc_16 (byA eNcX11_cueText (p := 100) (v := 16) (by decide +kernel)) (byA eNcX11_cueText (p := 101) (v := 48) (by decide +kernel)) (by decide +kernel)
theorem dX11_cueText_102 : decode cX11_cueText 102 = .ok (.isub, 1) := dc_100 (byA eNcX11_cueText (p := 102) (v := 100) (by decide +kernel))
theorem dX11_cueText_103 : decode cX11_cueText 103 = .ok (.istore_n 3, 1) := dc_62 (byA eNcX11_cueText (p := 103) (v := 62) (by decide +kernel))
theorem dX11_cueText_104 : decode cX11_cueText 104 = .ok (.aload_n 0, 1) := dc_42 (byA eNcX11_cueText (p := 104) (v := 42) (by decide +kernel))
theorem dX11_cueText_105 : decode cX11_cueText 105 = .ok (.dup, 1) := dc_89 (byA eNcX11_cueText (p := 105) (v := 89) (by decide +kernel))
theorem dX11_cueText_106 : decode cX11_cueText 106 = .ok (.getfield 108, 3) := dc_180 (byA eNcX11_cueText (p := 106) (v := 180) (by decide +kernel)) (byA eNcX11_cueText (p := 107) (v := 0) (by decide +kernel)) (byA eNcX11_cueText (p := 108) (v := 108) (by decide +kernel)) rfl
theorem dX11_cueText_109 : decode cX11_cueText 109 = .ok (.iconst 1, 1) := dc_4 (byA eNcX11_cueText (p := 109) (v := 4) (by decide +kernel))
theorem dX11_cueText_110 : decode cX11_cueText 110 = .ok (.iadd, 1) := dc_96 (byA eNcX11_cueText (p := 110) (v := 96) (by decide +kernel))
theorem dX11_cueText_111 : decode cX11_cueText 111 = .ok (.putfield 108, 3) := dc_181 (byA eNcX11_cueText (p := 111) (v := 181) (by decide +kernel)) (byA eNcX11_cueText (p := 112) (v := 0) (by decide +kernel)) (byA eNcX11_cueText (p := 113) (v := 108) (by decide +kernel)) rfl
theorem dX11_cueText_114 : decode cX11_cueText 114 = .ok (.iinc 4 1, 3) := dc_132 (byA eNcX11_cueText (p := 114) (v := 132) (by decide +kernel)) (byA eNcX11_cueText (p := 115) (v := 4) (by decide +kernel)) (byA eNcX11_cueText (p := 116) (v := 1) (by decide +kernel)) (by decide +kernel)
theorem dX11_cueText_117 : decode cX11_cueText 117 = .ok (.goto (-42), 3) := dc_167 (byA eNcX11_cueText (p := 117) (v := 167) (by decide +kernel)) (byA eNcX11_cueText (p := 118) (v := 255) (by decide +kernel)) (byA eNcX11_cueText (p := 119) (v := 214) (by decide +kernel)) (by decide +kernel)
theorem dX11_cueText_120 : decode cX11_cueText 120 = .ok (.aload_n 0, 1) := dc_42 (byA eNcX11_cueText (p := 120) (v := 42) (by decide +kernel))
theorem dX11_cueText_121 : decode cX11_cueText 121 = .ok (.getfield 49, 3) := dc_180 (byA eNcX11_cueText (p := 121) (v := 180) (by decide +kernel)) (byA eNcX11_cueText (p := 122) (v := 0) (by decide +kernel)) (byA eNcX11_cueText (p := 123) (v := 49) (by decide +kernel)) rfl
theorem dX11_cueText_124 : decode cX11_cueText 124 = .ok (.iload_n 2, 1) := dc_28 (byA eNcX11_cueText (p := 124) (v := 28) (by decide +kernel))
theorem dX11_cueText_125 : decode cX11_cueText 125 = .ok (.iload_n 3, 1) := dc_29 (byA eNcX11_cueText (p := 125) (v := 29) (by decide +kernel))
theorem dX11_cueText_126 : decode cX11_cueText 126 = .ok (.iastore, 1) := dc_79 (byA eNcX11_cueText (p := 126) (v := 79) (by decide +kernel))
theorem dX11_cueText_127 : decode cX11_cueText 127 = .ok (.aload_n 0, 1) := dc_42 (byA eNcX11_cueText (p := 127) (v := 42) (by decide +kernel))
theorem dX11_cueText_128 : decode cX11_cueText 128 = .ok (.invokevirtual 111, 3) := dc_182 (byA eNcX11_cueText (p := 128) (v := 182) (by decide +kernel)) (byA eNcX11_cueText (p := 129) (v := 0) (by decide +kernel)) (byA eNcX11_cueText (p := 130) (v := 111) (by decide +kernel)) rfl
theorem dX11_cueText_131 : decode cX11_cueText 131 = .ok (.invokestatic 130, 3) := dc_184 (byA eNcX11_cueText (p := 131) (v := 184) (by decide +kernel)) (byA eNcX11_cueText (p := 132) (v := 0) (by decide +kernel)) (byA eNcX11_cueText (p := 133) (v := 130) (by decide +kernel)) rfl
theorem dX11_cueText_134 : decode cX11_cueText 134 = .ok (.ifCond .eq 10, 3) := dc_153 (byA eNcX11_cueText (p := 134) (v := 153) (by decide +kernel)) (byA eNcX11_cueText (p := 135) (v := 0) (by decide +kernel)) (byA eNcX11_cueText (p := 136) (v := 10) (by decide +kernel)) (by decide +kernel)
theorem dX11_cueText_137 : decode cX11_cueText 137 = .ok (.aload_n 0, 1) := dc_42 (byA eNcX11_cueText (p := 137) (v := 42) (by decide +kernel))
theorem dX11_cueText_138 : decode cX11_cueText 138 = .ok (.invokevirtual 124, 3) := dc_182 (byA eNcX11_cueText (p := 138) (v := 182) (by decide +kernel)) (byA eNcX11_cueText (p := 139) (v := 0) (by decide +kernel)) (byA eNcX11_cueText (p := 140) (v := 124) (by decide +kernel)) rfl
theorem dX11_cueText_141 : decode cX11_cueText 141 = .ok (.goto 38, 3) := dc_167 (byA eNcX11_cueText (p := 141) (v := 167) (by decide +kernel)) (byA eNcX11_cueText (p := 142) (v := 0) (by decide +kernel)) (byA eNcX11_cueText (p := 143) (v := 38) (by decide +kernel)) (by decide +kernel)
theorem dX11_cueText_144 : decode cX11_cueText 144 = .ok (.aload_n 0, 1) := dc_42 (byA eNcX11_cueText (p := 144) (v := 42) (by decide +kernel))
theorem dX11_cueText_145 : decode cX11_cueText 145 = .ok (.getfield 52, 3) := dc_180 (byA eNcX11_cueText (p := 145) (v := 180) (by decide +kernel)) (byA eNcX11_cueText (p := 146) (v := 0) (by decide +kernel)) (byA eNcX11_cueText (p := 147) (v := 52) (by decide +kernel)) rfl
theorem dX11_cueText_148 : decode cX11_cueText 148 = .ok (.iload_n 1, 1) := dc_27 (byA eNcX11_cueText (p := 148) (v := 27) (by decide +kernel))
theorem dX11_cueText_149 : decode cX11_cueText 149 = .ok (.iaload, 1) := dc_46 (byA eNcX11_cueText (p := 149) (v := 46) (by decide +kernel))
theorem dX11_cueText_150 : decode cX11_cueText 150 = .ok (.ifCond .le 29, 3) := dc_158 (byA eNcX11_cueText (p := 150) (v := 158) (by decide +kernel)) (byA eNcX11_cueText (p := 151) (v := 0) (by decide +kernel)) (byA eNcX11_cueText (p := 152) (v := 29) (by decide +kernel)) (by decide +kernel)
theorem dX11_cueText_153 : decode cX11_cueText 153 = .ok (.iload_n 3, 1) := dc_29 (byA eNcX11_cueText (p := 153) (v := 29) (by decide +kernel))
theorem dX11_cueText_154 : decode cX11_cueText 154 = .ok (.aload_n 0, 1) := dc_42 (byA eNcX11_cueText (p := 154) (v := 42) (by decide +kernel))
theorem dX11_cueText_155 : decode cX11_cueText 155 = .ok (.getfield 49, 3) := dc_180 (byA eNcX11_cueText (p := 155) (v := 180) (by decide +kernel)) (byA eNcX11_cueText (p := 156) (v := 0) (by decide +kernel)) (byA eNcX11_cueText (p := 157) (v := 49) (by decide +kernel)) rfl
theorem dX11_cueText_158 : decode cX11_cueText 158 = .ok (.iload_n 2, 1) := dc_28 (byA eNcX11_cueText (p := 158) (v := 28) (by decide +kernel))
theorem dX11_cueText_159 : decode cX11_cueText 159 = .ok (.iconst 1, 1) := dc_4 (byA eNcX11_cueText (p := 159) (v := 4) (by decide +kernel))
theorem dX11_cueText_160 : decode cX11_cueText 160 = .ok (.isub, 1) := dc_100 (byA eNcX11_cueText (p := 160) (v := 100) (by decide +kernel))
theorem dX11_cueText_161 : decode cX11_cueText 161 = .ok (.iaload, 1) := dc_46 (byA eNcX11_cueText (p := 161) (v := 46) (by decide +kernel))
theorem dX11_cueText_162 : decode cX11_cueText 162 = .ok (.if_icmp .ge 17, 3) := dc_162 (byA eNcX11_cueText (p := 162) (v := 162) (by decide +kernel)) (byA eNcX11_cueText (p := 163) (v := 0) (by decide +kernel)) (byA eNcX11_cueText (p := 164) (v := 17) (by decide +kernel)) (by decide +kernel)
theorem dX11_cueText_165 : decode cX11_cueText 165 = .ok (.aload_n 0, 1) := dc_42 (byA eNcX11_cueText (p := 165) (v := 42) (by decide +kernel))
theorem dX11_cueText_166 : decode cX11_cueText 166 = .ok (.dup, 1) := dc_89 (byA eNcX11_cueText (p := 166) (v := 89) (by decide +kernel))
theorem dX11_cueText_167 : decode cX11_cueText 167 = .ok (.getfield 108, 3) := dc_180 (byA eNcX11_cueText (p := 167) (v := 180) (by decide +kernel)) (byA eNcX11_cueText (p := 168) (v := 0) (by decide +kernel)) (byA eNcX11_cueText (p := 169) (v := 108) (by decide +kernel)) rfl
theorem dX11_cueText_170 : decode cX11_cueText 170 = .ok (.iconst 1, 1) := dc_4 (byA eNcX11_cueText (p := 170) (v := 4) (by decide +kernel))
theorem dX11_cueText_171 : decode cX11_cueText 171 = .ok (.isub, 1) := dc_100 (byA eNcX11_cueText (p := 171) (v := 100) (by decide +kernel))
theorem dX11_cueText_172 : decode cX11_cueText 172 = .ok (.putfield 108, 3) := dc_181 (byA eNcX11_cueText (p := 172) (v := 181) (by decide +kernel)) (byA eNcX11_cueText (p := 173) (v := 0) (by decide +kernel)) (byA eNcX11_cueText (p := 174) (v := 108) (by decide +kernel)) rfl
theorem dX11_cueText_175 : decode cX11_cueText 175 = .ok (.aload_n 0, 1) := dc_42 (byA eNcX11_cueText (p := 175) (v := 42) (by decide +kernel))
theorem dX11_cueText_176 : decode cX11_cueText 176 = .ok (.invokevirtual 124, 3) := dc_182 (byA eNcX11_cueText (p := 176) (v := 182) (by decide +kernel)) (byA eNcX11_cueText (p := 177) (v := 0) (by decide +kernel)) (byA eNcX11_cueText (p := 178) (v := 124) (by decide +kernel)) rfl
theorem dX11_cueText_179 : decode cX11_cueText 179 = .ok (.aload_n 0, 1) := dc_42 (byA eNcX11_cueText (p := 179) (v := 42) (by decide +kernel))
theorem dX11_cueText_180 : decode cX11_cueText 180 = .ok (.getfield 52, 3) := dc_180 (byA eNcX11_cueText (p := 180) (v := 180) (by decide +kernel)) (byA eNcX11_cueText (p := 181) (v := 0) (by decide +kernel)) (byA eNcX11_cueText (p := 182) (v := 52) (by decide +kernel)) rfl
theorem dX11_cueText_183 : decode cX11_cueText 183 = .ok (.iload_n 1, 1) := dc_27 (byA eNcX11_cueText (p := 183) (v := 27) (by decide +kernel))
theorem dX11_cueText_184 : decode cX11_cueText 184 = .ok (.dup2, 1) := dc_92 (byA eNcX11_cueText (p := 184) (v := 92) (by decide +kernel))
theorem dX11_cueText_185 : decode cX11_cueText 185 = .ok (.iaload, 1) := dc_46 (byA eNcX11_cueText (p := 185) (v := 46) (by decide +kernel))
theorem dX11_cueText_186 : decode cX11_cueText 186 = .ok (.iconst 1, 1) := dc_4 (byA eNcX11_cueText (p := 186) (v := 4) (by decide +kernel))
theorem dX11_cueText_187 : decode cX11_cueText 187 = .ok (.iadd, 1) := dc_96 (byA eNcX11_cueText (p := 187) (v := 96) (by decide +kernel))
theorem dX11_cueText_188 : decode cX11_cueText 188 = .ok (.iastore, 1) := dc_79 (byA eNcX11_cueText (p := 188) (v := 79) (by decide +kernel))
theorem dX11_cueText_189 : decode cX11_cueText 189 = .ok (.return_, 1) := dc_177 (byA eNcX11_cueText (p := 189) (v := 177) (by decide +kernel))
def X11_cueText_L75 (l1 : Int) (l2 : Int) (k120 : Int → Mm → Rs) : Nat → Int → Int → Mm → Rs
  | 0, _, _, _ => none
  | n + 1, l3, l4, μ => if 3 ≤ l4 then (k120 l3 μ) else (bd (X11_here μ) fun v24 μ25 => bd (X11_isDigit v24 μ25) fun v27 μ28 => if v27 = 0 then (k120 l3 μ28) else (bd (X11_here μ28) fun v31 μ32 => lt_ (iS (iA (iM 10 l3) v31) 48) fun v34 => sF μ32 70 3 (iA (μ32 70 3) 1) fun μ35 => X11_cueText_L75 l1 l2 k120 n v34 (iA l4 1) μ35))
def X11_cueText_J179 (l1 : Int) (μ : Mm) : Rs := ldA μ 85 l1 fun v50 => stA μ 85 l1 (iA v50 1) fun μ52 => some (0, μ52)
def X11_cueText_J120 (l1 : Int) (l2 : Int) (l3 : Int) (μ : Mm) : Rs := stA μ 84 l2 l3 fun μ38 => bd (X11_here μ38) fun v40 μ41 => bd (X11_isDigit v40 μ41) fun v43 μ44 => if v43 = 0 then (ldA μ44 85 l1 fun v47 => if v47 ≤ 0 then (X11_cueText_J179 l1 μ44) else (ldA μ44 84 (iS l2 1) fun v54 => if v54 ≤ l3 then (X11_cueText_J179 l1 μ44) else (sF μ44 70 3 (iS (μ44 70 3) 1) fun μ57 => bd (X11_bad μ57) fun v58 μ59 => X11_cueText_J179 l1 μ59))) else (bd (X11_bad μ44) fun v61 μ62 => X11_cueText_J179 l1 μ62)
def X11_cueText (l1 : Int) (μ : Mm) : Rs := ldA μ 85 l1 fun v1 => lt_ (iA (iM 8 l1) v1) fun v3 => bd (X11_look μ) fun v4 μ5 => stA μ5 83 v3 (iS v4 65) fun μ7 => ldA μ7 83 v3 fun v9 => bd (X11_in v9 0 7 μ7) fun v11 μ12 => if v11 = 0 then (bd (X11_bad μ12) fun v67 μ68 => some (0, μ68)) else (sF μ12 70 3 (iA (μ12 70 3) 1) fun μ15 => bd (X11_look μ15) fun v16 μ17 => bd (X11_isDigit v16 μ17) fun v19 μ20 => if v19 = 0 then (bd (X11_bad μ20) fun v64 μ65 => some (0, μ65)) else (X11_cueText_L75 l1 v3 (fun v36 μ37 => X11_cueText_J120 l1 v3 v36 μ37) FU 0 0 μ20))
set_option maxHeartbeats 4000000 in
set_option maxRecDepth 100000 in
theorem kX11_cueText_L75 (d : Nat) (hd : 3 ≤ d) {l1 : Int} {l2 : Int} {k120 : Int → Mm → Rs} {r : Int} {μ' : Mm} (hk_120 : ∀ (v3 : Int) (μ1 : Mm), k120 v3 μ1 = some (r, μ') → VV d mX11_cueText 120 [some (vR 70), some (vI l1), some (vI l2), some (vI v3), none] [] μ1 r μ') : ∀ (n : Nat) {l3 l4 : Int} {μ : Mm}, X11_cueText_L75 l1 l2 k120 n l3 l4 μ = some (r, μ') → VV d mX11_cueText 75 [some (vR 70), some (vI l1), some (vI l2), some (vI l3), some (vI l4)] [] μ r μ' := by
  intro n
  induction n with
  | zero => intro l3 l4 μ h; rw [X11_cueText_L75] at h; cases h
  | succ n ih =>
    intro l3 l4 μ h
    rw [X11_cueText_L75] at h
    refine V_iload (q := 77) dX11_cueText_75 rfl rfl ?_
    refine V_iconst (q := 78) dX11_cueText_77 rfl rfl ?_
    refine V_icmpge (q := 120) (q2 := 81) dX11_cueText_78 (by decide) rfl (fun hc23 => ?_) (fun hc23 => ?_)
    · have h := ifT hc23 h
      exact V_weak (hk_120 _ _ h) (sb_s rfl (sb_s rfl (sb_s rfl (sb_s rfl (sb_n sb_0)))))
    · have h := ifF hc23 h
      refine V_aload_n (q := 82) dX11_cueText_81 rfl rfl rfl ?_
      obtain ⟨v24, μ25, hc26, h⟩ := bd_i h
      refine V_cV1 (q := 85) (v := vI v24) (kX11_here (d - 1) (by omega) hc26) (by omega) mv_X11_111 rfl rfl rfl rfl rfl rfl dX11_cueText_82 rfl ?_
      obtain ⟨v27, μ28, hc29, h⟩ := bd_i h
      refine V_cS1 (q := 88) (v := vI v27) (kX11_isDigit (d - 1) (by omega) hc29) (by omega) mv_X11_130 rfl rfl rfl rfl dX11_cueText_85 rfl ?_
      refine V_ifeq (q := 120) (q2 := 91) dX11_cueText_88 (by decide) rfl (fun hc30 => ?_) (fun hc30 => ?_)
      · have h := ifT hc30 h
        exact V_weak (hk_120 _ _ h) (sb_s rfl (sb_s rfl (sb_s rfl (sb_s rfl (sb_n sb_0)))))
      · have h := ifF hc30 h
        refine V_bipush (q := 93) dX11_cueText_91 rfl rfl rfl ?_
        refine V_iload_n (q := 94) dX11_cueText_93 rfl rfl rfl ?_
        refine V_imul (q := 95) dX11_cueText_94 rfl ?_
        refine V_aload_n (q := 96) dX11_cueText_95 rfl rfl rfl ?_
        obtain ⟨v31, μ32, hc33, h⟩ := bd_i h
        refine V_cV1 (q := 99) (v := vI v31) (kX11_here (d - 1) (by omega) hc33) (by omega) mv_X11_111 rfl rfl rfl rfl rfl rfl dX11_cueText_96 rfl ?_
        refine V_iadd (q := 100) dX11_cueText_99 rfl ?_
        refine V_bipush (q := 102) dX11_cueText_100 rfl rfl rfl ?_
        refine V_isub (q := 103) dX11_cueText_102 rfl ?_
        have h := lt_i h
        refine V_istore_n (q := 104) dX11_cueText_103 rfl (Nat.le_of_ble_eq_true rfl) trivial rfl ?_
        refine V_aload_n (q := 105) dX11_cueText_104 rfl rfl rfl ?_
        refine V_dup (q := 106) dX11_cueText_105 trivial rfl ?_
        refine V_getI (q := 109) fl_X11_108 rfl rfl rfl dX11_cueText_106 rfl ?_
        refine V_iconst (q := 110) dX11_cueText_109 rfl rfl ?_
        refine V_iadd (q := 111) dX11_cueText_110 rfl ?_
        have h := sF_i h
        refine V_putI (q := 114) fl_X11_108 rfl rfl rfl dX11_cueText_111 rfl ?_
        refine V_iinc (q := 117) dX11_cueText_114 rfl (Nat.le_of_ble_eq_true rfl) trivial rfl ?_
        refine V_goto (q := 75) dX11_cueText_117 (by decide) ?_
        exact V_weak (ih h) (sb_s rfl (sb_s rfl (sb_s rfl (sb_s rfl (sb_s rfl sb_0)))))
set_option maxHeartbeats 4000000 in
set_option maxRecDepth 100000 in
theorem kX11_cueText_J179 (d : Nat) (hd : 3 ≤ d) {l1 : Int} {μ : Mm} {r : Int} {μ' : Mm} (h : X11_cueText_J179 l1 μ = some (r, μ')) : VV d mX11_cueText 179 [some (vR 70), some (vI l1), none, none, none] [] μ r μ' := by
  unfold X11_cueText_J179 at h
  refine V_aload_n (q := 180) dX11_cueText_179 rfl rfl rfl ?_
  refine V_getO (q := 183) (t := 85) fl_X11_52 rfl rfl rfl rfl dX11_cueText_180 rfl ?_
  refine V_iload_n (q := 184) dX11_cueText_183 rfl rfl rfl ?_
  refine V_dup2 (q := 185) dX11_cueText_184 trivial trivial rfl ?_
  obtain ⟨hi51, h⟩ := ldA_i h
  refine V_iaload (q := 186) rfl hi51 dX11_cueText_185 rfl ?_
  refine V_iconst (q := 187) dX11_cueText_186 rfl rfl ?_
  refine V_iadd (q := 188) dX11_cueText_187 rfl ?_
  obtain ⟨hi53, h⟩ := stA_i h
  refine V_iastore (q := 189) rfl hi53 dX11_cueText_188 rfl ?_
  exact V_vret rfl h dX11_cueText_189
set_option maxHeartbeats 4000000 in
set_option maxRecDepth 100000 in
theorem kX11_cueText_J120 (d : Nat) (hd : 3 ≤ d) {l1 : Int} {l2 : Int} {l3 : Int} {μ : Mm} {r : Int} {μ' : Mm} (h : X11_cueText_J120 l1 l2 l3 μ = some (r, μ')) : VV d mX11_cueText 120 [some (vR 70), some (vI l1), some (vI l2), some (vI l3), none] [] μ r μ' := by
  unfold X11_cueText_J120 at h
  refine V_aload_n (q := 121) dX11_cueText_120 rfl rfl rfl ?_
  refine V_getO (q := 124) (t := 84) fl_X11_49 rfl rfl rfl rfl dX11_cueText_121 rfl ?_
  refine V_iload_n (q := 125) dX11_cueText_124 rfl rfl rfl ?_
  refine V_iload_n (q := 126) dX11_cueText_125 rfl rfl rfl ?_
  obtain ⟨hi39, h⟩ := stA_i h
  refine V_iastore (q := 127) rfl hi39 dX11_cueText_126 rfl ?_
  refine V_aload_n (q := 128) dX11_cueText_127 rfl rfl rfl ?_
  obtain ⟨v40, μ41, hc42, h⟩ := bd_i h
  refine V_cV1 (q := 131) (v := vI v40) (kX11_here (d - 1) (by omega) hc42) (by omega) mv_X11_111 rfl rfl rfl rfl rfl rfl dX11_cueText_128 rfl ?_
  obtain ⟨v43, μ44, hc45, h⟩ := bd_i h
  refine V_cS1 (q := 134) (v := vI v43) (kX11_isDigit (d - 1) (by omega) hc45) (by omega) mv_X11_130 rfl rfl rfl rfl dX11_cueText_131 rfl ?_
  refine V_ifeq (q := 144) (q2 := 137) dX11_cueText_134 (by decide) rfl (fun hc46 => ?_) (fun hc46 => ?_)
  · have h := ifT hc46 h
    refine V_aload_n (q := 145) dX11_cueText_144 rfl rfl rfl ?_
    refine V_getO (q := 148) (t := 85) fl_X11_52 rfl rfl rfl rfl dX11_cueText_145 rfl ?_
    refine V_iload_n (q := 149) dX11_cueText_148 rfl rfl rfl ?_
    obtain ⟨hi48, h⟩ := ldA_i h
    refine V_iaload (q := 150) rfl hi48 dX11_cueText_149 rfl ?_
    refine V_ifle (q := 179) (q2 := 153) dX11_cueText_150 (by decide) rfl (fun hc49 => ?_) (fun hc49 => ?_)
    · have h := ifT hc49 h
      exact V_weak (kX11_cueText_J179 d hd h) (sb_s rfl (sb_s rfl (sb_n (sb_n (sb_n sb_0)))))
    · have h := ifF hc49 h
      refine V_iload_n (q := 154) dX11_cueText_153 rfl rfl rfl ?_
      refine V_aload_n (q := 155) dX11_cueText_154 rfl rfl rfl ?_
      refine V_getO (q := 158) (t := 84) fl_X11_49 rfl rfl rfl rfl dX11_cueText_155 rfl ?_
      refine V_iload_n (q := 159) dX11_cueText_158 rfl rfl rfl ?_
      refine V_iconst (q := 160) dX11_cueText_159 rfl rfl ?_
      refine V_isub (q := 161) dX11_cueText_160 rfl ?_
      obtain ⟨hi55, h⟩ := ldA_i h
      refine V_iaload (q := 162) rfl hi55 dX11_cueText_161 rfl ?_
      refine V_icmpge (q := 179) (q2 := 165) dX11_cueText_162 (by decide) rfl (fun hc56 => ?_) (fun hc56 => ?_)
      · have h := ifT hc56 h
        exact V_weak (kX11_cueText_J179 d hd h) (sb_s rfl (sb_s rfl (sb_n (sb_n (sb_n sb_0)))))
      · have h := ifF hc56 h
        refine V_aload_n (q := 166) dX11_cueText_165 rfl rfl rfl ?_
        refine V_dup (q := 167) dX11_cueText_166 trivial rfl ?_
        refine V_getI (q := 170) fl_X11_108 rfl rfl rfl dX11_cueText_167 rfl ?_
        refine V_iconst (q := 171) dX11_cueText_170 rfl rfl ?_
        refine V_isub (q := 172) dX11_cueText_171 rfl ?_
        have h := sF_i h
        refine V_putI (q := 175) fl_X11_108 rfl rfl rfl dX11_cueText_172 rfl ?_
        refine V_aload_n (q := 176) dX11_cueText_175 rfl rfl rfl ?_
        obtain ⟨v58, μ59, hc60, h⟩ := bd_i h
        refine V_cV0 (q := 179) (kX11_bad (d - 1) (by omega) hc60) (by omega) mv_X11_124 rfl rfl rfl rfl rfl rfl dX11_cueText_176 rfl ?_
        exact V_weak (kX11_cueText_J179 d hd h) (sb_s rfl (sb_s rfl (sb_n (sb_n (sb_n sb_0)))))
  · have h := ifF hc46 h
    refine V_aload_n (q := 138) dX11_cueText_137 rfl rfl rfl ?_
    obtain ⟨v61, μ62, hc63, h⟩ := bd_i h
    refine V_cV0 (q := 141) (kX11_bad (d - 1) (by omega) hc63) (by omega) mv_X11_124 rfl rfl rfl rfl rfl rfl dX11_cueText_138 rfl ?_
    refine V_goto (q := 179) dX11_cueText_141 (by decide) ?_
    exact V_weak (kX11_cueText_J179 d hd h) (sb_s rfl (sb_s rfl (sb_n (sb_n (sb_n sb_0)))))
set_option maxHeartbeats 4000000 in
set_option maxRecDepth 100000 in
theorem kX11_cueText (d : Nat) (hd : 3 ≤ d) {l1 : Int} {μ : Mm} {r : Int} {μ' : Mm} (h : X11_cueText l1 μ = some (r, μ')) : CC d mX11_cueText [vR 70, vI l1] μ r μ' := by
  unfold X11_cueText at h
  refine V_enter (by decide) (Nat.le_of_ble_eq_true rfl) ?_
  show VV d mX11_cueText 0 [some (vR 70), some (vI l1), none, none, none] [] μ r μ'
  refine V_bipush (q := 2) dX11_cueText_0 rfl rfl rfl ?_
  refine V_iload_n (q := 3) dX11_cueText_2 rfl rfl rfl ?_
  refine V_imul (q := 4) dX11_cueText_3 rfl ?_
  refine V_aload_n (q := 5) dX11_cueText_4 rfl rfl rfl ?_
  refine V_getO (q := 8) (t := 85) fl_X11_52 rfl rfl rfl rfl dX11_cueText_5 rfl ?_
  refine V_iload_n (q := 9) dX11_cueText_8 rfl rfl rfl ?_
  obtain ⟨hi2, h⟩ := ldA_i h
  refine V_iaload (q := 10) rfl hi2 dX11_cueText_9 rfl ?_
  refine V_iadd (q := 11) dX11_cueText_10 rfl ?_
  have h := lt_i h
  refine V_istore_n (q := 12) dX11_cueText_11 rfl (Nat.le_of_ble_eq_true rfl) trivial rfl ?_
  refine V_aload_n (q := 13) dX11_cueText_12 rfl rfl rfl ?_
  refine V_getO (q := 16) (t := 83) fl_X11_46 rfl rfl rfl rfl dX11_cueText_13 rfl ?_
  refine V_iload_n (q := 17) dX11_cueText_16 rfl rfl rfl ?_
  refine V_aload_n (q := 18) dX11_cueText_17 rfl rfl rfl ?_
  obtain ⟨v4, μ5, hc6, h⟩ := bd_i h
  refine V_cV1 (q := 21) (v := vI v4) (kX11_look (d - 1) (by omega) hc6) (by omega) mv_X11_127 rfl rfl rfl rfl rfl rfl dX11_cueText_18 rfl ?_
  refine V_bipush (q := 23) dX11_cueText_21 rfl rfl rfl ?_
  refine V_isub (q := 24) dX11_cueText_23 rfl ?_
  obtain ⟨hi8, h⟩ := stA_i h
  refine V_iastore (q := 25) rfl hi8 dX11_cueText_24 rfl ?_
  refine V_aload_n (q := 26) dX11_cueText_25 rfl rfl rfl ?_
  refine V_getO (q := 29) (t := 83) fl_X11_46 rfl rfl rfl rfl dX11_cueText_26 rfl ?_
  refine V_iload_n (q := 30) dX11_cueText_29 rfl rfl rfl ?_
  obtain ⟨hi10, h⟩ := ldA_i h
  refine V_iaload (q := 31) rfl hi10 dX11_cueText_30 rfl ?_
  refine V_iconst (q := 32) dX11_cueText_31 rfl rfl ?_
  refine V_bipush (q := 34) dX11_cueText_32 rfl rfl rfl ?_
  obtain ⟨v11, μ12, hc13, h⟩ := bd_i h
  refine V_cS1 (q := 37) (v := vI v11) (kX11_in (d - 1) (by omega) hc13) (by omega) mv_X11_213 rfl rfl rfl rfl dX11_cueText_34 rfl ?_
  refine V_ifne (q := 45) (q2 := 40) dX11_cueText_37 (by decide) rfl (fun hc14 => ?_) (fun hc14 => ?_)
  · have h := ifF hc14 h
    refine V_aload_n (q := 46) dX11_cueText_45 rfl rfl rfl ?_
    refine V_dup (q := 47) dX11_cueText_46 trivial rfl ?_
    refine V_getI (q := 50) fl_X11_108 rfl rfl rfl dX11_cueText_47 rfl ?_
    refine V_iconst (q := 51) dX11_cueText_50 rfl rfl ?_
    refine V_iadd (q := 52) dX11_cueText_51 rfl ?_
    have h := sF_i h
    refine V_putI (q := 55) fl_X11_108 rfl rfl rfl dX11_cueText_52 rfl ?_
    refine V_aload_n (q := 56) dX11_cueText_55 rfl rfl rfl ?_
    obtain ⟨v16, μ17, hc18, h⟩ := bd_i h
    refine V_cV1 (q := 59) (v := vI v16) (kX11_look (d - 1) (by omega) hc18) (by omega) mv_X11_127 rfl rfl rfl rfl rfl rfl dX11_cueText_56 rfl ?_
    obtain ⟨v19, μ20, hc21, h⟩ := bd_i h
    refine V_cS1 (q := 62) (v := vI v19) (kX11_isDigit (d - 1) (by omega) hc21) (by omega) mv_X11_130 rfl rfl rfl rfl dX11_cueText_59 rfl ?_
    refine V_ifne (q := 70) (q2 := 65) dX11_cueText_62 (by decide) rfl (fun hc22 => ?_) (fun hc22 => ?_)
    · have h := ifF hc22 h
      refine V_iconst (q := 71) dX11_cueText_70 rfl rfl ?_
      refine V_istore_n (q := 72) dX11_cueText_71 rfl (Nat.le_of_ble_eq_true rfl) trivial rfl ?_
      refine V_iconst (q := 73) dX11_cueText_72 rfl rfl ?_
      refine V_istore (q := 75) dX11_cueText_73 (Nat.le_of_ble_eq_true rfl) trivial rfl ?_
      refine V_weak (kX11_cueText_L75 d hd (fun v36 μ37 h => ?_) FU h) (sb_s rfl (sb_s rfl (sb_s rfl (sb_s rfl (sb_s rfl sb_0)))))
      exact V_weak (kX11_cueText_J120 d hd h) (sb_s rfl (sb_s rfl (sb_s rfl (sb_s rfl (sb_n sb_0)))))
    · have h := ifT hc22 h
      refine V_aload_n (q := 66) dX11_cueText_65 rfl rfl rfl ?_
      obtain ⟨v64, μ65, hc66, h⟩ := bd_i h
      refine V_cV0 (q := 69) (kX11_bad (d - 1) (by omega) hc66) (by omega) mv_X11_124 rfl rfl rfl rfl rfl rfl dX11_cueText_66 rfl ?_
      exact V_vret rfl h dX11_cueText_69
  · have h := ifT hc14 h
    refine V_aload_n (q := 41) dX11_cueText_40 rfl rfl rfl ?_
    obtain ⟨v67, μ68, hc69, h⟩ := bd_i h
    refine V_cV0 (q := 44) (kX11_bad (d - 1) (by omega) hc69) (by omega) mv_X11_124 rfl rfl rfl rfl rfl rfl dX11_cueText_41 rfl ?_
    exact V_vret rfl h dX11_cueText_44
abbrev mX11_readPlay : Mth := (yX11_readPlay, cX11_readPlay, 3, some .int)
set_option maxRecDepth 100000 in
theorem mi_X11_readPlay : Cond.instanceMethod yX11_readPlay ∈ tG ∧ Cond.selects yX11_readPlay.cls yX11_readPlay yX11_readPlay ∈ tG ∧ Cond.initialized yX11_readPlay.cls ∈ tG ∧ Cond.code yX11_readPlay cX11_readPlay 3 (some .int) ∈ tG ∧ (yX11_readPlay.cls ≠ "java/lang/invoke/MethodHandle" ∧ yX11_readPlay.cls ≠ "java/lang/invoke/VarHandle" ∧ (parseMethodDescriptor yX11_readPlay.desc).map (fun d => d.parameters.length) = some 1) ∧ 3 ≤ 60 := ⟨(tG_of (tb6 (List.mem_of_getElem? (i := 77) rfl)) (by decide +kernel)), (tG_of (List.mem_of_getElem? (i := 52) (by decide +kernel)) (by decide +kernel)), (tG_of (tb1 (List.mem_of_getElem? (i := 12) rfl)) (by decide +kernel)), (tG_of (tb6 (List.mem_of_getElem? (i := 78) rfl)) (by decide +kernel)), ⟨by decide, by decide, by decide +kernel⟩, by decide⟩
set_option maxRecDepth 100000 in
theorem mv_X11_246 : mV RX11 246 mX11_readPlay 1 := ⟨(tG_of (tb6 (List.mem_of_getElem? (i := 75) rfl)) (by decide +kernel)), mi_X11_readPlay⟩
theorem dX11_readPlay_0 : decode cX11_readPlay 0 = .ok (.aload_n 0, 1) := dc_42 (byA eNcX11_readPlay (p := 0) (v := 42) (by decide +kernel))
theorem dX11_readPlay_1 : decode cX11_readPlay 1 = .ok (.iconst 0, 1) := dc_3 (byA eNcX11_readPlay (p := 1) (v := 3) (by decide +kernel))
theorem dX11_readPlay_2 : decode cX11_readPlay 2 = .ok (.putfield 108, 3) := dc_181 (byA eNcX11_readPlay (p := 2) (v := 181) (by decide +kernel)) (byA eNcX11_readPlay (p := 3) (v := 0) (by decide +kernel)) (byA eNcX11_readPlay (p := 4) (v := 108) (by decide +kernel)) rfl
theorem dX11_readPlay_5 : decode cX11_readPlay 5 = .ok (.aload_n 0, 1) := dc_42 (byA eNcX11_readPlay (p := 5) (v := 42) (by decide +kernel))
theorem dX11_readPlay_6 : decode cX11_readPlay 6 = .ok (.iconst (-1), 1) := dc_2 (byA eNcX11_readPlay (p := 6) (v := 2) (by decide +kernel))
theorem dX11_readPlay_7 : decode cX11_readPlay 7 = .ok (.putfield 115, 3) := dc_181 (byA eNcX11_readPlay (p := 7) (v := 181) (by decide +kernel)) (byA eNcX11_readPlay (p := 8) (v := 0) (by decide +kernel)) (byA eNcX11_readPlay (p := 9) (v := 115) (by decide +kernel)) rfl
theorem dX11_readPlay_10 : decode cX11_readPlay 10 = .ok (.aload_n 0, 1) := dc_42 (byA eNcX11_readPlay (p := 10) (v := 42) (by decide +kernel))
theorem dX11_readPlay_11 : decode cX11_readPlay 11 = .ok (.getfield 52, 3) := dc_180 (byA eNcX11_readPlay (p := 11) (v := 180) (by decide +kernel)) (byA eNcX11_readPlay (p := 12) (v := 0) (by decide +kernel)) (byA eNcX11_readPlay (p := 13) (v := 52) (by decide +kernel)) rfl
theorem dX11_readPlay_14 : decode cX11_readPlay 14 = .ok (.iload_n 1, 1) := dc_27 (byA eNcX11_readPlay (p := 14) (v := 27) (by decide +kernel))
theorem dX11_readPlay_15 : decode cX11_readPlay 15 = .ok (.iconst 0, 1) := dc_3 (byA eNcX11_readPlay (p := 15) (v := 3) (by decide +kernel))
theorem dX11_readPlay_16 : decode cX11_readPlay 16 = .ok (.iastore, 1) := dc_79 (byA eNcX11_readPlay (p := 16) (v := 79) (by decide +kernel))
theorem dX11_readPlay_17 : decode cX11_readPlay 17 = .ok (.iconst 1, 1) := dc_4 (byA eNcX11_readPlay (p := 17) (v := 4) (by decide +kernel))
theorem dX11_readPlay_18 : decode cX11_readPlay 18 = .ok (.istore_n 2, 1) := dc_61 (byA eNcX11_readPlay (p := 18) (v := 61) (by decide +kernel))
theorem dX11_readPlay_19 : decode cX11_readPlay 19 = .ok (.iload_n 2, 1) := dc_28 (byA eNcX11_readPlay (p := 19) (v := 28) (by decide +kernel))
theorem dX11_readPlay_20 : decode cX11_readPlay 20 = .ok (.ifCond .eq 71, 3) := dc_153 (byA eNcX11_readPlay (p := 20) (v := 153) (by decide +kernel)) (byA eNcX11_readPlay (p := 21) (v := 0) (by decide +kernel)) (byA eNcX11_readPlay (p := 22) (v := 71) (by decide +kernel)) (by decide +kernel)
theorem dX11_readPlay_23 : decode cX11_readPlay 23 = .ok (.aload_n 0, 1) := dc_42 (byA eNcX11_readPlay (p := 23) (v := 42) (by decide +kernel))
theorem dX11_readPlay_24 : decode cX11_readPlay 24 = .ok (.getfield 115, 3) := dc_180 (byA eNcX11_readPlay (p := 24) (v := 180) (by decide +kernel)) (byA eNcX11_readPlay (p := 25) (v := 0) (by decide +kernel)) (byA eNcX11_readPlay (p := 26) (v := 115) (by decide +kernel)) rfl
theorem dX11_readPlay_27 : decode cX11_readPlay 27 = .ok (.iconst (-1), 1) := dc_2 (byA eNcX11_readPlay (p := 27) (v := 2) (by decide +kernel))
theorem dX11_readPlay_28 : decode cX11_readPlay 28 = .ok (.if_icmp .ne 63, 3) := dc_160 (byA eNcX11_readPlay (p := 28) (v := 160) (by decide +kernel)) (byA eNcX11_readPlay (p := 29) (v := 0) (by decide +kernel)) (byA eNcX11_readPlay (p := 30) (v := 63) (by decide +kernel)) (by decide +kernel)
theorem dX11_readPlay_31 : decode cX11_readPlay 31 = .ok (.aload_n 0, 1) := dc_42 (byA eNcX11_readPlay (p := 31) (v := 42) (by decide +kernel))
theorem dX11_readPlay_32 : decode cX11_readPlay 32 = .ok (.iload_n 1, 1) := dc_27 (byA eNcX11_readPlay (p := 32) (v := 27) (by decide +kernel))
theorem dX11_readPlay_33 : decode cX11_readPlay 33 = .ok (.invokevirtual 240, 3) := dc_182 (byA eNcX11_readPlay (p := 33) (v := 182) (by decide +kernel)) (byA eNcX11_readPlay (p := 34) (v := 0) (by decide +kernel)) (byA eNcX11_readPlay (p := 35) (v := 240) (by decide +kernel)) rfl
theorem dX11_readPlay_36 : decode cX11_readPlay 36 = .ok (.aload_n 0, 1) := dc_42 (byA eNcX11_readPlay (p := 36) (v := 42) (by decide +kernel))
theorem dX11_readPlay_37 : decode cX11_readPlay 37 = .ok (.getfield 115, 3) := dc_180 (byA eNcX11_readPlay (p := 37) (v := 180) (by decide +kernel)) (byA eNcX11_readPlay (p := 38) (v := 0) (by decide +kernel)) (byA eNcX11_readPlay (p := 39) (v := 115) (by decide +kernel)) rfl
theorem dX11_readPlay_40 : decode cX11_readPlay 40 = .ok (.iconst (-1), 1) := dc_2 (byA eNcX11_readPlay (p := 40) (v := 2) (by decide +kernel))
theorem dX11_readPlay_41 : decode cX11_readPlay 41 = .ok (.if_icmp .ne 27, 3) := dc_160 (byA eNcX11_readPlay (p := 41) (v := 160) (by decide +kernel)) (byA eNcX11_readPlay (p := 42) (v := 0) (by decide +kernel)) (byA eNcX11_readPlay (p := 43) (v := 27) (by decide +kernel)) (by decide +kernel)
theorem dX11_readPlay_44 : decode cX11_readPlay 44 = .ok (.aload_n 0, 1) := dc_42 (byA eNcX11_readPlay (p := 44) (v := 42) (by decide +kernel))
theorem dX11_readPlay_45 : decode cX11_readPlay 45 = .ok (.invokevirtual 127, 3) := dc_182 (byA eNcX11_readPlay (p := 45) (v := 182) (by decide +kernel)) (byA eNcX11_readPlay (p := 46) (v := 0) (by decide +kernel)) (byA eNcX11_readPlay (p := 47) (v := 127) (by decide +kernel)) rfl
theorem dX11_readPlay_48 : decode cX11_readPlay 48 = .ok (.bipush 44, 2) := dc_16 (byA eNcX11_readPlay (p := 48) (v := 16) (by decide +kernel)) (byA eNcX11_readPlay (p := 49) (v := 44) (by decide +kernel)) (by decide +kernel)
theorem dX11_readPlay_50 : decode cX11_readPlay 50 = .ok (.if_icmp .ne 18, 3) := dc_160 (byA eNcX11_readPlay (p := 50) (v := 160) (by decide +kernel)) (byA eNcX11_readPlay (p := 51) (v := 0) (by decide +kernel)) (byA eNcX11_readPlay (p := 52) (v := 18) (by decide +kernel)) (by decide +kernel)
theorem dX11_readPlay_53 : decode cX11_readPlay 53 = .ok (.aload_n 0, 1) := dc_42 (byA eNcX11_readPlay (p := 53) (v := 42) (by decide +kernel))
theorem dX11_readPlay_54 : decode cX11_readPlay 54 = .ok (.getfield 52, 3) := dc_180 (byA eNcX11_readPlay (p := 54) (v := 180) (by decide +kernel)) (byA eNcX11_readPlay (p := 55) (v := 0) (by decide +kernel)) (byA eNcX11_readPlay (p := 56) (v := 52) (by decide +kernel)) rfl
theorem dX11_readPlay_57 : decode cX11_readPlay 57 = .ok (.iload_n 1, 1) := dc_27 (byA eNcX11_readPlay (p := 57) (v := 27) (by decide +kernel))
theorem dX11_readPlay_58 : decode cX11_readPlay 58 = .ok (.iaload, 1) := dc_46 (byA eNcX11_readPlay (p := 58) (v := 46) (by decide +kernel))
theorem dX11_readPlay_59 : decode cX11_readPlay 59 = .ok (.bipush 8, 2) := dc_16 (byA eNcX11_readPlay (p := 59) (v := 16) (by decide +kernel)) (byA eNcX11_readPlay (p := 60) (v := 8) (by decide +kernel)) (by decide +kernel)
theorem dX11_readPlay_61 : decode cX11_readPlay 61 = .ok (.if_icmp .ge 7, 3) := dc_162 (byA eNcX11_readPlay (p := 61) (v := 162) (by decide +kernel)) (byA eNcX11_readPlay (p := 62) (v := 0) (by decide +kernel)) (byA eNcX11_readPlay (p := 63) (v := 7) (by decide +kernel)) (by decide +kernel)
theorem dX11_readPlay_64 : decode cX11_readPlay 64 = .ok (.iconst 1, 1) := dc_4 (byA eNcX11_readPlay (p := 64) (v := 4) (by decide +kernel))
theorem dX11_readPlay_65 : decode cX11_readPlay 65 = .ok (.goto 4, 3) := dc_167 (byA eNcX11_readPlay (p := 65) (v := 167) (by decide +kernel)) (byA eNcX11_readPlay (p := 66) (v := 0) (by decide +kernel)) (byA eNcX11_readPlay (p := 67) (v := 4) (by decide +kernel)) (by decide +kernel)
theorem dX11_readPlay_68 : decode cX11_readPlay 68 = .ok (.iconst 0, 1) := dc_3 (byA eNcX11_readPlay (p := 68) (v := 3) (by decide +kernel))
theorem dX11_readPlay_69 : decode cX11_readPlay 69 = .ok (.istore_n 2, 1) := dc_61 (byA eNcX11_readPlay (p := 69) (v := 61) (by decide +kernel))
theorem dX11_readPlay_70 : decode cX11_readPlay 70 = .ok (.aload_n 0, 1) := dc_42 (byA eNcX11_readPlay (p := 70) (v := 42) (by decide +kernel))
theorem dX11_readPlay_71 : decode cX11_readPlay 71 = .ok (.dup, 1) := dc_89 (byA eNcX11_readPlay (p := 71) (v := 89) (by decide +kernel))
theorem dX11_readPlay_72 : decode cX11_readPlay 72 = .ok (.getfield 108, 3) := dc_180 (byA eNcX11_readPlay (p := 72) (v := 180) (by decide +kernel)) (byA eNcX11_readPlay (p := 73) (v := 0) (by decide +kernel)) (byA eNcX11_readPlay (p := 74) (v := 108) (by decide +kernel)) rfl
theorem dX11_readPlay_75 : decode cX11_readPlay 75 = .ok (.iload_n 2, 1) := dc_28 (byA eNcX11_readPlay (p := 75) (v := 28) (by decide +kernel))
theorem dX11_readPlay_76 : decode cX11_readPlay 76 = .ok (.ifCond .eq 7, 3) := dc_153 (byA eNcX11_readPlay (p := 76) (v := 153) (by decide +kernel)) (byA eNcX11_readPlay (p := 77) (v := 0) (by decide +kernel)) (byA eNcX11_readPlay (p := 78) (v := 7) (by decide +kernel)) (by decide +kernel)
theorem dX11_readPlay_79 : decode cX11_readPlay 79 = .ok (.iconst 1, 1) := dc_4 (byA eNcX11_readPlay (p := 79) (v := 4) (by decide +kernel))
theorem dX11_readPlay_80 : decode cX11_readPlay 80 = .ok (.goto 4, 3) := dc_167 (byA eNcX11_readPlay (p := 80) (v := 167) (by decide +kernel)) (byA eNcX11_readPlay (p := 81) (v := 0) (by decide +kernel)) (byA eNcX11_readPlay (p := 82) (v := 4) (by decide +kernel)) (by decide +kernel)
theorem dX11_readPlay_83 : decode cX11_readPlay 83 = .ok (.iconst 0, 1) := dc_3 (byA eNcX11_readPlay (p := 83) (v := 3) (by decide +kernel))
theorem dX11_readPlay_84 : decode cX11_readPlay 84 = .ok (.iadd, 1) := dc_96 (byA eNcX11_readPlay (p := 84) (v := 96) (by decide +kernel))
theorem dX11_readPlay_85 : decode cX11_readPlay 85 = .ok (.putfield 108, 3) := dc_181 (byA eNcX11_readPlay (p := 85) (v := 181) (by decide +kernel)) (byA eNcX11_readPlay (p := 86) (v := 0) (by decide +kernel)) (byA eNcX11_readPlay (p := 87) (v := 108) (by decide +kernel)) rfl
theorem dX11_readPlay_88 : decode cX11_readPlay 88 = .ok (.goto (-69), 3) := dc_167 (byA eNcX11_readPlay (p := 88) (v := 167) (by decide +kernel)) (byA eNcX11_readPlay (p := 89) (v := 255) (by decide +kernel)) (byA eNcX11_readPlay (p := 90) (v := 187) (by decide +kernel)) (by decide +kernel)
theorem dX11_readPlay_91 : decode cX11_readPlay 91 = .ok (.aload_n 0, 1) := dc_42 (byA eNcX11_readPlay (p := 91) (v := 42) (by decide +kernel))
theorem dX11_readPlay_92 : decode cX11_readPlay 92 = .ok (.invokevirtual 185, 3) := dc_182 (byA eNcX11_readPlay (p := 92) (v := 182) (by decide +kernel)) (byA eNcX11_readPlay (p := 93) (v := 0) (by decide +kernel)) (byA eNcX11_readPlay (p := 94) (v := 185) (by decide +kernel)) rfl
theorem dX11_readPlay_95 : decode cX11_readPlay 95 = .ok (.ireturn, 1) := dc_172 (byA eNcX11_readPlay (p := 95) (v := 172) (by decide +kernel))
def X11_readPlay_J69 (k19 : Int → Mm → Rs) (l1 : Int) (s0 : Int) (μ : Mm) : Rs := if s0 = 0 then (sF μ 70 3 (iA (μ 70 3) 0) fun μ12 => k19 s0 μ12) else (sF μ 70 3 (iA (μ 70 3) 1) fun μ13 => k19 s0 μ13)
def X11_readPlay_J68 (k19 : Int → Mm → Rs) (l1 : Int) (μ : Mm) : Rs := X11_readPlay_J69 (fun w2 μq => k19 w2 μq) l1 0 μ
def X11_readPlay_L19 (l1 : Int) (k91 : Mm → Rs) : Nat → Int → Mm → Rs
  | 0, _, _ => none
  | n + 1, l2, μ => if l2 = 0 then (k91 μ) else (if (μ 70 4) = (-1) then (bd (X11_cueText l1 μ) fun v7 μ8 => if (μ8 70 4) = (-1) then (bd (X11_look μ8) fun v14 μ15 => if v14 = 44 then (ldA μ15 85 l1 fun v18 => if 8 ≤ v18 then (X11_readPlay_J68 (fun w2 μq => X11_readPlay_L19 l1 k91 n w2 μq) l1 μ15) else (X11_readPlay_J69 (fun w2 μq => X11_readPlay_L19 l1 k91 n w2 μq) l1 1 μ15)) else (X11_readPlay_J68 (fun w2 μq => X11_readPlay_L19 l1 k91 n w2 μq) l1 μ15)) else (X11_readPlay_J68 (fun w2 μq => X11_readPlay_L19 l1 k91 n w2 μq) l1 μ8)) else (k91 μ))
def X11_readPlay (l1 : Int) (μ : Mm) : Rs := sF μ 70 3 0 fun μ1 => sF μ1 70 4 (-1) fun μ2 => stA μ2 85 l1 0 fun μ3 => X11_readPlay_L19 l1 (fun μ21 => bd (X11_atEnd μ21) fun v22 μ23 => some (v22, μ23)) FU 1 μ3
set_option maxHeartbeats 4000000 in
set_option maxRecDepth 100000 in
theorem kX11_readPlay_J69 (d : Nat) (hd : 4 ≤ d) {k19 : Int → Mm → Rs} {l1 : Int} {s0 : Int} {μ : Mm} {r : Int} {μ' : Mm} (hk_19 : ∀ (v2 : Int) (μ1 : Mm), k19 v2 μ1 = some (r, μ') → VV d mX11_readPlay 19 [some (vR 70), some (vI l1), some (vI v2)] [] μ1 r μ') (h : X11_readPlay_J69 k19 l1 s0 μ = some (r, μ')) : VV d mX11_readPlay 69 [some (vR 70), some (vI l1), none] [vI s0] μ r μ' := by
  unfold X11_readPlay_J69 at h
  refine V_istore_n (q := 70) dX11_readPlay_69 rfl (Nat.le_of_ble_eq_true rfl) trivial rfl ?_
  refine V_aload_n (q := 71) dX11_readPlay_70 rfl rfl rfl ?_
  refine V_dup (q := 72) dX11_readPlay_71 trivial rfl ?_
  refine V_getI (q := 75) fl_X11_108 rfl rfl rfl dX11_readPlay_72 rfl ?_
  refine V_iload_n (q := 76) dX11_readPlay_75 rfl rfl rfl ?_
  refine V_ifeq (q := 83) (q2 := 79) dX11_readPlay_76 (by decide) rfl (fun hc11 => ?_) (fun hc11 => ?_)
  · have h := ifT hc11 h
    refine V_iconst (q := 84) dX11_readPlay_83 rfl rfl ?_
    refine V_iadd (q := 85) dX11_readPlay_84 rfl ?_
    have h := sF_i h
    refine V_putI (q := 88) fl_X11_108 rfl rfl rfl dX11_readPlay_85 rfl ?_
    refine V_goto (q := 19) dX11_readPlay_88 (by decide) ?_
    exact V_weak (hk_19 _ _ h) (sb_s rfl (sb_s rfl (sb_s rfl sb_0)))
  · have h := ifF hc11 h
    refine V_iconst (q := 80) dX11_readPlay_79 rfl rfl ?_
    refine V_goto (q := 84) dX11_readPlay_80 (by decide) ?_
    refine V_iadd (q := 85) dX11_readPlay_84 rfl ?_
    have h := sF_i h
    refine V_putI (q := 88) fl_X11_108 rfl rfl rfl dX11_readPlay_85 rfl ?_
    refine V_goto (q := 19) dX11_readPlay_88 (by decide) ?_
    exact V_weak (hk_19 _ _ h) (sb_s rfl (sb_s rfl (sb_s rfl sb_0)))
set_option maxHeartbeats 4000000 in
set_option maxRecDepth 100000 in
theorem kX11_readPlay_J68 (d : Nat) (hd : 4 ≤ d) {k19 : Int → Mm → Rs} {l1 : Int} {μ : Mm} {r : Int} {μ' : Mm} (hk_19 : ∀ (v2 : Int) (μ1 : Mm), k19 v2 μ1 = some (r, μ') → VV d mX11_readPlay 19 [some (vR 70), some (vI l1), some (vI v2)] [] μ1 r μ') (h : X11_readPlay_J68 k19 l1 μ = some (r, μ')) : VV d mX11_readPlay 68 [some (vR 70), some (vI l1), none] [] μ r μ' := by
  unfold X11_readPlay_J68 at h
  refine V_iconst (q := 69) dX11_readPlay_68 rfl rfl ?_
  exact V_weak (kX11_readPlay_J69 d hd (fun _ _ h => hk_19 _ _ h) h) (sb_s rfl (sb_s rfl (sb_n sb_0)))
set_option maxHeartbeats 4000000 in
set_option maxRecDepth 100000 in
theorem kX11_readPlay_L19 (d : Nat) (hd : 4 ≤ d) {l1 : Int} {k91 : Mm → Rs} {r : Int} {μ' : Mm} (hk_91 : ∀ (μ1 : Mm), k91 μ1 = some (r, μ') → VV d mX11_readPlay 91 [some (vR 70), none, none] [] μ1 r μ') : ∀ (n : Nat) {l2 : Int} {μ : Mm}, X11_readPlay_L19 l1 k91 n l2 μ = some (r, μ') → VV d mX11_readPlay 19 [some (vR 70), some (vI l1), some (vI l2)] [] μ r μ' := by
  intro n
  induction n with
  | zero => intro l2 μ h; rw [X11_readPlay_L19] at h; cases h
  | succ n ih =>
    intro l2 μ h
    rw [X11_readPlay_L19] at h
    refine V_iload_n (q := 20) dX11_readPlay_19 rfl rfl rfl ?_
    refine V_ifeq (q := 91) (q2 := 23) dX11_readPlay_20 (by decide) rfl (fun hc5 => ?_) (fun hc5 => ?_)
    · have h := ifT hc5 h
      exact V_weak (hk_91 _ h) (sb_s rfl (sb_n (sb_n sb_0)))
    · have h := ifF hc5 h
      refine V_aload_n (q := 24) dX11_readPlay_23 rfl rfl rfl ?_
      refine V_getI (q := 27) fl_X11_115 rfl rfl rfl dX11_readPlay_24 rfl ?_
      refine V_iconst (q := 28) dX11_readPlay_27 rfl rfl ?_
      refine V_icmpne (q := 91) (q2 := 31) dX11_readPlay_28 (by decide) rfl (fun hc6 => ?_) (fun hc6 => ?_)
      · have h := ifF hc6 h
        exact V_weak (hk_91 _ h) (sb_s rfl (sb_n (sb_n sb_0)))
      · have h := ifT hc6 h
        refine V_aload_n (q := 32) dX11_readPlay_31 rfl rfl rfl ?_
        refine V_iload_n (q := 33) dX11_readPlay_32 rfl rfl rfl ?_
        obtain ⟨v7, μ8, hc9, h⟩ := bd_i h
        refine V_cV0 (q := 36) (kX11_cueText (d - 1) (by omega) hc9) (by omega) mv_X11_240 rfl rfl rfl rfl rfl rfl dX11_readPlay_33 rfl ?_
        refine V_aload_n (q := 37) dX11_readPlay_36 rfl rfl rfl ?_
        refine V_getI (q := 40) fl_X11_115 rfl rfl rfl dX11_readPlay_37 rfl ?_
        refine V_iconst (q := 41) dX11_readPlay_40 rfl rfl ?_
        refine V_icmpne (q := 68) (q2 := 44) dX11_readPlay_41 (by decide) rfl (fun hc10 => ?_) (fun hc10 => ?_)
        · have h := ifF hc10 h
          exact V_weak (kX11_readPlay_J68 d hd (fun _ _ h => ih h) h) (sb_s rfl (sb_s rfl (sb_n sb_0)))
        · have h := ifT hc10 h
          refine V_aload_n (q := 45) dX11_readPlay_44 rfl rfl rfl ?_
          obtain ⟨v14, μ15, hc16, h⟩ := bd_i h
          refine V_cV1 (q := 48) (v := vI v14) (kX11_look (d - 1) (by omega) hc16) (by omega) mv_X11_127 rfl rfl rfl rfl rfl rfl dX11_readPlay_45 rfl ?_
          refine V_bipush (q := 50) dX11_readPlay_48 rfl rfl rfl ?_
          refine V_icmpne (q := 68) (q2 := 53) dX11_readPlay_50 (by decide) rfl (fun hc17 => ?_) (fun hc17 => ?_)
          · have h := ifF hc17 h
            exact V_weak (kX11_readPlay_J68 d hd (fun _ _ h => ih h) h) (sb_s rfl (sb_s rfl (sb_n sb_0)))
          · have h := ifT hc17 h
            refine V_aload_n (q := 54) dX11_readPlay_53 rfl rfl rfl ?_
            refine V_getO (q := 57) (t := 85) fl_X11_52 rfl rfl rfl rfl dX11_readPlay_54 rfl ?_
            refine V_iload_n (q := 58) dX11_readPlay_57 rfl rfl rfl ?_
            obtain ⟨hi19, h⟩ := ldA_i h
            refine V_iaload (q := 59) rfl hi19 dX11_readPlay_58 rfl ?_
            refine V_bipush (q := 61) dX11_readPlay_59 rfl rfl rfl ?_
            refine V_icmpge (q := 68) (q2 := 64) dX11_readPlay_61 (by decide) rfl (fun hc20 => ?_) (fun hc20 => ?_)
            · have h := ifT hc20 h
              exact V_weak (kX11_readPlay_J68 d hd (fun _ _ h => ih h) h) (sb_s rfl (sb_s rfl (sb_n sb_0)))
            · have h := ifF hc20 h
              refine V_iconst (q := 65) dX11_readPlay_64 rfl rfl ?_
              refine V_goto (q := 69) dX11_readPlay_65 (by decide) ?_
              exact V_weak (kX11_readPlay_J69 d hd (fun _ _ h => ih h) h) (sb_s rfl (sb_s rfl (sb_n sb_0)))
set_option maxHeartbeats 4000000 in
set_option maxRecDepth 100000 in
theorem kX11_readPlay (d : Nat) (hd : 4 ≤ d) {l1 : Int} {μ : Mm} {r : Int} {μ' : Mm} (h : X11_readPlay l1 μ = some (r, μ')) : CC d mX11_readPlay [vR 70, vI l1] μ r μ' := by
  unfold X11_readPlay at h
  refine V_enter (by decide) (Nat.le_of_ble_eq_true rfl) ?_
  show VV d mX11_readPlay 0 [some (vR 70), some (vI l1), none] [] μ r μ'
  refine V_aload_n (q := 1) dX11_readPlay_0 rfl rfl rfl ?_
  refine V_iconst (q := 2) dX11_readPlay_1 rfl rfl ?_
  have h := sF_i h
  refine V_putI (q := 5) fl_X11_108 rfl rfl rfl dX11_readPlay_2 rfl ?_
  refine V_aload_n (q := 6) dX11_readPlay_5 rfl rfl rfl ?_
  refine V_iconst (q := 7) dX11_readPlay_6 rfl rfl ?_
  have h := sF_i h
  refine V_putI (q := 10) fl_X11_115 rfl rfl rfl dX11_readPlay_7 rfl ?_
  refine V_aload_n (q := 11) dX11_readPlay_10 rfl rfl rfl ?_
  refine V_getO (q := 14) (t := 85) fl_X11_52 rfl rfl rfl rfl dX11_readPlay_11 rfl ?_
  refine V_iload_n (q := 15) dX11_readPlay_14 rfl rfl rfl ?_
  refine V_iconst (q := 16) dX11_readPlay_15 rfl rfl ?_
  obtain ⟨hi4, h⟩ := stA_i h
  refine V_iastore (q := 17) rfl hi4 dX11_readPlay_16 rfl ?_
  refine V_iconst (q := 18) dX11_readPlay_17 rfl rfl ?_
  refine V_istore_n (q := 19) dX11_readPlay_18 rfl (Nat.le_of_ble_eq_true rfl) trivial rfl ?_
  refine V_weak (kX11_readPlay_L19 d hd (fun μ21 h => ?_) FU h) (sb_s rfl (sb_s rfl (sb_s rfl sb_0)))
  refine V_aload_n (q := 92) dX11_readPlay_91 rfl rfl rfl ?_
  obtain ⟨v22, μ23, hc24, h⟩ := bd_i h
  refine V_cV1 (q := 95) (v := vI v22) (kX11_atEnd (d - 1) (by omega) hc24) (by omega) mv_X11_185 rfl rfl rfl rfl rfl rfl dX11_readPlay_92 rfl ?_
  exact V_iret rfl h dX11_readPlay_95
abbrev mX11_fault : Mth := (yX11_fault, cX11_fault, 2, some .int)
set_option maxRecDepth 100000 in
theorem mi_X11_fault : Cond.instanceMethod yX11_fault ∈ tG ∧ Cond.selects yX11_fault.cls yX11_fault yX11_fault ∈ tG ∧ Cond.initialized yX11_fault.cls ∈ tG ∧ Cond.code yX11_fault cX11_fault 2 (some .int) ∈ tG ∧ (yX11_fault.cls ≠ "java/lang/invoke/MethodHandle" ∧ yX11_fault.cls ≠ "java/lang/invoke/VarHandle" ∧ (parseMethodDescriptor yX11_fault.desc).map (fun d => d.parameters.length) = some 1) ∧ 2 ≤ 60 := ⟨(tG_of (tb6 (List.mem_of_getElem? (i := 43) rfl)) (by decide +kernel)), (tG_of (tb6 (List.mem_of_getElem? (i := 44) rfl)) (by decide +kernel)), (tG_of (tb1 (List.mem_of_getElem? (i := 12) rfl)) (by decide +kernel)), (tG_of (tb6 (List.mem_of_getElem? (i := 45) rfl)) (by decide +kernel)), ⟨by decide, by decide, by decide +kernel⟩, by decide⟩
theorem dX11_fault_0 : decode cX11_fault 0 = .ok (.iload_n 1, 1) := dc_27 (byA eNcX11_fault (p := 0) (v := 27) (by decide +kernel))
theorem dX11_fault_1 : decode cX11_fault 1 = .ok (.ifCond .ne 10, 3) := dc_154 (byA eNcX11_fault (p := 1) (v := 154) (by decide +kernel)) (byA eNcX11_fault (p := 2) (v := 0) (by decide +kernel)) (byA eNcX11_fault (p := 3) (v := 10) (by decide +kernel)) (by decide +kernel)
theorem dX11_fault_4 : decode cX11_fault 4 = .ok (.aload_n 0, 1) := dc_42 (byA eNcX11_fault (p := 4) (v := 42) (by decide +kernel))
theorem dX11_fault_5 : decode cX11_fault 5 = .ok (.invokevirtual 243, 3) := dc_182 (byA eNcX11_fault (p := 5) (v := 182) (by decide +kernel)) (byA eNcX11_fault (p := 6) (v := 0) (by decide +kernel)) (byA eNcX11_fault (p := 7) (v := 243) (by decide +kernel)) rfl
theorem dX11_fault_8 : decode cX11_fault 8 = .ok (.goto 31, 3) := dc_167 (byA eNcX11_fault (p := 8) (v := 167) (by decide +kernel)) (byA eNcX11_fault (p := 9) (v := 0) (by decide +kernel)) (byA eNcX11_fault (p := 10) (v := 31) (by decide +kernel)) (by decide +kernel)
theorem dX11_fault_11 : decode cX11_fault 11 = .ok (.iload_n 1, 1) := dc_27 (byA eNcX11_fault (p := 11) (v := 27) (by decide +kernel))
theorem dX11_fault_12 : decode cX11_fault 12 = .ok (.iconst 1, 1) := dc_4 (byA eNcX11_fault (p := 12) (v := 4) (by decide +kernel))
theorem dX11_fault_13 : decode cX11_fault 13 = .ok (.if_icmp .ne 11, 3) := dc_160 (byA eNcX11_fault (p := 13) (v := 160) (by decide +kernel)) (byA eNcX11_fault (p := 14) (v := 0) (by decide +kernel)) (byA eNcX11_fault (p := 15) (v := 11) (by decide +kernel)) (by decide +kernel)
theorem dX11_fault_16 : decode cX11_fault 16 = .ok (.aload_n 0, 1) := dc_42 (byA eNcX11_fault (p := 16) (v := 42) (by decide +kernel))
theorem dX11_fault_17 : decode cX11_fault 17 = .ok (.iconst 5, 1) := dc_8 (byA eNcX11_fault (p := 17) (v := 8) (by decide +kernel))
theorem dX11_fault_18 : decode cX11_fault 18 = .ok (.invokevirtual 246, 3) := dc_182 (byA eNcX11_fault (p := 18) (v := 182) (by decide +kernel)) (byA eNcX11_fault (p := 19) (v := 0) (by decide +kernel)) (byA eNcX11_fault (p := 20) (v := 246) (by decide +kernel)) rfl
theorem dX11_fault_21 : decode cX11_fault 21 = .ok (.goto 18, 3) := dc_167 (byA eNcX11_fault (p := 21) (v := 167) (by decide +kernel)) (byA eNcX11_fault (p := 22) (v := 0) (by decide +kernel)) (byA eNcX11_fault (p := 23) (v := 18) (by decide +kernel)) (by decide +kernel)
theorem dX11_fault_24 : decode cX11_fault 24 = .ok (.iload_n 1, 1) := dc_27 (byA eNcX11_fault (p := 24) (v := 27) (by decide +kernel))
theorem dX11_fault_25 : decode cX11_fault 25 = .ok (.iconst 2, 1) := dc_5 (byA eNcX11_fault (p := 25) (v := 5) (by decide +kernel))
theorem dX11_fault_26 : decode cX11_fault 26 = .ok (.if_icmp .ne 11, 3) := dc_160 (byA eNcX11_fault (p := 26) (v := 160) (by decide +kernel)) (byA eNcX11_fault (p := 27) (v := 0) (by decide +kernel)) (byA eNcX11_fault (p := 28) (v := 11) (by decide +kernel)) (by decide +kernel)
theorem dX11_fault_29 : decode cX11_fault 29 = .ok (.aload_n 0, 1) := dc_42 (byA eNcX11_fault (p := 29) (v := 42) (by decide +kernel))
theorem dX11_fault_30 : decode cX11_fault 30 = .ok (.iconst 4, 1) := dc_7 (byA eNcX11_fault (p := 30) (v := 7) (by decide +kernel))
theorem dX11_fault_31 : decode cX11_fault 31 = .ok (.invokevirtual 249, 3) := dc_182 (byA eNcX11_fault (p := 31) (v := 182) (by decide +kernel)) (byA eNcX11_fault (p := 32) (v := 0) (by decide +kernel)) (byA eNcX11_fault (p := 33) (v := 249) (by decide +kernel)) rfl
theorem dX11_fault_34 : decode cX11_fault 34 = .ok (.goto 5, 3) := dc_167 (byA eNcX11_fault (p := 34) (v := 167) (by decide +kernel)) (byA eNcX11_fault (p := 35) (v := 0) (by decide +kernel)) (byA eNcX11_fault (p := 36) (v := 5) (by decide +kernel)) (by decide +kernel)
theorem dX11_fault_37 : decode cX11_fault 37 = .ok (.bipush (-2), 2) := dc_16 (byA eNcX11_fault (p := 37) (v := 16) (by decide +kernel)) (byA eNcX11_fault (p := 38) (v := 254) (by decide +kernel)) (by decide +kernel)
theorem dX11_fault_39 : decode cX11_fault 39 = .ok (.ireturn, 1) := dc_172 (byA eNcX11_fault (p := 39) (v := 172) (by decide +kernel))
def X11_fault (l1 : Int) (μ : Mm) : Rs := if l1 = 0 then (bd (X11_readCellar μ) fun v10 μ11 => some (v10, μ11)) else (if l1 = 1 then (bd (X11_readPlay 5 μ) fun v7 μ8 => some (v7, μ8)) else (if l1 = 2 then (bd (X11_readLaw 4 μ) fun v4 μ5 => some (v4, μ5)) else (some ((-2), μ))))
set_option maxHeartbeats 4000000 in
set_option maxRecDepth 100000 in
theorem kX11_fault (d : Nat) (hd : 273 ≤ d) {l1 : Int} {μ : Mm} {r : Int} {μ' : Mm} (h : X11_fault l1 μ = some (r, μ')) : CC d mX11_fault [vR 70, vI l1] μ r μ' := by
  unfold X11_fault at h
  refine V_enter (by decide) (Nat.le_of_ble_eq_true rfl) ?_
  show VV d mX11_fault 0 [some (vR 70), some (vI l1)] [] μ r μ'
  refine V_iload_n (q := 1) dX11_fault_0 rfl rfl rfl ?_
  refine V_ifne (q := 11) (q2 := 4) dX11_fault_1 (by decide) rfl (fun hc1 => ?_) (fun hc1 => ?_)
  · have h := ifF hc1 h
    refine V_iload_n (q := 12) dX11_fault_11 rfl rfl rfl ?_
    refine V_iconst (q := 13) dX11_fault_12 rfl rfl ?_
    refine V_icmpne (q := 24) (q2 := 16) dX11_fault_13 (by decide) rfl (fun hc2 => ?_) (fun hc2 => ?_)
    · have h := ifF hc2 h
      refine V_iload_n (q := 25) dX11_fault_24 rfl rfl rfl ?_
      refine V_iconst (q := 26) dX11_fault_25 rfl rfl ?_
      refine V_icmpne (q := 37) (q2 := 29) dX11_fault_26 (by decide) rfl (fun hc3 => ?_) (fun hc3 => ?_)
      · have h := ifF hc3 h
        refine V_bipush (q := 39) dX11_fault_37 rfl rfl rfl ?_
        exact V_iret rfl h dX11_fault_39
      · have h := ifT hc3 h
        refine V_aload_n (q := 30) dX11_fault_29 rfl rfl rfl ?_
        refine V_iconst (q := 31) dX11_fault_30 rfl rfl ?_
        obtain ⟨v4, μ5, hc6, h⟩ := bd_i h
        refine V_cV1 (q := 34) (v := vI v4) (kX11_readLaw (d - 1) (by omega) hc6) (by omega) mv_X11_249 rfl rfl rfl rfl rfl rfl dX11_fault_31 rfl ?_
        refine V_goto (q := 39) dX11_fault_34 (by decide) ?_
        exact V_iret rfl h dX11_fault_39
    · have h := ifT hc2 h
      refine V_aload_n (q := 17) dX11_fault_16 rfl rfl rfl ?_
      refine V_iconst (q := 18) dX11_fault_17 rfl rfl ?_
      obtain ⟨v7, μ8, hc9, h⟩ := bd_i h
      refine V_cV1 (q := 21) (v := vI v7) (kX11_readPlay (d - 1) (by omega) hc9) (by omega) mv_X11_246 rfl rfl rfl rfl rfl rfl dX11_fault_18 rfl ?_
      refine V_goto (q := 39) dX11_fault_21 (by decide) ?_
      exact V_iret rfl h dX11_fault_39
  · have h := ifT hc1 h
    refine V_aload_n (q := 5) dX11_fault_4 rfl rfl rfl ?_
    obtain ⟨v10, μ11, hc12, h⟩ := bd_i h
    refine V_cV1 (q := 8) (v := vI v10) (kX11_readCellar (d - 1) (by omega) hc12) (by omega) mv_X11_243 rfl rfl rfl rfl rfl rfl dX11_fault_5 rfl ?_
    refine V_goto (q := 39) dX11_fault_8 (by decide) ?_
    exact V_iret rfl h dX11_fault_39
abbrev mX11_isPlace : Mth := (yX11_isPlace, cX11_isPlace, 2, some .boolean)
set_option maxRecDepth 100000 in
theorem mi_X11_isPlace : Cond.instanceMethod yX11_isPlace ∈ tG ∧ Cond.selects yX11_isPlace.cls yX11_isPlace yX11_isPlace ∈ tG ∧ Cond.initialized yX11_isPlace.cls ∈ tG ∧ Cond.code yX11_isPlace cX11_isPlace 2 (some .boolean) ∈ tG ∧ (yX11_isPlace.cls ≠ "java/lang/invoke/MethodHandle" ∧ yX11_isPlace.cls ≠ "java/lang/invoke/VarHandle" ∧ (parseMethodDescriptor yX11_isPlace.desc).map (fun d => d.parameters.length) = some 1) ∧ 2 ≤ 60 := ⟨(tG_of (tb6 (List.mem_of_getElem? (i := 166) rfl)) (by decide +kernel)), (tG_of (List.mem_of_getElem? (i := 71) (by decide +kernel)) (by decide +kernel)), (tG_of (tb1 (List.mem_of_getElem? (i := 12) rfl)) (by decide +kernel)), (tG_of (tb6 (List.mem_of_getElem? (i := 167) rfl)) (by decide +kernel)), ⟨by decide, by decide, by decide +kernel⟩, by decide⟩
set_option maxRecDepth 100000 in
theorem mv_X11_258 : mV RX11 258 mX11_isPlace 1 := ⟨(tG_of (tb6 (List.mem_of_getElem? (i := 164) rfl)) (by decide +kernel)), mi_X11_isPlace⟩
theorem dX11_isPlace_0 : decode cX11_isPlace 0 = .ok (.iload_n 1, 1) := dc_27 (byA eNcX11_isPlace (p := 0) (v := 27) (by decide +kernel))
theorem dX11_isPlace_1 : decode cX11_isPlace 1 = .ok (.ifCond .lt 29, 3) := dc_155 (byA eNcX11_isPlace (p := 1) (v := 155) (by decide +kernel)) (byA eNcX11_isPlace (p := 2) (v := 0) (by decide +kernel)) (byA eNcX11_isPlace (p := 3) (v := 29) (by decide +kernel)) (by decide +kernel)
theorem dX11_isPlace_4 : decode cX11_isPlace 4 = .ok (.iload_n 1, 1) := dc_27 (byA eNcX11_isPlace (p := 4) (v := 27) (by decide +kernel))
theorem dX11_isPlace_5 : decode cX11_isPlace 5 = .ok (.bipush 10, 2) := dc_16 (byA eNcX11_isPlace (p := 5) (v := 16) (by decide +kernel)) (byA eNcX11_isPlace (p := 6) (v := 10) (by decide +kernel)) (by decide +kernel)
theorem dX11_isPlace_7 : decode cX11_isPlace 7 = .ok (.idiv, 1) := dc_108 (byA eNcX11_isPlace (p := 7) (v := 108) (by decide +kernel))
theorem dX11_isPlace_8 : decode cX11_isPlace 8 = .ok (.aload_n 0, 1) := dc_42 (byA eNcX11_isPlace (p := 8) (v := 42) (by decide +kernel))
theorem dX11_isPlace_9 : decode cX11_isPlace 9 = .ok (.getfield 252, 3) := dc_180 (byA eNcX11_isPlace (p := 9) (v := 180) (by decide +kernel)) (byA eNcX11_isPlace (p := 10) (v := 0) (by decide +kernel)) (byA eNcX11_isPlace (p := 11) (v := 252) (by decide +kernel)) rfl
theorem dX11_isPlace_12 : decode cX11_isPlace 12 = .ok (.if_icmp .ge 18, 3) := dc_162 (byA eNcX11_isPlace (p := 12) (v := 162) (by decide +kernel)) (byA eNcX11_isPlace (p := 13) (v := 0) (by decide +kernel)) (byA eNcX11_isPlace (p := 14) (v := 18) (by decide +kernel)) (by decide +kernel)
theorem dX11_isPlace_15 : decode cX11_isPlace 15 = .ok (.iload_n 1, 1) := dc_27 (byA eNcX11_isPlace (p := 15) (v := 27) (by decide +kernel))
theorem dX11_isPlace_16 : decode cX11_isPlace 16 = .ok (.bipush 10, 2) := dc_16 (byA eNcX11_isPlace (p := 16) (v := 16) (by decide +kernel)) (byA eNcX11_isPlace (p := 17) (v := 10) (by decide +kernel)) (by decide +kernel)
theorem dX11_isPlace_18 : decode cX11_isPlace 18 = .ok (.irem, 1) := dc_112 (byA eNcX11_isPlace (p := 18) (v := 112) (by decide +kernel))
theorem dX11_isPlace_19 : decode cX11_isPlace 19 = .ok (.aload_n 0, 1) := dc_42 (byA eNcX11_isPlace (p := 19) (v := 42) (by decide +kernel))
theorem dX11_isPlace_20 : decode cX11_isPlace 20 = .ok (.getfield 255, 3) := dc_180 (byA eNcX11_isPlace (p := 20) (v := 180) (by decide +kernel)) (byA eNcX11_isPlace (p := 21) (v := 0) (by decide +kernel)) (byA eNcX11_isPlace (p := 22) (v := 255) (by decide +kernel)) rfl
theorem dX11_isPlace_23 : decode cX11_isPlace 23 = .ok (.if_icmp .ge 7, 3) := dc_162 (byA eNcX11_isPlace (p := 23) (v := 162) (by decide +kernel)) (byA eNcX11_isPlace (p := 24) (v := 0) (by decide +kernel)) (byA eNcX11_isPlace (p := 25) (v := 7) (by decide +kernel)) (by decide +kernel)
theorem dX11_isPlace_26 : decode cX11_isPlace 26 = .ok (.iconst 1, 1) := dc_4 (byA eNcX11_isPlace (p := 26) (v := 4) (by decide +kernel))
theorem dX11_isPlace_27 : decode cX11_isPlace 27 = .ok (.goto 4, 3) := dc_167 (byA eNcX11_isPlace (p := 27) (v := 167) (by decide +kernel)) (byA eNcX11_isPlace (p := 28) (v := 0) (by decide +kernel)) (byA eNcX11_isPlace (p := 29) (v := 4) (by decide +kernel)) (by decide +kernel)
theorem dX11_isPlace_30 : decode cX11_isPlace 30 = .ok (.iconst 0, 1) := dc_3 (byA eNcX11_isPlace (p := 30) (v := 3) (by decide +kernel))
theorem dX11_isPlace_31 : decode cX11_isPlace 31 = .ok (.ireturn, 1) := dc_172 (byA eNcX11_isPlace (p := 31) (v := 172) (by decide +kernel))
def X11_isPlace (l1 : Int) (μ : Mm) : Rs := if l1 < 0 then (some (0, μ)) else (if (μ 70 23) ≤ (iD l1 10) then (some (0, μ)) else (if (μ 70 24) ≤ (iR l1 10) then (some (0, μ)) else (some (1, μ))))
set_option maxHeartbeats 4000000 in
set_option maxRecDepth 100000 in
theorem kX11_isPlace (d : Nat) (hd : 1 ≤ d) {l1 : Int} {μ : Mm} {r : Int} {μ' : Mm} (h : X11_isPlace l1 μ = some (r, μ')) : CC d mX11_isPlace [vR 70, vI l1] μ r μ' := by
  unfold X11_isPlace at h
  refine V_enter (by decide) (Nat.le_of_ble_eq_true rfl) ?_
  show VV d mX11_isPlace 0 [some (vR 70), some (vI l1)] [] μ r μ'
  refine V_iload_n (q := 1) dX11_isPlace_0 rfl rfl rfl ?_
  refine V_iflt (q := 30) (q2 := 4) dX11_isPlace_1 (by decide) rfl (fun hc1 => ?_) (fun hc1 => ?_)
  · have h := ifT hc1 h
    refine V_iconst (q := 31) dX11_isPlace_30 rfl rfl ?_
    exact V_zret rfl (Or.inl rfl) h dX11_isPlace_31
  · have h := ifF hc1 h
    refine V_iload_n (q := 5) dX11_isPlace_4 rfl rfl rfl ?_
    refine V_bipush (q := 7) dX11_isPlace_5 rfl rfl rfl ?_
    refine V_idiv (q := 8) dX11_isPlace_7 (by decide) rfl ?_
    refine V_aload_n (q := 9) dX11_isPlace_8 rfl rfl rfl ?_
    refine V_getI (q := 12) fl_X11_252 rfl rfl rfl dX11_isPlace_9 rfl ?_
    refine V_icmpge (q := 30) (q2 := 15) dX11_isPlace_12 (by decide) rfl (fun hc2 => ?_) (fun hc2 => ?_)
    · have h := ifT hc2 h
      refine V_iconst (q := 31) dX11_isPlace_30 rfl rfl ?_
      exact V_zret rfl (Or.inl rfl) h dX11_isPlace_31
    · have h := ifF hc2 h
      refine V_iload_n (q := 16) dX11_isPlace_15 rfl rfl rfl ?_
      refine V_bipush (q := 18) dX11_isPlace_16 rfl rfl rfl ?_
      refine V_irem (q := 19) dX11_isPlace_18 (by decide) rfl ?_
      refine V_aload_n (q := 20) dX11_isPlace_19 rfl rfl rfl ?_
      refine V_getI (q := 23) fl_X11_255 rfl rfl rfl dX11_isPlace_20 rfl ?_
      refine V_icmpge (q := 30) (q2 := 26) dX11_isPlace_23 (by decide) rfl (fun hc3 => ?_) (fun hc3 => ?_)
      · have h := ifT hc3 h
        refine V_iconst (q := 31) dX11_isPlace_30 rfl rfl ?_
        exact V_zret rfl (Or.inl rfl) h dX11_isPlace_31
      · have h := ifF hc3 h
        refine V_iconst (q := 27) dX11_isPlace_26 rfl rfl ?_
        refine V_goto (q := 31) dX11_isPlace_27 (by decide) ?_
        exact V_zret rfl (Or.inr rfl) h dX11_isPlace_31
abbrev mX11_takeCellar : Mth := (yX11_takeCellar, cX11_takeCellar, 2, some .int)
set_option maxRecDepth 100000 in
theorem mi_X11_takeCellar : Cond.instanceMethod yX11_takeCellar ∈ tG ∧ Cond.selects yX11_takeCellar.cls yX11_takeCellar yX11_takeCellar ∈ tG ∧ Cond.initialized yX11_takeCellar.cls ∈ tG ∧ Cond.code yX11_takeCellar cX11_takeCellar 2 (some .int) ∈ tG ∧ (yX11_takeCellar.cls ≠ "java/lang/invoke/MethodHandle" ∧ yX11_takeCellar.cls ≠ "java/lang/invoke/VarHandle" ∧ (parseMethodDescriptor yX11_takeCellar.desc).map (fun d => d.parameters.length) = some 0) ∧ 2 ≤ 60 := ⟨(tG_of (tb6 (List.mem_of_getElem? (i := 162) rfl)) (by decide +kernel)), (tG_of (List.mem_of_getElem? (i := 70) (by decide +kernel)) (by decide +kernel)), (tG_of (tb1 (List.mem_of_getElem? (i := 12) rfl)) (by decide +kernel)), (tG_of (tb6 (List.mem_of_getElem? (i := 163) rfl)) (by decide +kernel)), ⟨by decide, by decide, by decide +kernel⟩, by decide⟩
set_option maxRecDepth 100000 in
theorem mv_X11_272 : mV RX11 272 mX11_takeCellar 0 := ⟨(tG_of (tb6 (List.mem_of_getElem? (i := 160) rfl)) (by decide +kernel)), mi_X11_takeCellar⟩
theorem dX11_takeCellar_0 : decode cX11_takeCellar 0 = .ok (.aload_n 0, 1) := dc_42 (byA eNcX11_takeCellar (p := 0) (v := 42) (by decide +kernel))
theorem dX11_takeCellar_1 : decode cX11_takeCellar 1 = .ok (.aload_n 0, 1) := dc_42 (byA eNcX11_takeCellar (p := 1) (v := 42) (by decide +kernel))
theorem dX11_takeCellar_2 : decode cX11_takeCellar 2 = .ok (.getfield 231, 3) := dc_180 (byA eNcX11_takeCellar (p := 2) (v := 180) (by decide +kernel)) (byA eNcX11_takeCellar (p := 3) (v := 0) (by decide +kernel)) (byA eNcX11_takeCellar (p := 4) (v := 231) (by decide +kernel)) rfl
theorem dX11_takeCellar_5 : decode cX11_takeCellar 5 = .ok (.putfield 252, 3) := dc_181 (byA eNcX11_takeCellar (p := 5) (v := 181) (by decide +kernel)) (byA eNcX11_takeCellar (p := 6) (v := 0) (by decide +kernel)) (byA eNcX11_takeCellar (p := 7) (v := 252) (by decide +kernel)) rfl
theorem dX11_takeCellar_8 : decode cX11_takeCellar 8 = .ok (.aload_n 0, 1) := dc_42 (byA eNcX11_takeCellar (p := 8) (v := 42) (by decide +kernel))
theorem dX11_takeCellar_9 : decode cX11_takeCellar 9 = .ok (.aload_n 0, 1) := dc_42 (byA eNcX11_takeCellar (p := 9) (v := 42) (by decide +kernel))
theorem dX11_takeCellar_10 : decode cX11_takeCellar 10 = .ok (.getfield 234, 3) := dc_180 (byA eNcX11_takeCellar (p := 10) (v := 180) (by decide +kernel)) (byA eNcX11_takeCellar (p := 11) (v := 0) (by decide +kernel)) (byA eNcX11_takeCellar (p := 12) (v := 234) (by decide +kernel)) rfl
theorem dX11_takeCellar_13 : decode cX11_takeCellar 13 = .ok (.putfield 255, 3) := dc_181 (byA eNcX11_takeCellar (p := 13) (v := 181) (by decide +kernel)) (byA eNcX11_takeCellar (p := 14) (v := 0) (by decide +kernel)) (byA eNcX11_takeCellar (p := 15) (v := 255) (by decide +kernel)) rfl
theorem dX11_takeCellar_16 : decode cX11_takeCellar 16 = .ok (.iconst 0, 1) := dc_3 (byA eNcX11_takeCellar (p := 16) (v := 3) (by decide +kernel))
theorem dX11_takeCellar_17 : decode cX11_takeCellar 17 = .ok (.istore_n 1, 1) := dc_60 (byA eNcX11_takeCellar (p := 17) (v := 60) (by decide +kernel))
theorem dX11_takeCellar_18 : decode cX11_takeCellar 18 = .ok (.iload_n 1, 1) := dc_27 (byA eNcX11_takeCellar (p := 18) (v := 27) (by decide +kernel))
theorem dX11_takeCellar_19 : decode cX11_takeCellar 19 = .ok (.bipush 60, 2) := dc_16 (byA eNcX11_takeCellar (p := 19) (v := 16) (by decide +kernel)) (byA eNcX11_takeCellar (p := 20) (v := 60) (by decide +kernel)) (by decide +kernel)
theorem dX11_takeCellar_21 : decode cX11_takeCellar 21 = .ok (.if_icmp .ge 33, 3) := dc_162 (byA eNcX11_takeCellar (p := 21) (v := 162) (by decide +kernel)) (byA eNcX11_takeCellar (p := 22) (v := 0) (by decide +kernel)) (byA eNcX11_takeCellar (p := 23) (v := 33) (by decide +kernel)) (by decide +kernel)
theorem dX11_takeCellar_24 : decode cX11_takeCellar 24 = .ok (.aload_n 0, 1) := dc_42 (byA eNcX11_takeCellar (p := 24) (v := 42) (by decide +kernel))
theorem dX11_takeCellar_25 : decode cX11_takeCellar 25 = .ok (.getfield 43, 3) := dc_180 (byA eNcX11_takeCellar (p := 25) (v := 180) (by decide +kernel)) (byA eNcX11_takeCellar (p := 26) (v := 0) (by decide +kernel)) (byA eNcX11_takeCellar (p := 27) (v := 43) (by decide +kernel)) rfl
theorem dX11_takeCellar_28 : decode cX11_takeCellar 28 = .ok (.iload_n 1, 1) := dc_27 (byA eNcX11_takeCellar (p := 28) (v := 27) (by decide +kernel))
theorem dX11_takeCellar_29 : decode cX11_takeCellar 29 = .ok (.aload_n 0, 1) := dc_42 (byA eNcX11_takeCellar (p := 29) (v := 42) (by decide +kernel))
theorem dX11_takeCellar_30 : decode cX11_takeCellar 30 = .ok (.iload_n 1, 1) := dc_27 (byA eNcX11_takeCellar (p := 30) (v := 27) (by decide +kernel))
theorem dX11_takeCellar_31 : decode cX11_takeCellar 31 = .ok (.invokevirtual 258, 3) := dc_182 (byA eNcX11_takeCellar (p := 31) (v := 182) (by decide +kernel)) (byA eNcX11_takeCellar (p := 32) (v := 1) (by decide +kernel)) (byA eNcX11_takeCellar (p := 33) (v := 2) (by decide +kernel)) rfl
theorem dX11_takeCellar_34 : decode cX11_takeCellar 34 = .ok (.ifCond .eq 12, 3) := dc_153 (byA eNcX11_takeCellar (p := 34) (v := 153) (by decide +kernel)) (byA eNcX11_takeCellar (p := 35) (v := 0) (by decide +kernel)) (byA eNcX11_takeCellar (p := 36) (v := 12) (by decide +kernel)) (by decide +kernel)
theorem dX11_takeCellar_37 : decode cX11_takeCellar 37 = .ok (.aload_n 0, 1) := dc_42 (byA eNcX11_takeCellar (p := 37) (v := 42) (by decide +kernel))
theorem dX11_takeCellar_38 : decode cX11_takeCellar 38 = .ok (.getfield 40, 3) := dc_180 (byA eNcX11_takeCellar (p := 38) (v := 180) (by decide +kernel)) (byA eNcX11_takeCellar (p := 39) (v := 0) (by decide +kernel)) (byA eNcX11_takeCellar (p := 40) (v := 40) (by decide +kernel)) rfl
theorem dX11_takeCellar_41 : decode cX11_takeCellar 41 = .ok (.iload_n 1, 1) := dc_27 (byA eNcX11_takeCellar (p := 41) (v := 27) (by decide +kernel))
theorem dX11_takeCellar_42 : decode cX11_takeCellar 42 = .ok (.iaload, 1) := dc_46 (byA eNcX11_takeCellar (p := 42) (v := 46) (by decide +kernel))
theorem dX11_takeCellar_43 : decode cX11_takeCellar 43 = .ok (.goto 4, 3) := dc_167 (byA eNcX11_takeCellar (p := 43) (v := 167) (by decide +kernel)) (byA eNcX11_takeCellar (p := 44) (v := 0) (by decide +kernel)) (byA eNcX11_takeCellar (p := 45) (v := 4) (by decide +kernel)) (by decide +kernel)
theorem dX11_takeCellar_46 : decode cX11_takeCellar 46 = .ok (.iconst 1, 1) := dc_4 (byA eNcX11_takeCellar (p := 46) (v := 4) (by decide +kernel))
theorem dX11_takeCellar_47 : decode cX11_takeCellar 47 = .ok (.iastore, 1) := dc_79 (byA eNcX11_takeCellar (p := 47) (v := 79) (by decide +kernel))
theorem dX11_takeCellar_48 : decode cX11_takeCellar 48 = .ok (.iinc 1 1, 3) := dc_132 (byA eNcX11_takeCellar (p := 48) (v := 132) (by decide +kernel)) (byA eNcX11_takeCellar (p := 49) (v := 1) (by decide +kernel)) (byA eNcX11_takeCellar (p := 50) (v := 1) (by decide +kernel)) (by decide +kernel)
theorem dX11_takeCellar_51 : decode cX11_takeCellar 51 = .ok (.goto (-33), 3) := dc_167 (byA eNcX11_takeCellar (p := 51) (v := 167) (by decide +kernel)) (byA eNcX11_takeCellar (p := 52) (v := 255) (by decide +kernel)) (byA eNcX11_takeCellar (p := 53) (v := 223) (by decide +kernel)) (by decide +kernel)
theorem dX11_takeCellar_54 : decode cX11_takeCellar 54 = .ok (.iconst 0, 1) := dc_3 (byA eNcX11_takeCellar (p := 54) (v := 3) (by decide +kernel))
theorem dX11_takeCellar_55 : decode cX11_takeCellar 55 = .ok (.istore_n 1, 1) := dc_60 (byA eNcX11_takeCellar (p := 55) (v := 60) (by decide +kernel))
theorem dX11_takeCellar_56 : decode cX11_takeCellar 56 = .ok (.iload_n 1, 1) := dc_27 (byA eNcX11_takeCellar (p := 56) (v := 27) (by decide +kernel))
theorem dX11_takeCellar_57 : decode cX11_takeCellar 57 = .ok (.bipush 8, 2) := dc_16 (byA eNcX11_takeCellar (p := 57) (v := 16) (by decide +kernel)) (byA eNcX11_takeCellar (p := 58) (v := 8) (by decide +kernel)) (by decide +kernel)
theorem dX11_takeCellar_59 : decode cX11_takeCellar 59 = .ok (.if_icmp .ge 16, 3) := dc_162 (byA eNcX11_takeCellar (p := 59) (v := 162) (by decide +kernel)) (byA eNcX11_takeCellar (p := 60) (v := 0) (by decide +kernel)) (byA eNcX11_takeCellar (p := 61) (v := 16) (by decide +kernel)) (by decide +kernel)
theorem dX11_takeCellar_62 : decode cX11_takeCellar 62 = .ok (.aload_n 0, 1) := dc_42 (byA eNcX11_takeCellar (p := 62) (v := 42) (by decide +kernel))
theorem dX11_takeCellar_63 : decode cX11_takeCellar 63 = .ok (.getfield 55, 3) := dc_180 (byA eNcX11_takeCellar (p := 63) (v := 180) (by decide +kernel)) (byA eNcX11_takeCellar (p := 64) (v := 0) (by decide +kernel)) (byA eNcX11_takeCellar (p := 65) (v := 55) (by decide +kernel)) rfl
theorem dX11_takeCellar_66 : decode cX11_takeCellar 66 = .ok (.iload_n 1, 1) := dc_27 (byA eNcX11_takeCellar (p := 66) (v := 27) (by decide +kernel))
theorem dX11_takeCellar_67 : decode cX11_takeCellar 67 = .ok (.iconst 3, 1) := dc_6 (byA eNcX11_takeCellar (p := 67) (v := 6) (by decide +kernel))
theorem dX11_takeCellar_68 : decode cX11_takeCellar 68 = .ok (.iastore, 1) := dc_79 (byA eNcX11_takeCellar (p := 68) (v := 79) (by decide +kernel))
theorem dX11_takeCellar_69 : decode cX11_takeCellar 69 = .ok (.iinc 1 1, 3) := dc_132 (byA eNcX11_takeCellar (p := 69) (v := 132) (by decide +kernel)) (byA eNcX11_takeCellar (p := 70) (v := 1) (by decide +kernel)) (byA eNcX11_takeCellar (p := 71) (v := 1) (by decide +kernel)) (by decide +kernel)
theorem dX11_takeCellar_72 : decode cX11_takeCellar 72 = .ok (.goto (-16), 3) := dc_167 (byA eNcX11_takeCellar (p := 72) (v := 167) (by decide +kernel)) (byA eNcX11_takeCellar (p := 73) (v := 255) (by decide +kernel)) (byA eNcX11_takeCellar (p := 74) (v := 240) (by decide +kernel)) (by decide +kernel)
theorem dX11_takeCellar_75 : decode cX11_takeCellar 75 = .ok (.aload_n 0, 1) := dc_42 (byA eNcX11_takeCellar (p := 75) (v := 42) (by decide +kernel))
theorem dX11_takeCellar_76 : decode cX11_takeCellar 76 = .ok (.iconst 1, 1) := dc_4 (byA eNcX11_takeCellar (p := 76) (v := 4) (by decide +kernel))
theorem dX11_takeCellar_77 : decode cX11_takeCellar 77 = .ok (.putfield 58, 3) := dc_181 (byA eNcX11_takeCellar (p := 77) (v := 181) (by decide +kernel)) (byA eNcX11_takeCellar (p := 78) (v := 0) (by decide +kernel)) (byA eNcX11_takeCellar (p := 79) (v := 58) (by decide +kernel)) rfl
theorem dX11_takeCellar_80 : decode cX11_takeCellar 80 = .ok (.aload_n 0, 1) := dc_42 (byA eNcX11_takeCellar (p := 80) (v := 42) (by decide +kernel))
theorem dX11_takeCellar_81 : decode cX11_takeCellar 81 = .ok (.iconst 0, 1) := dc_3 (byA eNcX11_takeCellar (p := 81) (v := 3) (by decide +kernel))
theorem dX11_takeCellar_82 : decode cX11_takeCellar 82 = .ok (.putfield 261, 3) := dc_181 (byA eNcX11_takeCellar (p := 82) (v := 181) (by decide +kernel)) (byA eNcX11_takeCellar (p := 83) (v := 1) (by decide +kernel)) (byA eNcX11_takeCellar (p := 84) (v := 5) (by decide +kernel)) rfl
theorem dX11_takeCellar_85 : decode cX11_takeCellar 85 = .ok (.aload_n 0, 1) := dc_42 (byA eNcX11_takeCellar (p := 85) (v := 42) (by decide +kernel))
theorem dX11_takeCellar_86 : decode cX11_takeCellar 86 = .ok (.iconst 0, 1) := dc_3 (byA eNcX11_takeCellar (p := 86) (v := 3) (by decide +kernel))
theorem dX11_takeCellar_87 : decode cX11_takeCellar 87 = .ok (.putfield 264, 3) := dc_181 (byA eNcX11_takeCellar (p := 87) (v := 181) (by decide +kernel)) (byA eNcX11_takeCellar (p := 88) (v := 1) (by decide +kernel)) (byA eNcX11_takeCellar (p := 89) (v := 8) (by decide +kernel)) rfl
theorem dX11_takeCellar_90 : decode cX11_takeCellar 90 = .ok (.aload_n 0, 1) := dc_42 (byA eNcX11_takeCellar (p := 90) (v := 42) (by decide +kernel))
theorem dX11_takeCellar_91 : decode cX11_takeCellar 91 = .ok (.getfield 224, 3) := dc_180 (byA eNcX11_takeCellar (p := 91) (v := 180) (by decide +kernel)) (byA eNcX11_takeCellar (p := 92) (v := 0) (by decide +kernel)) (byA eNcX11_takeCellar (p := 93) (v := 224) (by decide +kernel)) rfl
theorem dX11_takeCellar_94 : decode cX11_takeCellar 94 = .ok (.invokestatic 267, 3) := dc_184 (byA eNcX11_takeCellar (p := 94) (v := 184) (by decide +kernel)) (byA eNcX11_takeCellar (p := 95) (v := 1) (by decide +kernel)) (byA eNcX11_takeCellar (p := 96) (v := 11) (by decide +kernel)) rfl
theorem dX11_takeCellar_97 : decode cX11_takeCellar 97 = .ok (.ireturn, 1) := dc_172 (byA eNcX11_takeCellar (p := 97) (v := 172) (by decide +kernel))
def X11_takeCellar_L18 (k54 : Mm → Rs) : Nat → Int → Mm → Rs
  | 0, _, _ => none
  | n + 1, l1, μ => if 60 ≤ l1 then (k54 μ) else (bd (X11_isPlace l1 μ) fun v4 μ5 => if v4 = 0 then (stA μ5 82 l1 1 fun μ8 => X11_takeCellar_L18 k54 n (iA l1 1) μ8) else (ldA μ5 81 l1 fun v10 => stA μ5 82 l1 v10 fun μ12 => X11_takeCellar_L18 k54 n (iA l1 1) μ12))
def X11_takeCellar_L56 (k75 : Mm → Rs) : Nat → Int → Mm → Rs
  | 0, _, _ => none
  | n + 1, l1, μ => if 8 ≤ l1 then (k75 μ) else (stA μ 86 l1 3 fun μ16 => X11_takeCellar_L56 k75 n (iA l1 1) μ16)
def X11_takeCellar (μ : Mm) : Rs := sF μ 70 23 (μ 70 18) fun μ1 => sF μ1 70 24 (μ1 70 19) fun μ2 => X11_takeCellar_L18 (fun μ14 => X11_takeCellar_L56 (fun μ18 => sF μ18 70 30 1 fun μ19 => sF μ19 70 45 0 fun μ20 => sZ μ20 70 53 0 fun μ21 => bd (J6_bitCount_0f7a4 (μ21 70 20) μ21) fun v23 μ24 => some (v23, μ24)) FU 0 μ14) FU 0 μ2
set_option maxHeartbeats 4000000 in
set_option maxRecDepth 100000 in
theorem kX11_takeCellar_L18 (d : Nat) (hd : 2 ≤ d) {k54 : Mm → Rs} {r : Int} {μ' : Mm} (hk_54 : ∀ (μ1 : Mm), k54 μ1 = some (r, μ') → VV d mX11_takeCellar 54 [some (vR 70), none] [] μ1 r μ') : ∀ (n : Nat) {l1 : Int} {μ : Mm}, X11_takeCellar_L18 k54 n l1 μ = some (r, μ') → VV d mX11_takeCellar 18 [some (vR 70), some (vI l1)] [] μ r μ' := by
  intro n
  induction n with
  | zero => intro l1 μ h; rw [X11_takeCellar_L18] at h; cases h
  | succ n ih =>
    intro l1 μ h
    rw [X11_takeCellar_L18] at h
    refine V_iload_n (q := 19) dX11_takeCellar_18 rfl rfl rfl ?_
    refine V_bipush (q := 21) dX11_takeCellar_19 rfl rfl rfl ?_
    refine V_icmpge (q := 54) (q2 := 24) dX11_takeCellar_21 (by decide) rfl (fun hc3 => ?_) (fun hc3 => ?_)
    · have h := ifT hc3 h
      exact V_weak (hk_54 _ h) (sb_s rfl (sb_n sb_0))
    · have h := ifF hc3 h
      refine V_aload_n (q := 25) dX11_takeCellar_24 rfl rfl rfl ?_
      refine V_getO (q := 28) (t := 82) fl_X11_43 rfl rfl rfl rfl dX11_takeCellar_25 rfl ?_
      refine V_iload_n (q := 29) dX11_takeCellar_28 rfl rfl rfl ?_
      refine V_aload_n (q := 30) dX11_takeCellar_29 rfl rfl rfl ?_
      refine V_iload_n (q := 31) dX11_takeCellar_30 rfl rfl rfl ?_
      obtain ⟨v4, μ5, hc6, h⟩ := bd_i h
      refine V_cV1 (q := 34) (v := vI v4) (kX11_isPlace (d - 1) (by omega) hc6) (by omega) mv_X11_258 rfl rfl rfl rfl rfl rfl dX11_takeCellar_31 rfl ?_
      refine V_ifeq (q := 46) (q2 := 37) dX11_takeCellar_34 (by decide) rfl (fun hc7 => ?_) (fun hc7 => ?_)
      · have h := ifT hc7 h
        refine V_iconst (q := 47) dX11_takeCellar_46 rfl rfl ?_
        obtain ⟨hi9, h⟩ := stA_i h
        refine V_iastore (q := 48) rfl hi9 dX11_takeCellar_47 rfl ?_
        refine V_iinc (q := 51) dX11_takeCellar_48 rfl (Nat.le_of_ble_eq_true rfl) trivial rfl ?_
        refine V_goto (q := 18) dX11_takeCellar_51 (by decide) ?_
        exact V_weak (ih h) (sb_s rfl (sb_s rfl sb_0))
      · have h := ifF hc7 h
        refine V_aload_n (q := 38) dX11_takeCellar_37 rfl rfl rfl ?_
        refine V_getO (q := 41) (t := 81) fl_X11_40 rfl rfl rfl rfl dX11_takeCellar_38 rfl ?_
        refine V_iload_n (q := 42) dX11_takeCellar_41 rfl rfl rfl ?_
        obtain ⟨hi11, h⟩ := ldA_i h
        refine V_iaload (q := 43) rfl hi11 dX11_takeCellar_42 rfl ?_
        refine V_goto (q := 47) dX11_takeCellar_43 (by decide) ?_
        obtain ⟨hi13, h⟩ := stA_i h
        refine V_iastore (q := 48) rfl hi13 dX11_takeCellar_47 rfl ?_
        refine V_iinc (q := 51) dX11_takeCellar_48 rfl (Nat.le_of_ble_eq_true rfl) trivial rfl ?_
        refine V_goto (q := 18) dX11_takeCellar_51 (by decide) ?_
        exact V_weak (ih h) (sb_s rfl (sb_s rfl sb_0))
set_option maxHeartbeats 4000000 in
set_option maxRecDepth 100000 in
theorem kX11_takeCellar_L56 (d : Nat) (hd : 2 ≤ d) {k75 : Mm → Rs} {r : Int} {μ' : Mm} (hk_75 : ∀ (μ1 : Mm), k75 μ1 = some (r, μ') → VV d mX11_takeCellar 75 [some (vR 70), none] [] μ1 r μ') : ∀ (n : Nat) {l1 : Int} {μ : Mm}, X11_takeCellar_L56 k75 n l1 μ = some (r, μ') → VV d mX11_takeCellar 56 [some (vR 70), some (vI l1)] [] μ r μ' := by
  intro n
  induction n with
  | zero => intro l1 μ h; rw [X11_takeCellar_L56] at h; cases h
  | succ n ih =>
    intro l1 μ h
    rw [X11_takeCellar_L56] at h
    refine V_iload_n (q := 57) dX11_takeCellar_56 rfl rfl rfl ?_
    refine V_bipush (q := 59) dX11_takeCellar_57 rfl rfl rfl ?_
    refine V_icmpge (q := 75) (q2 := 62) dX11_takeCellar_59 (by decide) rfl (fun hc15 => ?_) (fun hc15 => ?_)
    · have h := ifT hc15 h
      exact V_weak (hk_75 _ h) (sb_s rfl (sb_n sb_0))
    · have h := ifF hc15 h
      refine V_aload_n (q := 63) dX11_takeCellar_62 rfl rfl rfl ?_
      refine V_getO (q := 66) (t := 86) fl_X11_55 rfl rfl rfl rfl dX11_takeCellar_63 rfl ?_
      refine V_iload_n (q := 67) dX11_takeCellar_66 rfl rfl rfl ?_
      refine V_iconst (q := 68) dX11_takeCellar_67 rfl rfl ?_
      obtain ⟨hi17, h⟩ := stA_i h
      refine V_iastore (q := 69) rfl hi17 dX11_takeCellar_68 rfl ?_
      refine V_iinc (q := 72) dX11_takeCellar_69 rfl (Nat.le_of_ble_eq_true rfl) trivial rfl ?_
      refine V_goto (q := 56) dX11_takeCellar_72 (by decide) ?_
      exact V_weak (ih h) (sb_s rfl (sb_s rfl sb_0))
set_option maxHeartbeats 4000000 in
set_option maxRecDepth 100000 in
theorem kX11_takeCellar (d : Nat) (hd : 2 ≤ d) {μ : Mm} {r : Int} {μ' : Mm} (h : X11_takeCellar μ = some (r, μ')) : CC d mX11_takeCellar [vR 70] μ r μ' := by
  unfold X11_takeCellar at h
  refine V_enter (by decide) (Nat.le_of_ble_eq_true rfl) ?_
  show VV d mX11_takeCellar 0 [some (vR 70), none] [] μ r μ'
  refine V_aload_n (q := 1) dX11_takeCellar_0 rfl rfl rfl ?_
  refine V_aload_n (q := 2) dX11_takeCellar_1 rfl rfl rfl ?_
  refine V_getI (q := 5) fl_X11_231 rfl rfl rfl dX11_takeCellar_2 rfl ?_
  have h := sF_i h
  refine V_putI (q := 8) fl_X11_252 rfl rfl rfl dX11_takeCellar_5 rfl ?_
  refine V_aload_n (q := 9) dX11_takeCellar_8 rfl rfl rfl ?_
  refine V_aload_n (q := 10) dX11_takeCellar_9 rfl rfl rfl ?_
  refine V_getI (q := 13) fl_X11_234 rfl rfl rfl dX11_takeCellar_10 rfl ?_
  have h := sF_i h
  refine V_putI (q := 16) fl_X11_255 rfl rfl rfl dX11_takeCellar_13 rfl ?_
  refine V_iconst (q := 17) dX11_takeCellar_16 rfl rfl ?_
  refine V_istore_n (q := 18) dX11_takeCellar_17 rfl (Nat.le_of_ble_eq_true rfl) trivial rfl ?_
  refine V_weak (kX11_takeCellar_L18 d hd (fun μ14 h => ?_) FU h) (sb_s rfl (sb_s rfl sb_0))
  refine V_iconst (q := 55) dX11_takeCellar_54 rfl rfl ?_
  refine V_istore_n (q := 56) dX11_takeCellar_55 rfl (Nat.le_of_ble_eq_true rfl) trivial rfl ?_
  refine V_weak (kX11_takeCellar_L56 d hd (fun μ18 h => ?_) FU h) (sb_s rfl (sb_s rfl sb_0))
  refine V_aload_n (q := 76) dX11_takeCellar_75 rfl rfl rfl ?_
  refine V_iconst (q := 77) dX11_takeCellar_76 rfl rfl ?_
  have h := sF_i h
  refine V_putI (q := 80) fl_X11_58 rfl rfl rfl dX11_takeCellar_77 rfl ?_
  refine V_aload_n (q := 81) dX11_takeCellar_80 rfl rfl rfl ?_
  refine V_iconst (q := 82) dX11_takeCellar_81 rfl rfl ?_
  have h := sF_i h
  refine V_putI (q := 85) fl_X11_261 rfl rfl rfl dX11_takeCellar_82 rfl ?_
  refine V_aload_n (q := 86) dX11_takeCellar_85 rfl rfl rfl ?_
  refine V_iconst (q := 87) dX11_takeCellar_86 rfl rfl ?_
  obtain ⟨hz22, h⟩ := sZ_i h
  refine V_putZ (q := 90) fl_X11_264 rfl rfl rfl hz22 dX11_takeCellar_87 rfl ?_
  refine V_aload_n (q := 91) dX11_takeCellar_90 rfl rfl rfl ?_
  refine V_getI (q := 94) fl_X11_224 rfl rfl rfl dX11_takeCellar_91 rfl ?_
  obtain ⟨v23, μ24, hc25, h⟩ := bd_i h
  refine V_cS1 (q := 97) (v := vI v23) (kJ6_bitCount_0f7a4 (d - 1) (by omega) hc25) (by omega) mv_X11_267 rfl rfl rfl rfl dX11_takeCellar_94 rfl ?_
  exact V_iret rfl h dX11_takeCellar_97
abbrev mX11_text : Mth := (yX11_text, cX11_text, 2, some .int)
set_option maxRecDepth 100000 in
theorem mi_X11_text : Cond.instanceMethod yX11_text ∈ tG ∧ Cond.selects yX11_text.cls yX11_text yX11_text ∈ tG ∧ Cond.initialized yX11_text.cls ∈ tG ∧ Cond.code yX11_text cX11_text 2 (some .int) ∈ tG ∧ (yX11_text.cls ≠ "java/lang/invoke/MethodHandle" ∧ yX11_text.cls ≠ "java/lang/invoke/VarHandle" ∧ (parseMethodDescriptor yX11_text.desc).map (fun d => d.parameters.length) = some 1) ∧ 2 ≤ 60 := ⟨(tG_of (tb6 (List.mem_of_getElem? (i := 157) rfl)) (by decide +kernel)), (tG_of (tb6 (List.mem_of_getElem? (i := 158) rfl)) (by decide +kernel)), (tG_of (tb1 (List.mem_of_getElem? (i := 12) rfl)) (by decide +kernel)), (tG_of (tb6 (List.mem_of_getElem? (i := 159) rfl)) (by decide +kernel)), ⟨by decide, by decide, by decide +kernel⟩, by decide⟩
theorem dX11_text_0 : decode cX11_text 0 = .ok (.iload_n 1, 1) := dc_27 (byA eNcX11_text (p := 0) (v := 27) (by decide +kernel))
theorem dX11_text_1 : decode cX11_text 1 = .ok (.ifCond .ne 21, 3) := dc_154 (byA eNcX11_text (p := 1) (v := 154) (by decide +kernel)) (byA eNcX11_text (p := 2) (v := 0) (by decide +kernel)) (byA eNcX11_text (p := 3) (v := 21) (by decide +kernel)) (by decide +kernel)
theorem dX11_text_4 : decode cX11_text 4 = .ok (.aload_n 0, 1) := dc_42 (byA eNcX11_text (p := 4) (v := 42) (by decide +kernel))
theorem dX11_text_5 : decode cX11_text 5 = .ok (.invokevirtual 243, 3) := dc_182 (byA eNcX11_text (p := 5) (v := 182) (by decide +kernel)) (byA eNcX11_text (p := 6) (v := 0) (by decide +kernel)) (byA eNcX11_text (p := 7) (v := 243) (by decide +kernel)) rfl
theorem dX11_text_8 : decode cX11_text 8 = .ok (.iconst (-1), 1) := dc_2 (byA eNcX11_text (p := 8) (v := 2) (by decide +kernel))
theorem dX11_text_9 : decode cX11_text 9 = .ok (.if_icmp .ne 13, 3) := dc_160 (byA eNcX11_text (p := 9) (v := 160) (by decide +kernel)) (byA eNcX11_text (p := 10) (v := 0) (by decide +kernel)) (byA eNcX11_text (p := 11) (v := 13) (by decide +kernel)) (by decide +kernel)
theorem dX11_text_12 : decode cX11_text 12 = .ok (.aload_n 0, 1) := dc_42 (byA eNcX11_text (p := 12) (v := 42) (by decide +kernel))
theorem dX11_text_13 : decode cX11_text 13 = .ok (.iconst 0, 1) := dc_3 (byA eNcX11_text (p := 13) (v := 3) (by decide +kernel))
theorem dX11_text_14 : decode cX11_text 14 = .ok (.putfield 105, 3) := dc_181 (byA eNcX11_text (p := 14) (v := 181) (by decide +kernel)) (byA eNcX11_text (p := 15) (v := 0) (by decide +kernel)) (byA eNcX11_text (p := 16) (v := 105) (by decide +kernel)) rfl
theorem dX11_text_17 : decode cX11_text 17 = .ok (.aload_n 0, 1) := dc_42 (byA eNcX11_text (p := 17) (v := 42) (by decide +kernel))
theorem dX11_text_18 : decode cX11_text 18 = .ok (.invokevirtual 272, 3) := dc_182 (byA eNcX11_text (p := 18) (v := 182) (by decide +kernel)) (byA eNcX11_text (p := 19) (v := 1) (by decide +kernel)) (byA eNcX11_text (p := 20) (v := 16) (by decide +kernel)) rfl
theorem dX11_text_21 : decode cX11_text 21 = .ok (.ireturn, 1) := dc_172 (byA eNcX11_text (p := 21) (v := 172) (by decide +kernel))
theorem dX11_text_22 : decode cX11_text 22 = .ok (.iload_n 1, 1) := dc_27 (byA eNcX11_text (p := 22) (v := 27) (by decide +kernel))
theorem dX11_text_23 : decode cX11_text 23 = .ok (.iconst 1, 1) := dc_4 (byA eNcX11_text (p := 23) (v := 4) (by decide +kernel))
theorem dX11_text_24 : decode cX11_text 24 = .ok (.if_icmp .ne 45, 3) := dc_160 (byA eNcX11_text (p := 24) (v := 160) (by decide +kernel)) (byA eNcX11_text (p := 25) (v := 0) (by decide +kernel)) (byA eNcX11_text (p := 26) (v := 45) (by decide +kernel)) (by decide +kernel)
theorem dX11_text_27 : decode cX11_text 27 = .ok (.aload_n 0, 1) := dc_42 (byA eNcX11_text (p := 27) (v := 42) (by decide +kernel))
theorem dX11_text_28 : decode cX11_text 28 = .ok (.getfield 275, 3) := dc_180 (byA eNcX11_text (p := 28) (v := 180) (by decide +kernel)) (byA eNcX11_text (p := 29) (v := 1) (by decide +kernel)) (byA eNcX11_text (p := 30) (v := 19) (by decide +kernel)) rfl
theorem dX11_text_31 : decode cX11_text 31 = .ok (.iconst 5, 1) := dc_8 (byA eNcX11_text (p := 31) (v := 8) (by decide +kernel))
theorem dX11_text_32 : decode cX11_text 32 = .ok (.if_icmp .ge 37, 3) := dc_162 (byA eNcX11_text (p := 32) (v := 162) (by decide +kernel)) (byA eNcX11_text (p := 33) (v := 0) (by decide +kernel)) (byA eNcX11_text (p := 34) (v := 37) (by decide +kernel)) (by decide +kernel)
theorem dX11_text_35 : decode cX11_text 35 = .ok (.aload_n 0, 1) := dc_42 (byA eNcX11_text (p := 35) (v := 42) (by decide +kernel))
theorem dX11_text_36 : decode cX11_text 36 = .ok (.aload_n 0, 1) := dc_42 (byA eNcX11_text (p := 36) (v := 42) (by decide +kernel))
theorem dX11_text_37 : decode cX11_text 37 = .ok (.getfield 275, 3) := dc_180 (byA eNcX11_text (p := 37) (v := 180) (by decide +kernel)) (byA eNcX11_text (p := 38) (v := 1) (by decide +kernel)) (byA eNcX11_text (p := 39) (v := 19) (by decide +kernel)) rfl
theorem dX11_text_40 : decode cX11_text 40 = .ok (.invokevirtual 246, 3) := dc_182 (byA eNcX11_text (p := 40) (v := 182) (by decide +kernel)) (byA eNcX11_text (p := 41) (v := 0) (by decide +kernel)) (byA eNcX11_text (p := 42) (v := 246) (by decide +kernel)) rfl
theorem dX11_text_43 : decode cX11_text 43 = .ok (.iconst (-1), 1) := dc_2 (byA eNcX11_text (p := 43) (v := 2) (by decide +kernel))
theorem dX11_text_44 : decode cX11_text 44 = .ok (.if_icmp .ne 25, 3) := dc_160 (byA eNcX11_text (p := 44) (v := 160) (by decide +kernel)) (byA eNcX11_text (p := 45) (v := 0) (by decide +kernel)) (byA eNcX11_text (p := 46) (v := 25) (by decide +kernel)) (by decide +kernel)
theorem dX11_text_47 : decode cX11_text 47 = .ok (.aload_n 0, 1) := dc_42 (byA eNcX11_text (p := 47) (v := 42) (by decide +kernel))
theorem dX11_text_48 : decode cX11_text 48 = .ok (.iconst 0, 1) := dc_3 (byA eNcX11_text (p := 48) (v := 3) (by decide +kernel))
theorem dX11_text_49 : decode cX11_text 49 = .ok (.putfield 105, 3) := dc_181 (byA eNcX11_text (p := 49) (v := 181) (by decide +kernel)) (byA eNcX11_text (p := 50) (v := 0) (by decide +kernel)) (byA eNcX11_text (p := 51) (v := 105) (by decide +kernel)) rfl
theorem dX11_text_52 : decode cX11_text 52 = .ok (.aload_n 0, 1) := dc_42 (byA eNcX11_text (p := 52) (v := 42) (by decide +kernel))
theorem dX11_text_53 : decode cX11_text 53 = .ok (.dup, 1) := dc_89 (byA eNcX11_text (p := 53) (v := 89) (by decide +kernel))
theorem dX11_text_54 : decode cX11_text 54 = .ok (.getfield 275, 3) := dc_180 (byA eNcX11_text (p := 54) (v := 180) (by decide +kernel)) (byA eNcX11_text (p := 55) (v := 1) (by decide +kernel)) (byA eNcX11_text (p := 56) (v := 19) (by decide +kernel)) rfl
theorem dX11_text_57 : decode cX11_text 57 = .ok (.iconst 1, 1) := dc_4 (byA eNcX11_text (p := 57) (v := 4) (by decide +kernel))
theorem dX11_text_58 : decode cX11_text 58 = .ok (.iadd, 1) := dc_96 (byA eNcX11_text (p := 58) (v := 96) (by decide +kernel))
theorem dX11_text_59 : decode cX11_text 59 = .ok (.putfield 275, 3) := dc_181 (byA eNcX11_text (p := 59) (v := 181) (by decide +kernel)) (byA eNcX11_text (p := 60) (v := 1) (by decide +kernel)) (byA eNcX11_text (p := 61) (v := 19) (by decide +kernel)) rfl
theorem dX11_text_62 : decode cX11_text 62 = .ok (.aload_n 0, 1) := dc_42 (byA eNcX11_text (p := 62) (v := 42) (by decide +kernel))
theorem dX11_text_63 : decode cX11_text 63 = .ok (.getfield 275, 3) := dc_180 (byA eNcX11_text (p := 63) (v := 180) (by decide +kernel)) (byA eNcX11_text (p := 64) (v := 1) (by decide +kernel)) (byA eNcX11_text (p := 65) (v := 19) (by decide +kernel)) rfl
theorem dX11_text_66 : decode cX11_text 66 = .ok (.iconst 1, 1) := dc_4 (byA eNcX11_text (p := 66) (v := 4) (by decide +kernel))
theorem dX11_text_67 : decode cX11_text 67 = .ok (.isub, 1) := dc_100 (byA eNcX11_text (p := 67) (v := 100) (by decide +kernel))
theorem dX11_text_68 : decode cX11_text 68 = .ok (.ireturn, 1) := dc_172 (byA eNcX11_text (p := 68) (v := 172) (by decide +kernel))
theorem dX11_text_69 : decode cX11_text 69 = .ok (.iload_n 1, 1) := dc_27 (byA eNcX11_text (p := 69) (v := 27) (by decide +kernel))
theorem dX11_text_70 : decode cX11_text 70 = .ok (.iconst 2, 1) := dc_5 (byA eNcX11_text (p := 70) (v := 5) (by decide +kernel))
theorem dX11_text_71 : decode cX11_text 71 = .ok (.if_icmp .ne 45, 3) := dc_160 (byA eNcX11_text (p := 71) (v := 160) (by decide +kernel)) (byA eNcX11_text (p := 72) (v := 0) (by decide +kernel)) (byA eNcX11_text (p := 73) (v := 45) (by decide +kernel)) (by decide +kernel)
theorem dX11_text_74 : decode cX11_text 74 = .ok (.aload_n 0, 1) := dc_42 (byA eNcX11_text (p := 74) (v := 42) (by decide +kernel))
theorem dX11_text_75 : decode cX11_text 75 = .ok (.getfield 278, 3) := dc_180 (byA eNcX11_text (p := 75) (v := 180) (by decide +kernel)) (byA eNcX11_text (p := 76) (v := 1) (by decide +kernel)) (byA eNcX11_text (p := 77) (v := 22) (by decide +kernel)) rfl
theorem dX11_text_78 : decode cX11_text 78 = .ok (.iconst 4, 1) := dc_7 (byA eNcX11_text (p := 78) (v := 7) (by decide +kernel))
theorem dX11_text_79 : decode cX11_text 79 = .ok (.if_icmp .ge 37, 3) := dc_162 (byA eNcX11_text (p := 79) (v := 162) (by decide +kernel)) (byA eNcX11_text (p := 80) (v := 0) (by decide +kernel)) (byA eNcX11_text (p := 81) (v := 37) (by decide +kernel)) (by decide +kernel)
theorem dX11_text_82 : decode cX11_text 82 = .ok (.aload_n 0, 1) := dc_42 (byA eNcX11_text (p := 82) (v := 42) (by decide +kernel))
theorem dX11_text_83 : decode cX11_text 83 = .ok (.aload_n 0, 1) := dc_42 (byA eNcX11_text (p := 83) (v := 42) (by decide +kernel))
theorem dX11_text_84 : decode cX11_text 84 = .ok (.getfield 278, 3) := dc_180 (byA eNcX11_text (p := 84) (v := 180) (by decide +kernel)) (byA eNcX11_text (p := 85) (v := 1) (by decide +kernel)) (byA eNcX11_text (p := 86) (v := 22) (by decide +kernel)) rfl
theorem dX11_text_87 : decode cX11_text 87 = .ok (.invokevirtual 249, 3) := dc_182 (byA eNcX11_text (p := 87) (v := 182) (by decide +kernel)) (byA eNcX11_text (p := 88) (v := 0) (by decide +kernel)) (byA eNcX11_text (p := 89) (v := 249) (by decide +kernel)) rfl
theorem dX11_text_90 : decode cX11_text 90 = .ok (.iconst (-1), 1) := dc_2 (byA eNcX11_text (p := 90) (v := 2) (by decide +kernel))
theorem dX11_text_91 : decode cX11_text 91 = .ok (.if_icmp .ne 25, 3) := dc_160 (byA eNcX11_text (p := 91) (v := 160) (by decide +kernel)) (byA eNcX11_text (p := 92) (v := 0) (by decide +kernel)) (byA eNcX11_text (p := 93) (v := 25) (by decide +kernel)) (by decide +kernel)
theorem dX11_text_94 : decode cX11_text 94 = .ok (.aload_n 0, 1) := dc_42 (byA eNcX11_text (p := 94) (v := 42) (by decide +kernel))
theorem dX11_text_95 : decode cX11_text 95 = .ok (.iconst 0, 1) := dc_3 (byA eNcX11_text (p := 95) (v := 3) (by decide +kernel))
theorem dX11_text_96 : decode cX11_text 96 = .ok (.putfield 105, 3) := dc_181 (byA eNcX11_text (p := 96) (v := 181) (by decide +kernel)) (byA eNcX11_text (p := 97) (v := 0) (by decide +kernel)) (byA eNcX11_text (p := 98) (v := 105) (by decide +kernel)) rfl
theorem dX11_text_99 : decode cX11_text 99 = .ok (.aload_n 0, 1) := dc_42 (byA eNcX11_text (p := 99) (v := 42) (by decide +kernel))
theorem dX11_text_100 : decode cX11_text 100 = .ok (.dup, 1) := dc_89 (byA eNcX11_text (p := 100) (v := 89) (by decide +kernel))
theorem dX11_text_101 : decode cX11_text 101 = .ok (.getfield 278, 3) := dc_180 (byA eNcX11_text (p := 101) (v := 180) (by decide +kernel)) (byA eNcX11_text (p := 102) (v := 1) (by decide +kernel)) (byA eNcX11_text (p := 103) (v := 22) (by decide +kernel)) rfl
theorem dX11_text_104 : decode cX11_text 104 = .ok (.iconst 1, 1) := dc_4 (byA eNcX11_text (p := 104) (v := 4) (by decide +kernel))
theorem dX11_text_105 : decode cX11_text 105 = .ok (.iadd, 1) := dc_96 (byA eNcX11_text (p := 105) (v := 96) (by decide +kernel))
theorem dX11_text_106 : decode cX11_text 106 = .ok (.putfield 278, 3) := dc_181 (byA eNcX11_text (p := 106) (v := 181) (by decide +kernel)) (byA eNcX11_text (p := 107) (v := 1) (by decide +kernel)) (byA eNcX11_text (p := 108) (v := 22) (by decide +kernel)) rfl
theorem dX11_text_109 : decode cX11_text 109 = .ok (.aload_n 0, 1) := dc_42 (byA eNcX11_text (p := 109) (v := 42) (by decide +kernel))
theorem dX11_text_110 : decode cX11_text 110 = .ok (.getfield 278, 3) := dc_180 (byA eNcX11_text (p := 110) (v := 180) (by decide +kernel)) (byA eNcX11_text (p := 111) (v := 1) (by decide +kernel)) (byA eNcX11_text (p := 112) (v := 22) (by decide +kernel)) rfl
theorem dX11_text_113 : decode cX11_text 113 = .ok (.iconst 1, 1) := dc_4 (byA eNcX11_text (p := 113) (v := 4) (by decide +kernel))
theorem dX11_text_114 : decode cX11_text 114 = .ok (.isub, 1) := dc_100 (byA eNcX11_text (p := 114) (v := 100) (by decide +kernel))
theorem dX11_text_115 : decode cX11_text 115 = .ok (.ireturn, 1) := dc_172 (byA eNcX11_text (p := 115) (v := 172) (by decide +kernel))
theorem dX11_text_116 : decode cX11_text 116 = .ok (.iconst (-1), 1) := dc_2 (byA eNcX11_text (p := 116) (v := 2) (by decide +kernel))
theorem dX11_text_117 : decode cX11_text 117 = .ok (.ireturn, 1) := dc_172 (byA eNcX11_text (p := 117) (v := 172) (by decide +kernel))
def X11_text_J69 (l1 : Int) (μ : Mm) : Rs := if l1 = 2 then (if 4 ≤ (μ 70 13) then (some ((-1), μ)) else (bd (X11_readLaw (μ 70 13) μ) fun v5 μ6 => if v5 = (-1) then (sF μ6 70 2 0 fun μ9 => sF μ9 70 13 (iA (μ9 70 13) 1) fun μ10 => some (iS (μ10 70 13) 1, μ10)) else (some ((-1), μ6)))) else (some ((-1), μ))
def X11_text_J22 (l1 : Int) (μ : Mm) : Rs := if l1 = 1 then (if 5 ≤ (μ 70 28) then (X11_text_J69 l1 μ) else (bd (X11_readPlay (μ 70 28) μ) fun v12 μ13 => if v12 = (-1) then (sF μ13 70 2 0 fun μ16 => sF μ16 70 28 (iA (μ16 70 28) 1) fun μ17 => some (iS (μ17 70 28) 1, μ17)) else (X11_text_J69 l1 μ13))) else (X11_text_J69 l1 μ)
def X11_text (l1 : Int) (μ : Mm) : Rs := if l1 = 0 then (bd (X11_readCellar μ) fun v18 μ19 => if v18 = (-1) then (sF μ19 70 2 0 fun μ22 => bd (X11_takeCellar μ22) fun v23 μ24 => some (v23, μ24)) else (X11_text_J22 l1 μ19)) else (X11_text_J22 l1 μ)
set_option maxHeartbeats 4000000 in
set_option maxRecDepth 100000 in
theorem kX11_text_J69 (d : Nat) (hd : 273 ≤ d) {l1 : Int} {μ : Mm} {r : Int} {μ' : Mm} (h : X11_text_J69 l1 μ = some (r, μ')) : VV d mX11_text 69 [some (vR 70), some (vI l1)] [] μ r μ' := by
  unfold X11_text_J69 at h
  refine V_iload_n (q := 70) dX11_text_69 rfl rfl rfl ?_
  refine V_iconst (q := 71) dX11_text_70 rfl rfl ?_
  refine V_icmpne (q := 116) (q2 := 74) dX11_text_71 (by decide) rfl (fun hc3 => ?_) (fun hc3 => ?_)
  · have h := ifF hc3 h
    refine V_iconst (q := 117) dX11_text_116 rfl rfl ?_
    exact V_iret rfl h dX11_text_117
  · have h := ifT hc3 h
    refine V_aload_n (q := 75) dX11_text_74 rfl rfl rfl ?_
    refine V_getI (q := 78) fl_X11_278 rfl rfl rfl dX11_text_75 rfl ?_
    refine V_iconst (q := 79) dX11_text_78 rfl rfl ?_
    refine V_icmpge (q := 116) (q2 := 82) dX11_text_79 (by decide) rfl (fun hc4 => ?_) (fun hc4 => ?_)
    · have h := ifT hc4 h
      refine V_iconst (q := 117) dX11_text_116 rfl rfl ?_
      exact V_iret rfl h dX11_text_117
    · have h := ifF hc4 h
      refine V_aload_n (q := 83) dX11_text_82 rfl rfl rfl ?_
      refine V_aload_n (q := 84) dX11_text_83 rfl rfl rfl ?_
      refine V_getI (q := 87) fl_X11_278 rfl rfl rfl dX11_text_84 rfl ?_
      obtain ⟨v5, μ6, hc7, h⟩ := bd_i h
      refine V_cV1 (q := 90) (v := vI v5) (kX11_readLaw (d - 1) (by omega) hc7) (by omega) mv_X11_249 rfl rfl rfl rfl rfl rfl dX11_text_87 rfl ?_
      refine V_iconst (q := 91) dX11_text_90 rfl rfl ?_
      refine V_icmpne (q := 116) (q2 := 94) dX11_text_91 (by decide) rfl (fun hc8 => ?_) (fun hc8 => ?_)
      · have h := ifF hc8 h
        refine V_iconst (q := 117) dX11_text_116 rfl rfl ?_
        exact V_iret rfl h dX11_text_117
      · have h := ifT hc8 h
        refine V_aload_n (q := 95) dX11_text_94 rfl rfl rfl ?_
        refine V_iconst (q := 96) dX11_text_95 rfl rfl ?_
        have h := sF_i h
        refine V_putI (q := 99) fl_X11_105 rfl rfl rfl dX11_text_96 rfl ?_
        refine V_aload_n (q := 100) dX11_text_99 rfl rfl rfl ?_
        refine V_dup (q := 101) dX11_text_100 trivial rfl ?_
        refine V_getI (q := 104) fl_X11_278 rfl rfl rfl dX11_text_101 rfl ?_
        refine V_iconst (q := 105) dX11_text_104 rfl rfl ?_
        refine V_iadd (q := 106) dX11_text_105 rfl ?_
        have h := sF_i h
        refine V_putI (q := 109) fl_X11_278 rfl rfl rfl dX11_text_106 rfl ?_
        refine V_aload_n (q := 110) dX11_text_109 rfl rfl rfl ?_
        refine V_getI (q := 113) fl_X11_278 rfl rfl rfl dX11_text_110 rfl ?_
        refine V_iconst (q := 114) dX11_text_113 rfl rfl ?_
        refine V_isub (q := 115) dX11_text_114 rfl ?_
        exact V_iret rfl h dX11_text_115
set_option maxHeartbeats 4000000 in
set_option maxRecDepth 100000 in
theorem kX11_text_J22 (d : Nat) (hd : 273 ≤ d) {l1 : Int} {μ : Mm} {r : Int} {μ' : Mm} (h : X11_text_J22 l1 μ = some (r, μ')) : VV d mX11_text 22 [some (vR 70), some (vI l1)] [] μ r μ' := by
  unfold X11_text_J22 at h
  refine V_iload_n (q := 23) dX11_text_22 rfl rfl rfl ?_
  refine V_iconst (q := 24) dX11_text_23 rfl rfl ?_
  refine V_icmpne (q := 69) (q2 := 27) dX11_text_24 (by decide) rfl (fun hc2 => ?_) (fun hc2 => ?_)
  · have h := ifF hc2 h
    exact V_weak (kX11_text_J69 d hd h) (sb_s rfl (sb_s rfl sb_0))
  · have h := ifT hc2 h
    refine V_aload_n (q := 28) dX11_text_27 rfl rfl rfl ?_
    refine V_getI (q := 31) fl_X11_275 rfl rfl rfl dX11_text_28 rfl ?_
    refine V_iconst (q := 32) dX11_text_31 rfl rfl ?_
    refine V_icmpge (q := 69) (q2 := 35) dX11_text_32 (by decide) rfl (fun hc11 => ?_) (fun hc11 => ?_)
    · have h := ifT hc11 h
      exact V_weak (kX11_text_J69 d hd h) (sb_s rfl (sb_s rfl sb_0))
    · have h := ifF hc11 h
      refine V_aload_n (q := 36) dX11_text_35 rfl rfl rfl ?_
      refine V_aload_n (q := 37) dX11_text_36 rfl rfl rfl ?_
      refine V_getI (q := 40) fl_X11_275 rfl rfl rfl dX11_text_37 rfl ?_
      obtain ⟨v12, μ13, hc14, h⟩ := bd_i h
      refine V_cV1 (q := 43) (v := vI v12) (kX11_readPlay (d - 1) (by omega) hc14) (by omega) mv_X11_246 rfl rfl rfl rfl rfl rfl dX11_text_40 rfl ?_
      refine V_iconst (q := 44) dX11_text_43 rfl rfl ?_
      refine V_icmpne (q := 69) (q2 := 47) dX11_text_44 (by decide) rfl (fun hc15 => ?_) (fun hc15 => ?_)
      · have h := ifF hc15 h
        exact V_weak (kX11_text_J69 d hd h) (sb_s rfl (sb_s rfl sb_0))
      · have h := ifT hc15 h
        refine V_aload_n (q := 48) dX11_text_47 rfl rfl rfl ?_
        refine V_iconst (q := 49) dX11_text_48 rfl rfl ?_
        have h := sF_i h
        refine V_putI (q := 52) fl_X11_105 rfl rfl rfl dX11_text_49 rfl ?_
        refine V_aload_n (q := 53) dX11_text_52 rfl rfl rfl ?_
        refine V_dup (q := 54) dX11_text_53 trivial rfl ?_
        refine V_getI (q := 57) fl_X11_275 rfl rfl rfl dX11_text_54 rfl ?_
        refine V_iconst (q := 58) dX11_text_57 rfl rfl ?_
        refine V_iadd (q := 59) dX11_text_58 rfl ?_
        have h := sF_i h
        refine V_putI (q := 62) fl_X11_275 rfl rfl rfl dX11_text_59 rfl ?_
        refine V_aload_n (q := 63) dX11_text_62 rfl rfl rfl ?_
        refine V_getI (q := 66) fl_X11_275 rfl rfl rfl dX11_text_63 rfl ?_
        refine V_iconst (q := 67) dX11_text_66 rfl rfl ?_
        refine V_isub (q := 68) dX11_text_67 rfl ?_
        exact V_iret rfl h dX11_text_68
set_option maxHeartbeats 4000000 in
set_option maxRecDepth 100000 in
theorem kX11_text (d : Nat) (hd : 273 ≤ d) {l1 : Int} {μ : Mm} {r : Int} {μ' : Mm} (h : X11_text l1 μ = some (r, μ')) : CC d mX11_text [vR 70, vI l1] μ r μ' := by
  unfold X11_text at h
  refine V_enter (by decide) (Nat.le_of_ble_eq_true rfl) ?_
  show VV d mX11_text 0 [some (vR 70), some (vI l1)] [] μ r μ'
  refine V_iload_n (q := 1) dX11_text_0 rfl rfl rfl ?_
  refine V_ifne (q := 22) (q2 := 4) dX11_text_1 (by decide) rfl (fun hc1 => ?_) (fun hc1 => ?_)
  · have h := ifF hc1 h
    exact V_weak (kX11_text_J22 d hd h) (sb_s rfl (sb_s rfl sb_0))
  · have h := ifT hc1 h
    refine V_aload_n (q := 5) dX11_text_4 rfl rfl rfl ?_
    obtain ⟨v18, μ19, hc20, h⟩ := bd_i h
    refine V_cV1 (q := 8) (v := vI v18) (kX11_readCellar (d - 1) (by omega) hc20) (by omega) mv_X11_243 rfl rfl rfl rfl rfl rfl dX11_text_5 rfl ?_
    refine V_iconst (q := 9) dX11_text_8 rfl rfl ?_
    refine V_icmpne (q := 22) (q2 := 12) dX11_text_9 (by decide) rfl (fun hc21 => ?_) (fun hc21 => ?_)
    · have h := ifF hc21 h
      exact V_weak (kX11_text_J22 d hd h) (sb_s rfl (sb_s rfl sb_0))
    · have h := ifT hc21 h
      refine V_aload_n (q := 13) dX11_text_12 rfl rfl rfl ?_
      refine V_iconst (q := 14) dX11_text_13 rfl rfl ?_
      have h := sF_i h
      refine V_putI (q := 17) fl_X11_105 rfl rfl rfl dX11_text_14 rfl ?_
      refine V_aload_n (q := 18) dX11_text_17 rfl rfl rfl ?_
      obtain ⟨v23, μ24, hc25, h⟩ := bd_i h
      refine V_cV1 (q := 21) (v := vI v23) (kX11_takeCellar (d - 1) (by omega) hc25) (by omega) mv_X11_272 rfl rfl rfl rfl rfl rfl dX11_text_18 rfl ?_
      exact V_iret rfl h dX11_text_21
abbrev mX11_placeOf : Mth := (yX11_placeOf, cX11_placeOf, 4, some .int)
set_option maxRecDepth 100000 in
theorem mi_X11_placeOf : Cond.instanceMethod yX11_placeOf ∈ tG ∧ Cond.selects yX11_placeOf.cls yX11_placeOf yX11_placeOf ∈ tG ∧ Cond.initialized yX11_placeOf.cls ∈ tG ∧ Cond.code yX11_placeOf cX11_placeOf 4 (some .int) ∈ tG ∧ (yX11_placeOf.cls ≠ "java/lang/invoke/MethodHandle" ∧ yX11_placeOf.cls ≠ "java/lang/invoke/VarHandle" ∧ (parseMethodDescriptor yX11_placeOf.desc).map (fun d => d.parameters.length) = some 1) ∧ 4 ≤ 60 := ⟨(tG_of (tb6 (List.mem_of_getElem? (i := 179) rfl)) (by decide +kernel)), (tG_of (List.mem_of_getElem? (i := 73) (by decide +kernel)) (by decide +kernel)), (tG_of (tb1 (List.mem_of_getElem? (i := 12) rfl)) (by decide +kernel)), (tG_of (tb6 (List.mem_of_getElem? (i := 180) rfl)) (by decide +kernel)), ⟨by decide, by decide, by decide +kernel⟩, by decide⟩
set_option maxRecDepth 100000 in
theorem mv_X11_281 : mV RX11 281 mX11_placeOf 1 := ⟨(tG_of (tb6 (List.mem_of_getElem? (i := 177) rfl)) (by decide +kernel)), mi_X11_placeOf⟩
theorem dX11_placeOf_0 : decode cX11_placeOf 0 = .ok (.iconst (-1), 1) := dc_2 (byA eNcX11_placeOf (p := 0) (v := 2) (by decide +kernel))
theorem dX11_placeOf_1 : decode cX11_placeOf 1 = .ok (.istore_n 2, 1) := dc_61 (byA eNcX11_placeOf (p := 1) (v := 61) (by decide +kernel))
theorem dX11_placeOf_2 : decode cX11_placeOf 2 = .ok (.iconst 0, 1) := dc_3 (byA eNcX11_placeOf (p := 2) (v := 3) (by decide +kernel))
theorem dX11_placeOf_3 : decode cX11_placeOf 3 = .ok (.istore_n 3, 1) := dc_62 (byA eNcX11_placeOf (p := 3) (v := 62) (by decide +kernel))
theorem dX11_placeOf_4 : decode cX11_placeOf 4 = .ok (.iload_n 3, 1) := dc_29 (byA eNcX11_placeOf (p := 4) (v := 29) (by decide +kernel))
theorem dX11_placeOf_5 : decode cX11_placeOf 5 = .ok (.bipush 60, 2) := dc_16 (byA eNcX11_placeOf (p := 5) (v := 16) (by decide +kernel)) (byA eNcX11_placeOf (p := 6) (v := 60) (by decide +kernel)) (by decide +kernel)
theorem dX11_placeOf_7 : decode cX11_placeOf 7 = .ok (.if_icmp .ge 33, 3) := dc_162 (byA eNcX11_placeOf (p := 7) (v := 162) (by decide +kernel)) (byA eNcX11_placeOf (p := 8) (v := 0) (by decide +kernel)) (byA eNcX11_placeOf (p := 9) (v := 33) (by decide +kernel)) (by decide +kernel)
theorem dX11_placeOf_10 : decode cX11_placeOf 10 = .ok (.aload_n 0, 1) := dc_42 (byA eNcX11_placeOf (p := 10) (v := 42) (by decide +kernel))
theorem dX11_placeOf_11 : decode cX11_placeOf 11 = .ok (.iload_n 3, 1) := dc_29 (byA eNcX11_placeOf (p := 11) (v := 29) (by decide +kernel))
theorem dX11_placeOf_12 : decode cX11_placeOf 12 = .ok (.invokevirtual 258, 3) := dc_182 (byA eNcX11_placeOf (p := 12) (v := 182) (by decide +kernel)) (byA eNcX11_placeOf (p := 13) (v := 1) (by decide +kernel)) (byA eNcX11_placeOf (p := 14) (v := 2) (by decide +kernel)) rfl
theorem dX11_placeOf_15 : decode cX11_placeOf 15 = .ok (.ifCond .eq 17, 3) := dc_153 (byA eNcX11_placeOf (p := 15) (v := 153) (by decide +kernel)) (byA eNcX11_placeOf (p := 16) (v := 0) (by decide +kernel)) (byA eNcX11_placeOf (p := 17) (v := 17) (by decide +kernel)) (by decide +kernel)
theorem dX11_placeOf_18 : decode cX11_placeOf 18 = .ok (.aload_n 0, 1) := dc_42 (byA eNcX11_placeOf (p := 18) (v := 42) (by decide +kernel))
theorem dX11_placeOf_19 : decode cX11_placeOf 19 = .ok (.getfield 43, 3) := dc_180 (byA eNcX11_placeOf (p := 19) (v := 180) (by decide +kernel)) (byA eNcX11_placeOf (p := 20) (v := 0) (by decide +kernel)) (byA eNcX11_placeOf (p := 21) (v := 43) (by decide +kernel)) rfl
theorem dX11_placeOf_22 : decode cX11_placeOf 22 = .ok (.iload_n 3, 1) := dc_29 (byA eNcX11_placeOf (p := 22) (v := 29) (by decide +kernel))
theorem dX11_placeOf_23 : decode cX11_placeOf 23 = .ok (.iaload, 1) := dc_46 (byA eNcX11_placeOf (p := 23) (v := 46) (by decide +kernel))
theorem dX11_placeOf_24 : decode cX11_placeOf 24 = .ok (.iload_n 1, 1) := dc_27 (byA eNcX11_placeOf (p := 24) (v := 27) (by decide +kernel))
theorem dX11_placeOf_25 : decode cX11_placeOf 25 = .ok (.if_icmp .ne 7, 3) := dc_160 (byA eNcX11_placeOf (p := 25) (v := 160) (by decide +kernel)) (byA eNcX11_placeOf (p := 26) (v := 0) (by decide +kernel)) (byA eNcX11_placeOf (p := 27) (v := 7) (by decide +kernel)) (by decide +kernel)
theorem dX11_placeOf_28 : decode cX11_placeOf 28 = .ok (.iload_n 3, 1) := dc_29 (byA eNcX11_placeOf (p := 28) (v := 29) (by decide +kernel))
theorem dX11_placeOf_29 : decode cX11_placeOf 29 = .ok (.goto 4, 3) := dc_167 (byA eNcX11_placeOf (p := 29) (v := 167) (by decide +kernel)) (byA eNcX11_placeOf (p := 30) (v := 0) (by decide +kernel)) (byA eNcX11_placeOf (p := 31) (v := 4) (by decide +kernel)) (by decide +kernel)
theorem dX11_placeOf_32 : decode cX11_placeOf 32 = .ok (.iload_n 2, 1) := dc_28 (byA eNcX11_placeOf (p := 32) (v := 28) (by decide +kernel))
theorem dX11_placeOf_33 : decode cX11_placeOf 33 = .ok (.istore_n 2, 1) := dc_61 (byA eNcX11_placeOf (p := 33) (v := 61) (by decide +kernel))
theorem dX11_placeOf_34 : decode cX11_placeOf 34 = .ok (.iinc 3 1, 3) := dc_132 (byA eNcX11_placeOf (p := 34) (v := 132) (by decide +kernel)) (byA eNcX11_placeOf (p := 35) (v := 3) (by decide +kernel)) (byA eNcX11_placeOf (p := 36) (v := 1) (by decide +kernel)) (by decide +kernel)
theorem dX11_placeOf_37 : decode cX11_placeOf 37 = .ok (.goto (-33), 3) := dc_167 (byA eNcX11_placeOf (p := 37) (v := 167) (by decide +kernel)) (byA eNcX11_placeOf (p := 38) (v := 255) (by decide +kernel)) (byA eNcX11_placeOf (p := 39) (v := 223) (by decide +kernel)) (by decide +kernel)
theorem dX11_placeOf_40 : decode cX11_placeOf 40 = .ok (.iload_n 2, 1) := dc_28 (byA eNcX11_placeOf (p := 40) (v := 28) (by decide +kernel))
theorem dX11_placeOf_41 : decode cX11_placeOf 41 = .ok (.ireturn, 1) := dc_172 (byA eNcX11_placeOf (p := 41) (v := 172) (by decide +kernel))
def X11_placeOf_L4 (l1 : Int) : Nat → Int → Int → Mm → Rs
  | 0, _, _, _ => none
  | n + 1, l2, l3, μ => if 60 ≤ l3 then (some (l2, μ)) else (bd (X11_isPlace l3 μ) fun v2 μ3 => if v2 = 0 then (X11_placeOf_L4 l1 n l2 (iA l3 1) μ3) else (ldA μ3 82 l3 fun v6 => if v6 = l1 then (X11_placeOf_L4 l1 n l3 (iA l3 1) μ3) else (X11_placeOf_L4 l1 n l2 (iA l3 1) μ3)))
def X11_placeOf (l1 : Int) (μ : Mm) : Rs := X11_placeOf_L4 l1 FU (-1) 0 μ
set_option maxHeartbeats 4000000 in
set_option maxRecDepth 100000 in
theorem kX11_placeOf_L4 (d : Nat) (hd : 2 ≤ d) {l1 : Int} {r : Int} {μ' : Mm} : ∀ (n : Nat) {l2 l3 : Int} {μ : Mm}, X11_placeOf_L4 l1 n l2 l3 μ = some (r, μ') → VV d mX11_placeOf 4 [some (vR 70), some (vI l1), some (vI l2), some (vI l3)] [] μ r μ' := by
  intro n
  induction n with
  | zero => intro l2 l3 μ h; rw [X11_placeOf_L4] at h; cases h
  | succ n ih =>
    intro l2 l3 μ h
    rw [X11_placeOf_L4] at h
    refine V_iload_n (q := 5) dX11_placeOf_4 rfl rfl rfl ?_
    refine V_bipush (q := 7) dX11_placeOf_5 rfl rfl rfl ?_
    refine V_icmpge (q := 40) (q2 := 10) dX11_placeOf_7 (by decide) rfl (fun hc1 => ?_) (fun hc1 => ?_)
    · have h := ifT hc1 h
      refine V_iload_n (q := 41) dX11_placeOf_40 rfl rfl rfl ?_
      exact V_iret rfl h dX11_placeOf_41
    · have h := ifF hc1 h
      refine V_aload_n (q := 11) dX11_placeOf_10 rfl rfl rfl ?_
      refine V_iload_n (q := 12) dX11_placeOf_11 rfl rfl rfl ?_
      obtain ⟨v2, μ3, hc4, h⟩ := bd_i h
      refine V_cV1 (q := 15) (v := vI v2) (kX11_isPlace (d - 1) (by omega) hc4) (by omega) mv_X11_258 rfl rfl rfl rfl rfl rfl dX11_placeOf_12 rfl ?_
      refine V_ifeq (q := 32) (q2 := 18) dX11_placeOf_15 (by decide) rfl (fun hc5 => ?_) (fun hc5 => ?_)
      · have h := ifT hc5 h
        refine V_iload_n (q := 33) dX11_placeOf_32 rfl rfl rfl ?_
        refine V_istore_n (q := 34) dX11_placeOf_33 rfl (Nat.le_of_ble_eq_true rfl) trivial rfl ?_
        refine V_iinc (q := 37) dX11_placeOf_34 rfl (Nat.le_of_ble_eq_true rfl) trivial rfl ?_
        refine V_goto (q := 4) dX11_placeOf_37 (by decide) ?_
        exact V_weak (ih h) (sb_s rfl (sb_s rfl (sb_s rfl (sb_s rfl sb_0))))
      · have h := ifF hc5 h
        refine V_aload_n (q := 19) dX11_placeOf_18 rfl rfl rfl ?_
        refine V_getO (q := 22) (t := 82) fl_X11_43 rfl rfl rfl rfl dX11_placeOf_19 rfl ?_
        refine V_iload_n (q := 23) dX11_placeOf_22 rfl rfl rfl ?_
        obtain ⟨hi7, h⟩ := ldA_i h
        refine V_iaload (q := 24) rfl hi7 dX11_placeOf_23 rfl ?_
        refine V_iload_n (q := 25) dX11_placeOf_24 rfl rfl rfl ?_
        refine V_icmpne (q := 32) (q2 := 28) dX11_placeOf_25 (by decide) rfl (fun hc8 => ?_) (fun hc8 => ?_)
        · have h := ifF hc8 h
          refine V_iload_n (q := 33) dX11_placeOf_32 rfl rfl rfl ?_
          refine V_istore_n (q := 34) dX11_placeOf_33 rfl (Nat.le_of_ble_eq_true rfl) trivial rfl ?_
          refine V_iinc (q := 37) dX11_placeOf_34 rfl (Nat.le_of_ble_eq_true rfl) trivial rfl ?_
          refine V_goto (q := 4) dX11_placeOf_37 (by decide) ?_
          exact V_weak (ih h) (sb_s rfl (sb_s rfl (sb_s rfl (sb_s rfl sb_0))))
        · have h := ifT hc8 h
          refine V_iload_n (q := 29) dX11_placeOf_28 rfl rfl rfl ?_
          refine V_goto (q := 33) dX11_placeOf_29 (by decide) ?_
          refine V_istore_n (q := 34) dX11_placeOf_33 rfl (Nat.le_of_ble_eq_true rfl) trivial rfl ?_
          refine V_iinc (q := 37) dX11_placeOf_34 rfl (Nat.le_of_ble_eq_true rfl) trivial rfl ?_
          refine V_goto (q := 4) dX11_placeOf_37 (by decide) ?_
          exact V_weak (ih h) (sb_s rfl (sb_s rfl (sb_s rfl (sb_s rfl sb_0))))
set_option maxHeartbeats 4000000 in
set_option maxRecDepth 100000 in
theorem kX11_placeOf (d : Nat) (hd : 2 ≤ d) {l1 : Int} {μ : Mm} {r : Int} {μ' : Mm} (h : X11_placeOf l1 μ = some (r, μ')) : CC d mX11_placeOf [vR 70, vI l1] μ r μ' := by
  unfold X11_placeOf at h
  refine V_enter (by decide) (Nat.le_of_ble_eq_true rfl) ?_
  show VV d mX11_placeOf 0 [some (vR 70), some (vI l1), none, none] [] μ r μ'
  refine V_iconst (q := 1) dX11_placeOf_0 rfl rfl ?_
  refine V_istore_n (q := 2) dX11_placeOf_1 rfl (Nat.le_of_ble_eq_true rfl) trivial rfl ?_
  refine V_iconst (q := 3) dX11_placeOf_2 rfl rfl ?_
  refine V_istore_n (q := 4) dX11_placeOf_3 rfl (Nat.le_of_ble_eq_true rfl) trivial rfl ?_
  exact V_weak (kX11_placeOf_L4 d hd  FU h) (sb_s rfl (sb_s rfl (sb_s rfl (sb_s rfl sb_0))))
abbrev mX11_isCrank : Mth := (yX11_isCrank, cX11_isCrank, 2, some .boolean)
set_option maxRecDepth 100000 in
theorem mi_X11_isCrank : Cond.instanceMethod yX11_isCrank ∈ tG ∧ Cond.selects yX11_isCrank.cls yX11_isCrank yX11_isCrank ∈ tG ∧ Cond.initialized yX11_isCrank.cls ∈ tG ∧ Cond.code yX11_isCrank cX11_isCrank 2 (some .boolean) ∈ tG ∧ (yX11_isCrank.cls ≠ "java/lang/invoke/MethodHandle" ∧ yX11_isCrank.cls ≠ "java/lang/invoke/VarHandle" ∧ (parseMethodDescriptor yX11_isCrank.desc).map (fun d => d.parameters.length) = some 1) ∧ 2 ≤ 60 := ⟨(tG_of (tb6 (List.mem_of_getElem? (i := 175) rfl)) (by decide +kernel)), (tG_of (List.mem_of_getElem? (i := 72) (by decide +kernel)) (by decide +kernel)), (tG_of (tb1 (List.mem_of_getElem? (i := 12) rfl)) (by decide +kernel)), (tG_of (tb6 (List.mem_of_getElem? (i := 176) rfl)) (by decide +kernel)), ⟨by decide, by decide, by decide +kernel⟩, by decide⟩
set_option maxRecDepth 100000 in
theorem mv_X11_284 : mV RX11 284 mX11_isCrank 1 := ⟨(tG_of (tb6 (List.mem_of_getElem? (i := 173) rfl)) (by decide +kernel)), mi_X11_isCrank⟩
theorem dX11_isCrank_0 : decode cX11_isCrank 0 = .ok (.iload_n 1, 1) := dc_27 (byA eNcX11_isCrank (p := 0) (v := 27) (by decide +kernel))
theorem dX11_isCrank_1 : decode cX11_isCrank 1 = .ok (.iconst 0, 1) := dc_3 (byA eNcX11_isCrank (p := 1) (v := 3) (by decide +kernel))
theorem dX11_isCrank_2 : decode cX11_isCrank 2 = .ok (.bipush 7, 2) := dc_16 (byA eNcX11_isCrank (p := 2) (v := 16) (by decide +kernel)) (byA eNcX11_isCrank (p := 3) (v := 7) (by decide +kernel)) (by decide +kernel)
theorem dX11_isCrank_4 : decode cX11_isCrank 4 = .ok (.invokestatic 213, 3) := dc_184 (byA eNcX11_isCrank (p := 4) (v := 184) (by decide +kernel)) (byA eNcX11_isCrank (p := 5) (v := 0) (by decide +kernel)) (byA eNcX11_isCrank (p := 6) (v := 213) (by decide +kernel)) rfl
theorem dX11_isCrank_7 : decode cX11_isCrank 7 = .ok (.ifCond .eq 18, 3) := dc_153 (byA eNcX11_isCrank (p := 7) (v := 153) (by decide +kernel)) (byA eNcX11_isCrank (p := 8) (v := 0) (by decide +kernel)) (byA eNcX11_isCrank (p := 9) (v := 18) (by decide +kernel)) (by decide +kernel)
theorem dX11_isCrank_10 : decode cX11_isCrank 10 = .ok (.aload_n 0, 1) := dc_42 (byA eNcX11_isCrank (p := 10) (v := 42) (by decide +kernel))
theorem dX11_isCrank_11 : decode cX11_isCrank 11 = .ok (.iconst 3, 1) := dc_6 (byA eNcX11_isCrank (p := 11) (v := 6) (by decide +kernel))
theorem dX11_isCrank_12 : decode cX11_isCrank 12 = .ok (.iload_n 1, 1) := dc_27 (byA eNcX11_isCrank (p := 12) (v := 27) (by decide +kernel))
theorem dX11_isCrank_13 : decode cX11_isCrank 13 = .ok (.iadd, 1) := dc_96 (byA eNcX11_isCrank (p := 13) (v := 96) (by decide +kernel))
theorem dX11_isCrank_14 : decode cX11_isCrank 14 = .ok (.invokevirtual 281, 3) := dc_182 (byA eNcX11_isCrank (p := 14) (v := 182) (by decide +kernel)) (byA eNcX11_isCrank (p := 15) (v := 1) (by decide +kernel)) (byA eNcX11_isCrank (p := 16) (v := 25) (by decide +kernel)) rfl
theorem dX11_isCrank_17 : decode cX11_isCrank 17 = .ok (.iconst (-1), 1) := dc_2 (byA eNcX11_isCrank (p := 17) (v := 2) (by decide +kernel))
theorem dX11_isCrank_18 : decode cX11_isCrank 18 = .ok (.if_icmp .eq 7, 3) := dc_159 (byA eNcX11_isCrank (p := 18) (v := 159) (by decide +kernel)) (byA eNcX11_isCrank (p := 19) (v := 0) (by decide +kernel)) (byA eNcX11_isCrank (p := 20) (v := 7) (by decide +kernel)) (by decide +kernel)
theorem dX11_isCrank_21 : decode cX11_isCrank 21 = .ok (.iconst 1, 1) := dc_4 (byA eNcX11_isCrank (p := 21) (v := 4) (by decide +kernel))
theorem dX11_isCrank_22 : decode cX11_isCrank 22 = .ok (.goto 4, 3) := dc_167 (byA eNcX11_isCrank (p := 22) (v := 167) (by decide +kernel)) (byA eNcX11_isCrank (p := 23) (v := 0) (by decide +kernel)) (byA eNcX11_isCrank (p := 24) (v := 4) (by decide +kernel)) (by decide +kernel)
theorem dX11_isCrank_25 : decode cX11_isCrank 25 = .ok (.iconst 0, 1) := dc_3 (byA eNcX11_isCrank (p := 25) (v := 3) (by decide +kernel))
theorem dX11_isCrank_26 : decode cX11_isCrank 26 = .ok (.ireturn, 1) := dc_172 (byA eNcX11_isCrank (p := 26) (v := 172) (by decide +kernel))
def X11_isCrank (l1 : Int) (μ : Mm) : Rs := bd (X11_in l1 0 7 μ) fun v1 μ2 => if v1 = 0 then (some (0, μ2)) else (bd (X11_placeOf (iA 3 l1) μ2) fun v5 μ6 => if v5 = (-1) then (some (0, μ6)) else (some (1, μ6)))
set_option maxHeartbeats 4000000 in
set_option maxRecDepth 100000 in
theorem kX11_isCrank (d : Nat) (hd : 3 ≤ d) {l1 : Int} {μ : Mm} {r : Int} {μ' : Mm} (h : X11_isCrank l1 μ = some (r, μ')) : CC d mX11_isCrank [vR 70, vI l1] μ r μ' := by
  unfold X11_isCrank at h
  refine V_enter (by decide) (Nat.le_of_ble_eq_true rfl) ?_
  show VV d mX11_isCrank 0 [some (vR 70), some (vI l1)] [] μ r μ'
  refine V_iload_n (q := 1) dX11_isCrank_0 rfl rfl rfl ?_
  refine V_iconst (q := 2) dX11_isCrank_1 rfl rfl ?_
  refine V_bipush (q := 4) dX11_isCrank_2 rfl rfl rfl ?_
  obtain ⟨v1, μ2, hc3, h⟩ := bd_i h
  refine V_cS1 (q := 7) (v := vI v1) (kX11_in (d - 1) (by omega) hc3) (by omega) mv_X11_213 rfl rfl rfl rfl dX11_isCrank_4 rfl ?_
  refine V_ifeq (q := 25) (q2 := 10) dX11_isCrank_7 (by decide) rfl (fun hc4 => ?_) (fun hc4 => ?_)
  · have h := ifT hc4 h
    refine V_iconst (q := 26) dX11_isCrank_25 rfl rfl ?_
    exact V_zret rfl (Or.inl rfl) h dX11_isCrank_26
  · have h := ifF hc4 h
    refine V_aload_n (q := 11) dX11_isCrank_10 rfl rfl rfl ?_
    refine V_iconst (q := 12) dX11_isCrank_11 rfl rfl ?_
    refine V_iload_n (q := 13) dX11_isCrank_12 rfl rfl rfl ?_
    refine V_iadd (q := 14) dX11_isCrank_13 rfl ?_
    obtain ⟨v5, μ6, hc7, h⟩ := bd_i h
    refine V_cV1 (q := 17) (v := vI v5) (kX11_placeOf (d - 1) (by omega) hc7) (by omega) mv_X11_281 rfl rfl rfl rfl rfl rfl dX11_isCrank_14 rfl ?_
    refine V_iconst (q := 18) dX11_isCrank_17 rfl rfl ?_
    refine V_icmpeq (q := 25) (q2 := 21) dX11_isCrank_18 (by decide) rfl (fun hc8 => ?_) (fun hc8 => ?_)
    · have h := ifT hc8 h
      refine V_iconst (q := 26) dX11_isCrank_25 rfl rfl ?_
      exact V_zret rfl (Or.inl rfl) h dX11_isCrank_26
    · have h := ifF hc8 h
      refine V_iconst (q := 22) dX11_isCrank_21 rfl rfl ?_
      refine V_goto (q := 26) dX11_isCrank_22 (by decide) ?_
      exact V_zret rfl (Or.inr rfl) h dX11_isCrank_26
abbrev mX11_crank : Mth := (yX11_crank, cX11_crank, 2, some .int)
set_option maxRecDepth 100000 in
theorem mi_X11_crank : Cond.instanceMethod yX11_crank ∈ tG ∧ Cond.selects yX11_crank.cls yX11_crank yX11_crank ∈ tG ∧ Cond.initialized yX11_crank.cls ∈ tG ∧ Cond.code yX11_crank cX11_crank 2 (some .int) ∈ tG ∧ (yX11_crank.cls ≠ "java/lang/invoke/MethodHandle" ∧ yX11_crank.cls ≠ "java/lang/invoke/VarHandle" ∧ (parseMethodDescriptor yX11_crank.desc).map (fun d => d.parameters.length) = some 1) ∧ 2 ≤ 60 := ⟨(tG_of (tb6 (List.mem_of_getElem? (i := 170) rfl)) (by decide +kernel)), (tG_of (tb6 (List.mem_of_getElem? (i := 171) rfl)) (by decide +kernel)), (tG_of (tb1 (List.mem_of_getElem? (i := 12) rfl)) (by decide +kernel)), (tG_of (tb6 (List.mem_of_getElem? (i := 172) rfl)) (by decide +kernel)), ⟨by decide, by decide, by decide +kernel⟩, by decide⟩
theorem dX11_crank_0 : decode cX11_crank 0 = .ok (.aload_n 0, 1) := dc_42 (byA eNcX11_crank (p := 0) (v := 42) (by decide +kernel))
theorem dX11_crank_1 : decode cX11_crank 1 = .ok (.aload_n 0, 1) := dc_42 (byA eNcX11_crank (p := 1) (v := 42) (by decide +kernel))
theorem dX11_crank_2 : decode cX11_crank 2 = .ok (.iload_n 1, 1) := dc_27 (byA eNcX11_crank (p := 2) (v := 27) (by decide +kernel))
theorem dX11_crank_3 : decode cX11_crank 3 = .ok (.invokevirtual 284, 3) := dc_182 (byA eNcX11_crank (p := 3) (v := 182) (by decide +kernel)) (byA eNcX11_crank (p := 4) (v := 1) (by decide +kernel)) (byA eNcX11_crank (p := 5) (v := 28) (by decide +kernel)) rfl
theorem dX11_crank_6 : decode cX11_crank 6 = .ok (.ifCond .eq 7, 3) := dc_153 (byA eNcX11_crank (p := 6) (v := 153) (by decide +kernel)) (byA eNcX11_crank (p := 7) (v := 0) (by decide +kernel)) (byA eNcX11_crank (p := 8) (v := 7) (by decide +kernel)) (by decide +kernel)
theorem dX11_crank_9 : decode cX11_crank 9 = .ok (.iconst 0, 1) := dc_3 (byA eNcX11_crank (p := 9) (v := 3) (by decide +kernel))
theorem dX11_crank_10 : decode cX11_crank 10 = .ok (.goto 4, 3) := dc_167 (byA eNcX11_crank (p := 10) (v := 167) (by decide +kernel)) (byA eNcX11_crank (p := 11) (v := 0) (by decide +kernel)) (byA eNcX11_crank (p := 12) (v := 4) (by decide +kernel)) (by decide +kernel)
theorem dX11_crank_13 : decode cX11_crank 13 = .ok (.iconst 1, 1) := dc_4 (byA eNcX11_crank (p := 13) (v := 4) (by decide +kernel))
theorem dX11_crank_14 : decode cX11_crank 14 = .ok (.putfield 98, 3) := dc_181 (byA eNcX11_crank (p := 14) (v := 181) (by decide +kernel)) (byA eNcX11_crank (p := 15) (v := 0) (by decide +kernel)) (byA eNcX11_crank (p := 16) (v := 98) (by decide +kernel)) rfl
theorem dX11_crank_17 : decode cX11_crank 17 = .ok (.aload_n 0, 1) := dc_42 (byA eNcX11_crank (p := 17) (v := 42) (by decide +kernel))
theorem dX11_crank_18 : decode cX11_crank 18 = .ok (.getfield 98, 3) := dc_180 (byA eNcX11_crank (p := 18) (v := 180) (by decide +kernel)) (byA eNcX11_crank (p := 19) (v := 0) (by decide +kernel)) (byA eNcX11_crank (p := 20) (v := 98) (by decide +kernel)) rfl
theorem dX11_crank_21 : decode cX11_crank 21 = .ok (.iconst 1, 1) := dc_4 (byA eNcX11_crank (p := 21) (v := 4) (by decide +kernel))
theorem dX11_crank_22 : decode cX11_crank 22 = .ok (.if_icmp .ne 7, 3) := dc_160 (byA eNcX11_crank (p := 22) (v := 160) (by decide +kernel)) (byA eNcX11_crank (p := 23) (v := 0) (by decide +kernel)) (byA eNcX11_crank (p := 24) (v := 7) (by decide +kernel)) (by decide +kernel)
theorem dX11_crank_25 : decode cX11_crank 25 = .ok (.iconst 0, 1) := dc_3 (byA eNcX11_crank (p := 25) (v := 3) (by decide +kernel))
theorem dX11_crank_26 : decode cX11_crank 26 = .ok (.goto 10, 3) := dc_167 (byA eNcX11_crank (p := 26) (v := 167) (by decide +kernel)) (byA eNcX11_crank (p := 27) (v := 0) (by decide +kernel)) (byA eNcX11_crank (p := 28) (v := 10) (by decide +kernel)) (by decide +kernel)
theorem dX11_crank_29 : decode cX11_crank 29 = .ok (.aload_n 0, 1) := dc_42 (byA eNcX11_crank (p := 29) (v := 42) (by decide +kernel))
theorem dX11_crank_30 : decode cX11_crank 30 = .ok (.iconst 3, 1) := dc_6 (byA eNcX11_crank (p := 30) (v := 6) (by decide +kernel))
theorem dX11_crank_31 : decode cX11_crank 31 = .ok (.iload_n 1, 1) := dc_27 (byA eNcX11_crank (p := 31) (v := 27) (by decide +kernel))
theorem dX11_crank_32 : decode cX11_crank 32 = .ok (.iadd, 1) := dc_96 (byA eNcX11_crank (p := 32) (v := 96) (by decide +kernel))
theorem dX11_crank_33 : decode cX11_crank 33 = .ok (.invokevirtual 281, 3) := dc_182 (byA eNcX11_crank (p := 33) (v := 182) (by decide +kernel)) (byA eNcX11_crank (p := 34) (v := 1) (by decide +kernel)) (byA eNcX11_crank (p := 35) (v := 25) (by decide +kernel)) rfl
theorem dX11_crank_36 : decode cX11_crank 36 = .ok (.ireturn, 1) := dc_172 (byA eNcX11_crank (p := 36) (v := 172) (by decide +kernel))
def X11_crank_J14 (l1 : Int) (s1 : Int) (μ : Mm) : Rs := sF μ 70 0 s1 fun μ5 => if (μ5 70 0) = 1 then (some (0, μ5)) else (bd (X11_placeOf (iA 3 l1) μ5) fun v7 μ8 => some (v7, μ8))
def X11_crank (l1 : Int) (μ : Mm) : Rs := bd (X11_isCrank l1 μ) fun v1 μ2 => if v1 = 0 then (X11_crank_J14 l1 1 μ2) else (X11_crank_J14 l1 0 μ2)
set_option maxHeartbeats 4000000 in
set_option maxRecDepth 100000 in
theorem kX11_crank_J14 (d : Nat) (hd : 4 ≤ d) {l1 : Int} {s1 : Int} {μ : Mm} {r : Int} {μ' : Mm} (h : X11_crank_J14 l1 s1 μ = some (r, μ')) : VV d mX11_crank 14 [some (vR 70), some (vI l1)] [vI s1, vR 70] μ r μ' := by
  unfold X11_crank_J14 at h
  have h := sF_i h
  refine V_putI (q := 17) fl_X11_98 rfl rfl rfl dX11_crank_14 rfl ?_
  refine V_aload_n (q := 18) dX11_crank_17 rfl rfl rfl ?_
  refine V_getI (q := 21) fl_X11_98 rfl rfl rfl dX11_crank_18 rfl ?_
  refine V_iconst (q := 22) dX11_crank_21 rfl rfl ?_
  refine V_icmpne (q := 29) (q2 := 25) dX11_crank_22 (by decide) rfl (fun hc6 => ?_) (fun hc6 => ?_)
  · have h := ifF hc6 h
    refine V_aload_n (q := 30) dX11_crank_29 rfl rfl rfl ?_
    refine V_iconst (q := 31) dX11_crank_30 rfl rfl ?_
    refine V_iload_n (q := 32) dX11_crank_31 rfl rfl rfl ?_
    refine V_iadd (q := 33) dX11_crank_32 rfl ?_
    obtain ⟨v7, μ8, hc9, h⟩ := bd_i h
    refine V_cV1 (q := 36) (v := vI v7) (kX11_placeOf (d - 1) (by omega) hc9) (by omega) mv_X11_281 rfl rfl rfl rfl rfl rfl dX11_crank_33 rfl ?_
    exact V_iret rfl h dX11_crank_36
  · have h := ifT hc6 h
    refine V_iconst (q := 26) dX11_crank_25 rfl rfl ?_
    refine V_goto (q := 36) dX11_crank_26 (by decide) ?_
    exact V_iret rfl h dX11_crank_36
set_option maxHeartbeats 4000000 in
set_option maxRecDepth 100000 in
theorem kX11_crank (d : Nat) (hd : 4 ≤ d) {l1 : Int} {μ : Mm} {r : Int} {μ' : Mm} (h : X11_crank l1 μ = some (r, μ')) : CC d mX11_crank [vR 70, vI l1] μ r μ' := by
  unfold X11_crank at h
  refine V_enter (by decide) (Nat.le_of_ble_eq_true rfl) ?_
  show VV d mX11_crank 0 [some (vR 70), some (vI l1)] [] μ r μ'
  refine V_aload_n (q := 1) dX11_crank_0 rfl rfl rfl ?_
  refine V_aload_n (q := 2) dX11_crank_1 rfl rfl rfl ?_
  refine V_iload_n (q := 3) dX11_crank_2 rfl rfl rfl ?_
  obtain ⟨v1, μ2, hc3, h⟩ := bd_i h
  refine V_cV1 (q := 6) (v := vI v1) (kX11_isCrank (d - 1) (by omega) hc3) (by omega) mv_X11_284 rfl rfl rfl rfl rfl rfl dX11_crank_3 rfl ?_
  refine V_ifeq (q := 13) (q2 := 9) dX11_crank_6 (by decide) rfl (fun hc4 => ?_) (fun hc4 => ?_)
  · have h := ifT hc4 h
    refine V_iconst (q := 14) dX11_crank_13 rfl rfl ?_
    exact V_weak (kX11_crank_J14 d hd h) (sb_s rfl (sb_s rfl sb_0))
  · have h := ifF hc4 h
    refine V_iconst (q := 10) dX11_crank_9 rfl rfl ?_
    refine V_goto (q := 14) dX11_crank_10 (by decide) ?_
    exact V_weak (kX11_crank_J14 d hd h) (sb_s rfl (sb_s rfl sb_0))
