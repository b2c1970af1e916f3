abbrev mX11_walk : Mth := (yX11_walk, cX11_walk, 9, some .int)
set_option maxRecDepth 100000 in
theorem mi_X11_walk : Cond.instanceMethod yX11_walk ∈ tG ∧ Cond.selects yX11_walk.cls yX11_walk yX11_walk ∈ tG ∧ Cond.initialized yX11_walk.cls ∈ tG ∧ Cond.code yX11_walk cX11_walk 9 (some .int) ∈ tG ∧ (yX11_walk.cls ≠ "java/lang/invoke/MethodHandle" ∧ yX11_walk.cls ≠ "java/lang/invoke/VarHandle" ∧ (parseMethodDescriptor yX11_walk.desc).map (fun d => d.parameters.length) = some 3) ∧ 9 ≤ 60 := ⟨(tG_of (tb7 (List.mem_of_getElem? (i := 149) rfl)) (by decide +kernel)), (tG_of (tb7 (List.mem_of_getElem? (i := 150) rfl)) (by decide +kernel)), (tG_of (tb1 (List.mem_of_getElem? (i := 12) rfl)) (by decide +kernel)), (tG_of (tb7 (List.mem_of_getElem? (i := 151) rfl)) (by decide +kernel)), ⟨by decide, by decide, by decide +kernel⟩, by decide⟩
theorem dX11_walk_0 : decode cX11_walk 0 = .ok (.aload_n 0, 1) := dc_42 (byA eNcX11_walk (p := 0) (v := 42) (by decide +kernel))
theorem dX11_walk_1 : decode cX11_walk 1 = .ok (.iload_n 1, 1) := dc_27 (byA eNcX11_walk (p := 1) (v := 27) (by decide +kernel))
theorem dX11_walk_2 : decode cX11_walk 2 = .ok (.invokevirtual 335, 3) := dc_182 (byA eNcX11_walk (p := 2) (v := 182) (by decide +kernel)) (byA eNcX11_walk (p := 3) (v := 1) (by decide +kernel)) (byA eNcX11_walk (p := 4) (v := 79) (by decide +kernel)) rfl
theorem dX11_walk_5 : decode cX11_walk 5 = .ok (.ifCond .eq 28, 3) := dc_153 (byA eNcX11_walk (p := 5) (v := 153) (by decide +kernel)) (byA eNcX11_walk (p := 6) (v := 0) (by decide +kernel)) (byA eNcX11_walk (p := 7) (v := 28) (by decide +kernel)) (by decide +kernel)
theorem dX11_walk_8 : decode cX11_walk 8 = .ok (.aload_n 0, 1) := dc_42 (byA eNcX11_walk (p := 8) (v := 42) (by decide +kernel))
theorem dX11_walk_9 : decode cX11_walk 9 = .ok (.iload_n 2, 1) := dc_28 (byA eNcX11_walk (p := 9) (v := 28) (by decide +kernel))
theorem dX11_walk_10 : decode cX11_walk 10 = .ok (.invokevirtual 338, 3) := dc_182 (byA eNcX11_walk (p := 10) (v := 182) (by decide +kernel)) (byA eNcX11_walk (p := 11) (v := 1) (by decide +kernel)) (byA eNcX11_walk (p := 12) (v := 82) (by decide +kernel)) rfl
theorem dX11_walk_13 : decode cX11_walk 13 = .ok (.ifCond .eq 20, 3) := dc_153 (byA eNcX11_walk (p := 13) (v := 153) (by decide +kernel)) (byA eNcX11_walk (p := 14) (v := 0) (by decide +kernel)) (byA eNcX11_walk (p := 15) (v := 20) (by decide +kernel)) (by decide +kernel)
theorem dX11_walk_16 : decode cX11_walk 16 = .ok (.iload_n 3, 1) := dc_29 (byA eNcX11_walk (p := 16) (v := 29) (by decide +kernel))
theorem dX11_walk_17 : decode cX11_walk 17 = .ok (.iconst 0, 1) := dc_3 (byA eNcX11_walk (p := 17) (v := 3) (by decide +kernel))
theorem dX11_walk_18 : decode cX11_walk 18 = .ok (.iconst 1, 1) := dc_4 (byA eNcX11_walk (p := 18) (v := 4) (by decide +kernel))
theorem dX11_walk_19 : decode cX11_walk 19 = .ok (.invokestatic 213, 3) := dc_184 (byA eNcX11_walk (p := 19) (v := 184) (by decide +kernel)) (byA eNcX11_walk (p := 20) (v := 0) (by decide +kernel)) (byA eNcX11_walk (p := 21) (v := 213) (by decide +kernel)) rfl
theorem dX11_walk_22 : decode cX11_walk 22 = .ok (.ifCond .eq 11, 3) := dc_153 (byA eNcX11_walk (p := 22) (v := 153) (by decide +kernel)) (byA eNcX11_walk (p := 23) (v := 0) (by decide +kernel)) (byA eNcX11_walk (p := 24) (v := 11) (by decide +kernel)) (by decide +kernel)
theorem dX11_walk_25 : decode cX11_walk 25 = .ok (.aload_n 0, 1) := dc_42 (byA eNcX11_walk (p := 25) (v := 42) (by decide +kernel))
theorem dX11_walk_26 : decode cX11_walk 26 = .ok (.iload_n 2, 1) := dc_28 (byA eNcX11_walk (p := 26) (v := 28) (by decide +kernel))
theorem dX11_walk_27 : decode cX11_walk 27 = .ok (.invokevirtual 341, 3) := dc_182 (byA eNcX11_walk (p := 27) (v := 182) (by decide +kernel)) (byA eNcX11_walk (p := 28) (v := 1) (by decide +kernel)) (byA eNcX11_walk (p := 29) (v := 85) (by decide +kernel)) rfl
theorem dX11_walk_30 : decode cX11_walk 30 = .ok (.ifCond .ne 5, 3) := dc_154 (byA eNcX11_walk (p := 30) (v := 154) (by decide +kernel)) (byA eNcX11_walk (p := 31) (v := 0) (by decide +kernel)) (byA eNcX11_walk (p := 32) (v := 5) (by decide +kernel)) (by decide +kernel)
theorem dX11_walk_33 : decode cX11_walk 33 = .ok (.iconst (-1), 1) := dc_2 (byA eNcX11_walk (p := 33) (v := 2) (by decide +kernel))
theorem dX11_walk_34 : decode cX11_walk 34 = .ok (.ireturn, 1) := dc_172 (byA eNcX11_walk (p := 34) (v := 172) (by decide +kernel))
theorem dX11_walk_35 : decode cX11_walk 35 = .ok (.aload_n 0, 1) := dc_42 (byA eNcX11_walk (p := 35) (v := 42) (by decide +kernel))
theorem dX11_walk_36 : decode cX11_walk 36 = .ok (.getfield 316, 3) := dc_180 (byA eNcX11_walk (p := 36) (v := 180) (by decide +kernel)) (byA eNcX11_walk (p := 37) (v := 1) (by decide +kernel)) (byA eNcX11_walk (p := 38) (v := 60) (by decide +kernel)) rfl
theorem dX11_walk_39 : decode cX11_walk 39 = .ok (.istore 4, 2) := dc_54 (byA eNcX11_walk (p := 39) (v := 54) (by decide +kernel)) (byA eNcX11_walk (p := 40) (v := 4) (by decide +kernel))
theorem dX11_walk_41 : decode cX11_walk 41 = .ok (.iconst 0, 1) := dc_3 (byA eNcX11_walk (p := 41) (v := 3) (by decide +kernel))
theorem dX11_walk_42 : decode cX11_walk 42 = .ok (.istore 5, 2) := dc_54 (byA eNcX11_walk (p := 42) (v := 54) (by decide +kernel)) (byA eNcX11_walk (p := 43) (v := 5) (by decide +kernel))
theorem dX11_walk_44 : decode cX11_walk 44 = .ok (.iconst 0, 1) := dc_3 (byA eNcX11_walk (p := 44) (v := 3) (by decide +kernel))
theorem dX11_walk_45 : decode cX11_walk 45 = .ok (.istore 6, 2) := dc_54 (byA eNcX11_walk (p := 45) (v := 54) (by decide +kernel)) (byA eNcX11_walk (p := 46) (v := 6) (by decide +kernel))
theorem dX11_walk_47 : decode cX11_walk 47 = .ok (.iconst 0, 1) := dc_3 (byA eNcX11_walk (p := 47) (v := 3) (by decide +kernel))
theorem dX11_walk_48 : decode cX11_walk 48 = .ok (.istore 7, 2) := dc_54 (byA eNcX11_walk (p := 48) (v := 54) (by decide +kernel)) (byA eNcX11_walk (p := 49) (v := 7) (by decide +kernel))
theorem dX11_walk_50 : decode cX11_walk 50 = .ok (.iload 7, 2) := dc_21 (byA eNcX11_walk (p := 50) (v := 21) (by decide +kernel)) (byA eNcX11_walk (p := 51) (v := 7) (by decide +kernel))
theorem dX11_walk_52 : decode cX11_walk 52 = .ok (.aload_n 0, 1) := dc_42 (byA eNcX11_walk (p := 52) (v := 42) (by decide +kernel))
theorem dX11_walk_53 : decode cX11_walk 53 = .ok (.getfield 316, 3) := dc_180 (byA eNcX11_walk (p := 53) (v := 180) (by decide +kernel)) (byA eNcX11_walk (p := 54) (v := 1) (by decide +kernel)) (byA eNcX11_walk (p := 55) (v := 60) (by decide +kernel)) rfl
theorem dX11_walk_56 : decode cX11_walk 56 = .ok (.if_icmp .ge 68, 3) := dc_162 (byA eNcX11_walk (p := 56) (v := 162) (by decide +kernel)) (byA eNcX11_walk (p := 57) (v := 0) (by decide +kernel)) (byA eNcX11_walk (p := 58) (v := 68) (by decide +kernel)) (by decide +kernel)
theorem dX11_walk_59 : decode cX11_walk 59 = .ok (.aload_n 0, 1) := dc_42 (byA eNcX11_walk (p := 59) (v := 42) (by decide +kernel))
theorem dX11_walk_60 : decode cX11_walk 60 = .ok (.iload_n 2, 1) := dc_28 (byA eNcX11_walk (p := 60) (v := 28) (by decide +kernel))
theorem dX11_walk_61 : decode cX11_walk 61 = .ok (.iload 7, 2) := dc_21 (byA eNcX11_walk (p := 61) (v := 21) (by decide +kernel)) (byA eNcX11_walk (p := 62) (v := 7) (by decide +kernel))
theorem dX11_walk_63 : decode cX11_walk 63 = .ok (.invokevirtual 329, 3) := dc_182 (byA eNcX11_walk (p := 63) (v := 182) (by decide +kernel)) (byA eNcX11_walk (p := 64) (v := 1) (by decide +kernel)) (byA eNcX11_walk (p := 65) (v := 73) (by decide +kernel)) rfl
theorem dX11_walk_66 : decode cX11_walk 66 = .ok (.istore 8, 2) := dc_54 (byA eNcX11_walk (p := 66) (v := 54) (by decide +kernel)) (byA eNcX11_walk (p := 67) (v := 8) (by decide +kernel))
theorem dX11_walk_68 : decode cX11_walk 68 = .ok (.iload 5, 2) := dc_21 (byA eNcX11_walk (p := 68) (v := 21) (by decide +kernel)) (byA eNcX11_walk (p := 69) (v := 5) (by decide +kernel))
theorem dX11_walk_70 : decode cX11_walk 70 = .ok (.aload_n 0, 1) := dc_42 (byA eNcX11_walk (p := 70) (v := 42) (by decide +kernel))
theorem dX11_walk_71 : decode cX11_walk 71 = .ok (.getfield 71, 3) := dc_180 (byA eNcX11_walk (p := 71) (v := 180) (by decide +kernel)) (byA eNcX11_walk (p := 72) (v := 0) (by decide +kernel)) (byA eNcX11_walk (p := 73) (v := 71) (by decide +kernel)) rfl
theorem dX11_walk_74 : decode cX11_walk 74 = .ok (.bipush 8, 2) := dc_16 (byA eNcX11_walk (p := 74) (v := 16) (by decide +kernel)) (byA eNcX11_walk (p := 75) (v := 8) (by decide +kernel)) (by decide +kernel)
theorem dX11_walk_76 : decode cX11_walk 76 = .ok (.iload 4, 2) := dc_21 (byA eNcX11_walk (p := 76) (v := 21) (by decide +kernel)) (byA eNcX11_walk (p := 77) (v := 4) (by decide +kernel))
theorem dX11_walk_78 : decode cX11_walk 78 = .ok (.imul, 1) := dc_104 (byA eNcX11_walk (p := 78) (v := 104) (by decide +kernel))
theorem dX11_walk_79 : decode cX11_walk 79 = .ok (.iload 8, 2) := dc_21 (byA eNcX11_walk (p := 79) (v := 21) (by decide +kernel)) (byA eNcX11_walk (p := 80) (v := 8) (by decide +kernel))
theorem dX11_walk_81 : decode cX11_walk 81 = .ok (.iadd, 1) := dc_96 (byA eNcX11_walk (p := 81) (v := 96) (by decide +kernel))
theorem dX11_walk_82 : decode cX11_walk 82 = .ok (.iaload, 1) := dc_46 (byA eNcX11_walk (p := 82) (v := 46) (by decide +kernel))
theorem dX11_walk_83 : decode cX11_walk 83 = .ok (.iadd, 1) := dc_96 (byA eNcX11_walk (p := 83) (v := 96) (by decide +kernel))
theorem dX11_walk_84 : decode cX11_walk 84 = .ok (.istore 5, 2) := dc_54 (byA eNcX11_walk (p := 84) (v := 54) (by decide +kernel)) (byA eNcX11_walk (p := 85) (v := 5) (by decide +kernel))
theorem dX11_walk_86 : decode cX11_walk 86 = .ok (.iload 6, 2) := dc_21 (byA eNcX11_walk (p := 86) (v := 21) (by decide +kernel)) (byA eNcX11_walk (p := 87) (v := 6) (by decide +kernel))
theorem dX11_walk_88 : decode cX11_walk 88 = .ok (.aload_n 0, 1) := dc_42 (byA eNcX11_walk (p := 88) (v := 42) (by decide +kernel))
theorem dX11_walk_89 : decode cX11_walk 89 = .ok (.getfield 80, 3) := dc_180 (byA eNcX11_walk (p := 89) (v := 180) (by decide +kernel)) (byA eNcX11_walk (p := 90) (v := 0) (by decide +kernel)) (byA eNcX11_walk (p := 91) (v := 80) (by decide +kernel)) rfl
theorem dX11_walk_92 : decode cX11_walk 92 = .ok (.iload 8, 2) := dc_21 (byA eNcX11_walk (p := 92) (v := 21) (by decide +kernel)) (byA eNcX11_walk (p := 93) (v := 8) (by decide +kernel))
theorem dX11_walk_94 : decode cX11_walk 94 = .ok (.iaload, 1) := dc_46 (byA eNcX11_walk (p := 94) (v := 46) (by decide +kernel))
theorem dX11_walk_95 : decode cX11_walk 95 = .ok (.aload_n 0, 1) := dc_42 (byA eNcX11_walk (p := 95) (v := 42) (by decide +kernel))
theorem dX11_walk_96 : decode cX11_walk 96 = .ok (.getfield 77, 3) := dc_180 (byA eNcX11_walk (p := 96) (v := 180) (by decide +kernel)) (byA eNcX11_walk (p := 97) (v := 0) (by decide +kernel)) (byA eNcX11_walk (p := 98) (v := 77) (by decide +kernel)) rfl
theorem dX11_walk_99 : decode cX11_walk 99 = .ok (.iload 8, 2) := dc_21 (byA eNcX11_walk (p := 99) (v := 21) (by decide +kernel)) (byA eNcX11_walk (p := 100) (v := 8) (by decide +kernel))
theorem dX11_walk_101 : decode cX11_walk 101 = .ok (.iaload, 1) := dc_46 (byA eNcX11_walk (p := 101) (v := 46) (by decide +kernel))
theorem dX11_walk_102 : decode cX11_walk 102 = .ok (.isub, 1) := dc_100 (byA eNcX11_walk (p := 102) (v := 100) (by decide +kernel))
theorem dX11_walk_103 : decode cX11_walk 103 = .ok (.aload_n 0, 1) := dc_42 (byA eNcX11_walk (p := 103) (v := 42) (by decide +kernel))
theorem dX11_walk_104 : decode cX11_walk 104 = .ok (.getfield 74, 3) := dc_180 (byA eNcX11_walk (p := 104) (v := 180) (by decide +kernel)) (byA eNcX11_walk (p := 105) (v := 0) (by decide +kernel)) (byA eNcX11_walk (p := 106) (v := 74) (by decide +kernel)) rfl
theorem dX11_walk_107 : decode cX11_walk 107 = .ok (.iload 8, 2) := dc_21 (byA eNcX11_walk (p := 107) (v := 21) (by decide +kernel)) (byA eNcX11_walk (p := 108) (v := 8) (by decide +kernel))
theorem dX11_walk_109 : decode cX11_walk 109 = .ok (.iaload, 1) := dc_46 (byA eNcX11_walk (p := 109) (v := 46) (by decide +kernel))
theorem dX11_walk_110 : decode cX11_walk 110 = .ok (.isub, 1) := dc_100 (byA eNcX11_walk (p := 110) (v := 100) (by decide +kernel))
theorem dX11_walk_111 : decode cX11_walk 111 = .ok (.iadd, 1) := dc_96 (byA eNcX11_walk (p := 111) (v := 96) (by decide +kernel))
theorem dX11_walk_112 : decode cX11_walk 112 = .ok (.istore 6, 2) := dc_54 (byA eNcX11_walk (p := 112) (v := 54) (by decide +kernel)) (byA eNcX11_walk (p := 113) (v := 6) (by decide +kernel))
theorem dX11_walk_114 : decode cX11_walk 114 = .ok (.iload 8, 2) := dc_21 (byA eNcX11_walk (p := 114) (v := 21) (by decide +kernel)) (byA eNcX11_walk (p := 115) (v := 8) (by decide +kernel))
theorem dX11_walk_116 : decode cX11_walk 116 = .ok (.istore 4, 2) := dc_54 (byA eNcX11_walk (p := 116) (v := 54) (by decide +kernel)) (byA eNcX11_walk (p := 117) (v := 4) (by decide +kernel))
theorem dX11_walk_118 : decode cX11_walk 118 = .ok (.iinc 7 1, 3) := dc_132 (byA eNcX11_walk (p := 118) (v := 132) (by decide +kernel)) (byA eNcX11_walk (p := 119) (v := 7) (by decide +kernel)) (byA eNcX11_walk (p := 120) (v := 1) (by decide +kernel)) (by decide +kernel)
theorem dX11_walk_121 : decode cX11_walk 121 = .ok (.goto (-71), 3) := dc_167 (byA eNcX11_walk (p := 121) (v := 167) (by decide +kernel)) (byA eNcX11_walk (p := 122) (v := 255) (by decide +kernel)) (byA eNcX11_walk (p := 123) (v := 185) (by decide +kernel)) (by decide +kernel)
theorem dX11_walk_124 : decode cX11_walk 124 = .ok (.iload_n 3, 1) := dc_29 (byA eNcX11_walk (p := 124) (v := 29) (by decide +kernel))
theorem dX11_walk_125 : decode cX11_walk 125 = .ok (.ifCond .ne 8, 3) := dc_154 (byA eNcX11_walk (p := 125) (v := 154) (by decide +kernel)) (byA eNcX11_walk (p := 126) (v := 0) (by decide +kernel)) (byA eNcX11_walk (p := 127) (v := 8) (by decide +kernel)) (by decide +kernel)
theorem dX11_walk_128 : decode cX11_walk 128 = .ok (.iload 5, 2) := dc_21 (byA eNcX11_walk (p := 128) (v := 21) (by decide +kernel)) (byA eNcX11_walk (p := 129) (v := 5) (by decide +kernel))
theorem dX11_walk_130 : decode cX11_walk 130 = .ok (.goto 5, 3) := dc_167 (byA eNcX11_walk (p := 130) (v := 167) (by decide +kernel)) (byA eNcX11_walk (p := 131) (v := 0) (by decide +kernel)) (byA eNcX11_walk (p := 132) (v := 5) (by decide +kernel)) (by decide +kernel)
theorem dX11_walk_133 : decode cX11_walk 133 = .ok (.iload 6, 2) := dc_21 (byA eNcX11_walk (p := 133) (v := 21) (by decide +kernel)) (byA eNcX11_walk (p := 134) (v := 6) (by decide +kernel))
theorem dX11_walk_135 : decode cX11_walk 135 = .ok (.ireturn, 1) := dc_172 (byA eNcX11_walk (p := 135) (v := 172) (by decide +kernel))
def X11_walk_L50 (l2 : Int) (l3 : Int) (k124 : Int → Int → Mm → Rs) : Nat → Int → Int → Int → Int → Mm → Rs
  | 0, _, _, _, _, _ => none
  | n + 1, l4, l5, l6, l7, μ => if (μ 70 37) ≤ l7 then (k124 l5 l6 μ) else (bd (X11_nth l2 l7 μ) fun v18 μ19 => ldA μ19 89 (iA (iM 8 l4) v18) fun v21 => ldA μ19 92 v18 fun v23 => ldA μ19 91 v18 fun v25 => ldA μ19 90 v18 fun v27 => lt_ (iA l6 (iS (iS v23 v25) v27)) fun v29 => X11_walk_L50 l2 l3 k124 n v18 (iA l5 v21) v29 (iA l7 1) μ19)
def X11_walk (l1 : Int) (l2 : Int) (l3 : Int) (μ : Mm) : Rs := bd (X11_isReady l1 μ) fun v1 μ2 => if v1 = 0 then (some ((-1), μ2)) else (bd (X11_isOrder l2 μ2) fun v5 μ6 => if v5 = 0 then (some ((-1), μ6)) else (bd (X11_in l3 0 1 μ6) fun v9 μ10 => if v9 = 0 then (some ((-1), μ10)) else (bd (X11_go l2 μ10) fun v13 μ14 => if v13 = 0 then (some ((-1), μ14)) else (X11_walk_L50 l2 l3 (fun v30 v31 μ32 => if l3 = 0 then (some (v30, μ32)) else (some (v31, μ32))) FU (μ14 70 37) 0 0 0 μ14))))
set_option maxHeartbeats 4000000 in
set_option maxRecDepth 100000 in
theorem kX11_walk_L50 (d : Nat) (hd : 7 ≤ d) {l2 : Int} {l3 : Int} {k124 : Int → Int → Mm → Rs} {r : Int} {μ' : Mm} (hk_124 : ∀ (v5 v6 : Int) (μ1 : Mm), k124 v5 v6 μ1 = some (r, μ') → VV d mX11_walk 124 [none, none, none, some (vI l3), none, some (vI v5), some (vI v6), none, none] [] μ1 r μ') : ∀ (n : Nat) {l4 l5 l6 l7 : Int} {μ : Mm}, X11_walk_L50 l2 l3 k124 n l4 l5 l6 l7 μ = some (r, μ') → VV d mX11_walk 50 [some (vR 70), none, some (vI l2), some (vI l3), some (vI l4), some (vI l5), some (vI l6), some (vI l7), none] [] μ r μ' := by
  intro n
  induction n with
  | zero => intro l4 l5 l6 l7 μ h; rw [X11_walk_L50] at h; cases h
  | succ n ih =>
    intro l4 l5 l6 l7 μ h
    rw [X11_walk_L50] at h
    refine V_iload (q := 52) dX11_walk_50 rfl rfl ?_
    refine V_aload_n (q := 53) dX11_walk_52 rfl rfl rfl ?_
    refine V_getI (q := 56) fl_X11_316 rfl rfl rfl dX11_walk_53 rfl ?_
    refine V_icmpge (q := 124) (q2 := 59) dX11_walk_56 (by decide) rfl (fun hc17 => ?_) (fun hc17 => ?_)
    · have h := ifT hc17 h
      exact V_weak (hk_124 _ _ _ h) (sb_n (sb_n (sb_n (sb_s rfl (sb_n (sb_s rfl (sb_s rfl (sb_n (sb_n sb_0)))))))))
    · have h := ifF hc17 h
      refine V_aload_n (q := 60) dX11_walk_59 rfl rfl rfl ?_
      refine V_iload_n (q := 61) dX11_walk_60 rfl rfl rfl ?_
      refine V_iload (q := 63) dX11_walk_61 rfl rfl ?_
      obtain ⟨v18, μ19, hc20, h⟩ := bd_i h
      refine V_cV1 (q := 66) (v := vI v18) (kX11_nth (d - 1) (by omega) hc20) (by omega) mv_X11_329 rfl rfl rfl rfl rfl rfl dX11_walk_63 rfl ?_
      refine V_istore (q := 68) dX11_walk_66 (Nat.le_of_ble_eq_true rfl) trivial rfl ?_
      refine V_iload (q := 70) dX11_walk_68 rfl rfl ?_
      refine V_aload_n (q := 71) dX11_walk_70 rfl rfl rfl ?_
      refine V_getO (q := 74) (t := 89) fl_X11_71 rfl rfl rfl rfl dX11_walk_71 rfl ?_
      refine V_bipush (q := 76) dX11_walk_74 rfl rfl rfl ?_
      refine V_iload (q := 78) dX11_walk_76 rfl rfl ?_
      refine V_imul (q := 79) dX11_walk_78 rfl ?_
      refine V_iload (q := 81) dX11_walk_79 rfl rfl ?_
      refine V_iadd (q := 82) dX11_walk_81 rfl ?_
      obtain ⟨hi22, h⟩ := ldA_i h
      refine V_iaload (q := 83) rfl hi22 dX11_walk_82 rfl ?_
      refine V_iadd (q := 84) dX11_walk_83 rfl ?_
      refine V_istore (q := 86) dX11_walk_84 (Nat.le_of_ble_eq_true rfl) trivial rfl ?_
      refine V_iload (q := 88) dX11_walk_86 rfl rfl ?_
      refine V_aload_n (q := 89) dX11_walk_88 rfl rfl rfl ?_
      refine V_getO (q := 92) (t := 92) fl_X11_80 rfl rfl rfl rfl dX11_walk_89 rfl ?_
      refine V_iload (q := 94) dX11_walk_92 rfl rfl ?_
      obtain ⟨hi24, h⟩ := ldA_i h
      refine V_iaload (q := 95) rfl hi24 dX11_walk_94 rfl ?_
      refine V_aload_n (q := 96) dX11_walk_95 rfl rfl rfl ?_
      refine V_getO (q := 99) (t := 91) fl_X11_77 rfl rfl rfl rfl dX11_walk_96 rfl ?_
      refine V_iload (q := 101) dX11_walk_99 rfl rfl ?_
      obtain ⟨hi26, h⟩ := ldA_i h
      refine V_iaload (q := 102) rfl hi26 dX11_walk_101 rfl ?_
      refine V_isub (q := 103) dX11_walk_102 rfl ?_
      refine V_aload_n (q := 104) dX11_walk_103 rfl rfl rfl ?_
      refine V_getO (q := 107) (t := 90) fl_X11_74 rfl rfl rfl rfl dX11_walk_104 rfl ?_
      refine V_iload (q := 109) dX11_walk_107 rfl rfl ?_
      obtain ⟨hi28, h⟩ := ldA_i h
      refine V_iaload (q := 110) rfl hi28 dX11_walk_109 rfl ?_
      refine V_isub (q := 111) dX11_walk_110 rfl ?_
      refine V_iadd (q := 112) dX11_walk_111 rfl ?_
      have h := lt_i h
      refine V_istore (q := 114) dX11_walk_112 (Nat.le_of_ble_eq_true rfl) trivial rfl ?_
      refine V_iload (q := 116) dX11_walk_114 rfl rfl ?_
      refine V_istore (q := 118) dX11_walk_116 (Nat.le_of_ble_eq_true rfl) trivial rfl ?_
      refine V_iinc (q := 121) dX11_walk_118 rfl (Nat.le_of_ble_eq_true rfl) trivial rfl ?_
      refine V_goto (q := 50) dX11_walk_121 (by decide) ?_
      exact V_weak (ih h) (sb_s rfl (sb_n (sb_s rfl (sb_s rfl (sb_s rfl (sb_s rfl (sb_s rfl (sb_s rfl (sb_n sb_0)))))))))
set_option maxHeartbeats 4000000 in
set_option maxRecDepth 100000 in
theorem kX11_walk (d : Nat) (hd : 7 ≤ d) {l1 : Int} {l2 : Int} {l3 : Int} {μ : Mm} {r : Int} {μ' : Mm} (h : X11_walk l1 l2 l3 μ = some (r, μ')) : CC d mX11_walk [vR 70, vI l1, vI l2, vI l3] μ r μ' := by
  unfold X11_walk at h
  refine V_enter (by decide) (Nat.le_of_ble_eq_true rfl) ?_
  show VV d mX11_walk 0 [some (vR 70), some (vI l1), some (vI l2), some (vI l3), none, none, none, none, none] [] μ r μ'
  refine V_aload_n (q := 1) dX11_walk_0 rfl rfl rfl ?_
  refine V_iload_n (q := 2) dX11_walk_1 rfl rfl rfl ?_
  obtain ⟨v1, μ2, hc3, h⟩ := bd_i h
  refine V_cV1 (q := 5) (v := vI v1) (kX11_isReady (d - 1) (by omega) hc3) (by omega) mv_X11_335 rfl rfl rfl rfl rfl rfl dX11_walk_2 rfl ?_
  refine V_ifeq (q := 33) (q2 := 8) dX11_walk_5 (by decide) rfl (fun hc4 => ?_) (fun hc4 => ?_)
  · have h := ifT hc4 h
    refine V_iconst (q := 34) dX11_walk_33 rfl rfl ?_
    exact V_iret rfl h dX11_walk_34
  · have h := ifF hc4 h
    refine V_aload_n (q := 9) dX11_walk_8 rfl rfl rfl ?_
    refine V_iload_n (q := 10) dX11_walk_9 rfl rfl rfl ?_
    obtain ⟨v5, μ6, hc7, h⟩ := bd_i h
    refine V_cV1 (q := 13) (v := vI v5) (kX11_isOrder (d - 1) (by omega) hc7) (by omega) mv_X11_338 rfl rfl rfl rfl rfl rfl dX11_walk_10 rfl ?_
    refine V_ifeq (q := 33) (q2 := 16) dX11_walk_13 (by decide) rfl (fun hc8 => ?_) (fun hc8 => ?_)
    · have h := ifT hc8 h
      refine V_iconst (q := 34) dX11_walk_33 rfl rfl ?_
      exact V_iret rfl h dX11_walk_34
    · have h := ifF hc8 h
      refine V_iload_n (q := 17) dX11_walk_16 rfl rfl rfl ?_
      refine V_iconst (q := 18) dX11_walk_17 rfl rfl ?_
      refine V_iconst (q := 19) dX11_walk_18 rfl rfl ?_
      obtain ⟨v9, μ10, hc11, h⟩ := bd_i h
      refine V_cS1 (q := 22) (v := vI v9) (kX11_in (d - 1) (by omega) hc11) (by omega) mv_X11_213 rfl rfl rfl rfl dX11_walk_19 rfl ?_
      refine V_ifeq (q := 33) (q2 := 25) dX11_walk_22 (by decide) rfl (fun hc12 => ?_) (fun hc12 => ?_)
      · have h := ifT hc12 h
        refine V_iconst (q := 34) dX11_walk_33 rfl rfl ?_
        exact V_iret rfl h dX11_walk_34
      · have h := ifF hc12 h
        refine V_aload_n (q := 26) dX11_walk_25 rfl rfl rfl ?_
        refine V_iload_n (q := 27) dX11_walk_26 rfl rfl rfl ?_
        obtain ⟨v13, μ14, hc15, h⟩ := bd_i h
        refine V_cV1 (q := 30) (v := vI v13) (kX11_go (d - 1) (by omega) hc15) (by omega) mv_X11_341 rfl rfl rfl rfl rfl rfl dX11_walk_27 rfl ?_
        refine V_ifne (q := 35) (q2 := 33) dX11_walk_30 (by decide) rfl (fun hc16 => ?_) (fun hc16 => ?_)
        · have h := ifF hc16 h
          refine V_aload_n (q := 36) dX11_walk_35 rfl rfl rfl ?_
          refine V_getI (q := 39) fl_X11_316 rfl rfl rfl dX11_walk_36 rfl ?_
          refine V_istore (q := 41) dX11_walk_39 (Nat.le_of_ble_eq_true rfl) trivial rfl ?_
          refine V_iconst (q := 42) dX11_walk_41 rfl rfl ?_
          refine V_istore (q := 44) dX11_walk_42 (Nat.le_of_ble_eq_true rfl) trivial rfl ?_
          refine V_iconst (q := 45) dX11_walk_44 rfl rfl ?_
          refine V_istore (q := 47) dX11_walk_45 (Nat.le_of_ble_eq_true rfl) trivial rfl ?_
          refine V_iconst (q := 48) dX11_walk_47 rfl rfl ?_
          refine V_istore (q := 50) dX11_walk_48 (Nat.le_of_ble_eq_true rfl) trivial rfl ?_
          refine V_weak (kX11_walk_L50 d hd (fun v30 v31 μ32 h => ?_) FU h) (sb_s rfl (sb_n (sb_s rfl (sb_s rfl (sb_s rfl (sb_s rfl (sb_s rfl (sb_s rfl (sb_n sb_0)))))))))
          refine V_iload_n (q := 125) dX11_walk_124 rfl rfl rfl ?_
          refine V_ifne (q := 133) (q2 := 128) dX11_walk_125 (by decide) rfl (fun hc33 => ?_) (fun hc33 => ?_)
          · have h := ifF hc33 h
            refine V_iload (q := 135) dX11_walk_133 rfl rfl ?_
            exact V_iret rfl h dX11_walk_135
          · have h := ifT hc33 h
            refine V_iload (q := 130) dX11_walk_128 rfl rfl ?_
            refine V_goto (q := 135) dX11_walk_130 (by decide) ?_
            exact V_iret rfl h dX11_walk_135
        · have h := ifT hc16 h
          refine V_iconst (q := 34) dX11_walk_33 rfl rfl ?_
          exact V_iret rfl h dX11_walk_34
abbrev mX11_mend : Mth := (yX11_mend, cX11_mend, 9, some .int)
set_option maxRecDepth 100000 in
theorem mi_X11_mend : Cond.instanceMethod yX11_mend ∈ tG ∧ Cond.selects yX11_mend.cls yX11_mend yX11_mend ∈ tG ∧ Cond.initialized yX11_mend.cls ∈ tG ∧ Cond.code yX11_mend cX11_mend 9 (some .int) ∈ tG ∧ (yX11_mend.cls ≠ "java/lang/invoke/MethodHandle" ∧ yX11_mend.cls ≠ "java/lang/invoke/VarHandle" ∧ (parseMethodDescriptor yX11_mend.desc).map (fun d => d.parameters.length) = some 3) ∧ 9 ≤ 60 := ⟨(tG_of (tb7 (List.mem_of_getElem? (i := 153) rfl)) (by decide +kernel)), (tG_of (tb7 (List.mem_of_getElem? (i := 154) rfl)) (by decide +kernel)), (tG_of (tb1 (List.mem_of_getElem? (i := 12) rfl)) (by decide +kernel)), (tG_of (tb7 (List.mem_of_getElem? (i := 155) rfl)) (by decide +kernel)), ⟨by decide, by decide, by decide +kernel⟩, by decide⟩
theorem dX11_mend_0 : decode cX11_mend 0 = .ok (.aload_n 0, 1) := dc_42 (byA eNcX11_mend (p := 0) (v := 42) (by decide +kernel))
theorem dX11_mend_1 : decode cX11_mend 1 = .ok (.iload_n 1, 1) := dc_27 (byA eNcX11_mend (p := 1) (v := 27) (by decide +kernel))
theorem dX11_mend_2 : decode cX11_mend 2 = .ok (.invokevirtual 335, 3) := dc_182 (byA eNcX11_mend (p := 2) (v := 182) (by decide +kernel)) (byA eNcX11_mend (p := 3) (v := 1) (by decide +kernel)) (byA eNcX11_mend (p := 4) (v := 79) (by decide +kernel)) rfl
theorem dX11_mend_5 : decode cX11_mend 5 = .ok (.ifCond .eq 24, 3) := dc_153 (byA eNcX11_mend (p := 5) (v := 153) (by decide +kernel)) (byA eNcX11_mend (p := 6) (v := 0) (by decide +kernel)) (byA eNcX11_mend (p := 7) (v := 24) (by decide +kernel)) (by decide +kernel)
theorem dX11_mend_8 : decode cX11_mend 8 = .ok (.iload_n 2, 1) := dc_28 (byA eNcX11_mend (p := 8) (v := 28) (by decide +kernel))
theorem dX11_mend_9 : decode cX11_mend 9 = .ok (.iconst 0, 1) := dc_3 (byA eNcX11_mend (p := 9) (v := 3) (by decide +kernel))
theorem dX11_mend_10 : decode cX11_mend 10 = .ok (.aload_n 0, 1) := dc_42 (byA eNcX11_mend (p := 10) (v := 42) (by decide +kernel))
theorem dX11_mend_11 : decode cX11_mend 11 = .ok (.getfield 316, 3) := dc_180 (byA eNcX11_mend (p := 11) (v := 180) (by decide +kernel)) (byA eNcX11_mend (p := 12) (v := 1) (by decide +kernel)) (byA eNcX11_mend (p := 13) (v := 60) (by decide +kernel)) rfl
theorem dX11_mend_14 : decode cX11_mend 14 = .ok (.invokestatic 213, 3) := dc_184 (byA eNcX11_mend (p := 14) (v := 184) (by decide +kernel)) (byA eNcX11_mend (p := 15) (v := 0) (by decide +kernel)) (byA eNcX11_mend (p := 16) (v := 213) (by decide +kernel)) rfl
theorem dX11_mend_17 : decode cX11_mend 17 = .ok (.ifCond .eq 12, 3) := dc_153 (byA eNcX11_mend (p := 17) (v := 153) (by decide +kernel)) (byA eNcX11_mend (p := 18) (v := 0) (by decide +kernel)) (byA eNcX11_mend (p := 19) (v := 12) (by decide +kernel)) (by decide +kernel)
theorem dX11_mend_20 : decode cX11_mend 20 = .ok (.iload_n 3, 1) := dc_29 (byA eNcX11_mend (p := 20) (v := 29) (by decide +kernel))
theorem dX11_mend_21 : decode cX11_mend 21 = .ok (.iconst 0, 1) := dc_3 (byA eNcX11_mend (p := 21) (v := 3) (by decide +kernel))
theorem dX11_mend_22 : decode cX11_mend 22 = .ok (.iconst 1, 1) := dc_4 (byA eNcX11_mend (p := 22) (v := 4) (by decide +kernel))
theorem dX11_mend_23 : decode cX11_mend 23 = .ok (.invokestatic 213, 3) := dc_184 (byA eNcX11_mend (p := 23) (v := 184) (by decide +kernel)) (byA eNcX11_mend (p := 24) (v := 0) (by decide +kernel)) (byA eNcX11_mend (p := 25) (v := 213) (by decide +kernel)) rfl
theorem dX11_mend_26 : decode cX11_mend 26 = .ok (.ifCond .ne 5, 3) := dc_154 (byA eNcX11_mend (p := 26) (v := 154) (by decide +kernel)) (byA eNcX11_mend (p := 27) (v := 0) (by decide +kernel)) (byA eNcX11_mend (p := 28) (v := 5) (by decide +kernel)) (by decide +kernel)
theorem dX11_mend_29 : decode cX11_mend 29 = .ok (.iconst (-1), 1) := dc_2 (byA eNcX11_mend (p := 29) (v := 2) (by decide +kernel))
theorem dX11_mend_30 : decode cX11_mend 30 = .ok (.ireturn, 1) := dc_172 (byA eNcX11_mend (p := 30) (v := 172) (by decide +kernel))
theorem dX11_mend_31 : decode cX11_mend 31 = .ok (.aload_n 0, 1) := dc_42 (byA eNcX11_mend (p := 31) (v := 42) (by decide +kernel))
theorem dX11_mend_32 : decode cX11_mend 32 = .ok (.getfield 316, 3) := dc_180 (byA eNcX11_mend (p := 32) (v := 180) (by decide +kernel)) (byA eNcX11_mend (p := 33) (v := 1) (by decide +kernel)) (byA eNcX11_mend (p := 34) (v := 60) (by decide +kernel)) rfl
theorem dX11_mend_35 : decode cX11_mend 35 = .ok (.istore 4, 2) := dc_54 (byA eNcX11_mend (p := 35) (v := 54) (by decide +kernel)) (byA eNcX11_mend (p := 36) (v := 4) (by decide +kernel))
theorem dX11_mend_37 : decode cX11_mend 37 = .ok (.iconst 0, 1) := dc_3 (byA eNcX11_mend (p := 37) (v := 3) (by decide +kernel))
theorem dX11_mend_38 : decode cX11_mend 38 = .ok (.istore 5, 2) := dc_54 (byA eNcX11_mend (p := 38) (v := 54) (by decide +kernel)) (byA eNcX11_mend (p := 39) (v := 5) (by decide +kernel))
theorem dX11_mend_40 : decode cX11_mend 40 = .ok (.iconst 0, 1) := dc_3 (byA eNcX11_mend (p := 40) (v := 3) (by decide +kernel))
theorem dX11_mend_41 : decode cX11_mend 41 = .ok (.istore 6, 2) := dc_54 (byA eNcX11_mend (p := 41) (v := 54) (by decide +kernel)) (byA eNcX11_mend (p := 42) (v := 6) (by decide +kernel))
theorem dX11_mend_43 : decode cX11_mend 43 = .ok (.iconst 0, 1) := dc_3 (byA eNcX11_mend (p := 43) (v := 3) (by decide +kernel))
theorem dX11_mend_44 : decode cX11_mend 44 = .ok (.istore 7, 2) := dc_54 (byA eNcX11_mend (p := 44) (v := 54) (by decide +kernel)) (byA eNcX11_mend (p := 45) (v := 7) (by decide +kernel))
theorem dX11_mend_46 : decode cX11_mend 46 = .ok (.iconst 0, 1) := dc_3 (byA eNcX11_mend (p := 46) (v := 3) (by decide +kernel))
theorem dX11_mend_47 : decode cX11_mend 47 = .ok (.istore 8, 2) := dc_54 (byA eNcX11_mend (p := 47) (v := 54) (by decide +kernel)) (byA eNcX11_mend (p := 48) (v := 8) (by decide +kernel))
theorem dX11_mend_49 : decode cX11_mend 49 = .ok (.iload 8, 2) := dc_21 (byA eNcX11_mend (p := 49) (v := 21) (by decide +kernel)) (byA eNcX11_mend (p := 50) (v := 8) (by decide +kernel))
theorem dX11_mend_51 : decode cX11_mend 51 = .ok (.iload_n 2, 1) := dc_28 (byA eNcX11_mend (p := 51) (v := 28) (by decide +kernel))
theorem dX11_mend_52 : decode cX11_mend 52 = .ok (.if_icmp .ge 98, 3) := dc_162 (byA eNcX11_mend (p := 52) (v := 162) (by decide +kernel)) (byA eNcX11_mend (p := 53) (v := 0) (by decide +kernel)) (byA eNcX11_mend (p := 54) (v := 98) (by decide +kernel)) (by decide +kernel)
theorem dX11_mend_55 : decode cX11_mend 55 = .ok (.aload_n 0, 1) := dc_42 (byA eNcX11_mend (p := 55) (v := 42) (by decide +kernel))
theorem dX11_mend_56 : decode cX11_mend 56 = .ok (.getfield 71, 3) := dc_180 (byA eNcX11_mend (p := 56) (v := 180) (by decide +kernel)) (byA eNcX11_mend (p := 57) (v := 0) (by decide +kernel)) (byA eNcX11_mend (p := 58) (v := 71) (by decide +kernel)) rfl
theorem dX11_mend_59 : decode cX11_mend 59 = .ok (.bipush 8, 2) := dc_16 (byA eNcX11_mend (p := 59) (v := 16) (by decide +kernel)) (byA eNcX11_mend (p := 60) (v := 8) (by decide +kernel)) (by decide +kernel)
theorem dX11_mend_61 : decode cX11_mend 61 = .ok (.iload 4, 2) := dc_21 (byA eNcX11_mend (p := 61) (v := 21) (by decide +kernel)) (byA eNcX11_mend (p := 62) (v := 4) (by decide +kernel))
theorem dX11_mend_63 : decode cX11_mend 63 = .ok (.imul, 1) := dc_104 (byA eNcX11_mend (p := 63) (v := 104) (by decide +kernel))
theorem dX11_mend_64 : decode cX11_mend 64 = .ok (.iload 8, 2) := dc_21 (byA eNcX11_mend (p := 64) (v := 21) (by decide +kernel)) (byA eNcX11_mend (p := 65) (v := 8) (by decide +kernel))
theorem dX11_mend_66 : decode cX11_mend 66 = .ok (.iadd, 1) := dc_96 (byA eNcX11_mend (p := 66) (v := 96) (by decide +kernel))
theorem dX11_mend_67 : decode cX11_mend 67 = .ok (.iaload, 1) := dc_46 (byA eNcX11_mend (p := 67) (v := 46) (by decide +kernel))
theorem dX11_mend_68 : decode cX11_mend 68 = .ok (.iconst (-1), 1) := dc_2 (byA eNcX11_mend (p := 68) (v := 2) (by decide +kernel))
theorem dX11_mend_69 : decode cX11_mend 69 = .ok (.if_icmp .ne 5, 3) := dc_160 (byA eNcX11_mend (p := 69) (v := 160) (by decide +kernel)) (byA eNcX11_mend (p := 70) (v := 0) (by decide +kernel)) (byA eNcX11_mend (p := 71) (v := 5) (by decide +kernel)) (by decide +kernel)
theorem dX11_mend_72 : decode cX11_mend 72 = .ok (.iconst (-1), 1) := dc_2 (byA eNcX11_mend (p := 72) (v := 2) (by decide +kernel))
theorem dX11_mend_73 : decode cX11_mend 73 = .ok (.ireturn, 1) := dc_172 (byA eNcX11_mend (p := 73) (v := 172) (by decide +kernel))
theorem dX11_mend_74 : decode cX11_mend 74 = .ok (.iload 5, 2) := dc_21 (byA eNcX11_mend (p := 74) (v := 21) (by decide +kernel)) (byA eNcX11_mend (p := 75) (v := 5) (by decide +kernel))
theorem dX11_mend_76 : decode cX11_mend 76 = .ok (.aload_n 0, 1) := dc_42 (byA eNcX11_mend (p := 76) (v := 42) (by decide +kernel))
theorem dX11_mend_77 : decode cX11_mend 77 = .ok (.getfield 71, 3) := dc_180 (byA eNcX11_mend (p := 77) (v := 180) (by decide +kernel)) (byA eNcX11_mend (p := 78) (v := 0) (by decide +kernel)) (byA eNcX11_mend (p := 79) (v := 71) (by decide +kernel)) rfl
theorem dX11_mend_80 : decode cX11_mend 80 = .ok (.bipush 8, 2) := dc_16 (byA eNcX11_mend (p := 80) (v := 16) (by decide +kernel)) (byA eNcX11_mend (p := 81) (v := 8) (by decide +kernel)) (by decide +kernel)
theorem dX11_mend_82 : decode cX11_mend 82 = .ok (.iload 4, 2) := dc_21 (byA eNcX11_mend (p := 82) (v := 21) (by decide +kernel)) (byA eNcX11_mend (p := 83) (v := 4) (by decide +kernel))
theorem dX11_mend_84 : decode cX11_mend 84 = .ok (.imul, 1) := dc_104 (byA eNcX11_mend (p := 84) (v := 104) (by decide +kernel))
theorem dX11_mend_85 : decode cX11_mend 85 = .ok (.iload 8, 2) := dc_21 (byA eNcX11_mend (p := 85) (v := 21) (by decide +kernel)) (byA eNcX11_mend (p := 86) (v := 8) (by decide +kernel))
theorem dX11_mend_87 : decode cX11_mend 87 = .ok (.iadd, 1) := dc_96 (byA eNcX11_mend (p := 87) (v := 96) (by decide +kernel))
theorem dX11_mend_88 : decode cX11_mend 88 = .ok (.iaload, 1) := dc_46 (byA eNcX11_mend (p := 88) (v := 46) (by decide +kernel))
theorem dX11_mend_89 : decode cX11_mend 89 = .ok (.aload_n 0, 1) := dc_42 (byA eNcX11_mend (p := 89) (v := 42) (by decide +kernel))
theorem dX11_mend_90 : decode cX11_mend 90 = .ok (.getfield 319, 3) := dc_180 (byA eNcX11_mend (p := 90) (v := 180) (by decide +kernel)) (byA eNcX11_mend (p := 91) (v := 1) (by decide +kernel)) (byA eNcX11_mend (p := 92) (v := 63) (by decide +kernel)) rfl
theorem dX11_mend_93 : decode cX11_mend 93 = .ok (.imul, 1) := dc_104 (byA eNcX11_mend (p := 93) (v := 104) (by decide +kernel))
theorem dX11_mend_94 : decode cX11_mend 94 = .ok (.iadd, 1) := dc_96 (byA eNcX11_mend (p := 94) (v := 96) (by decide +kernel))
theorem dX11_mend_95 : decode cX11_mend 95 = .ok (.aload_n 0, 1) := dc_42 (byA eNcX11_mend (p := 95) (v := 42) (by decide +kernel))
theorem dX11_mend_96 : decode cX11_mend 96 = .ok (.getfield 74, 3) := dc_180 (byA eNcX11_mend (p := 96) (v := 180) (by decide +kernel)) (byA eNcX11_mend (p := 97) (v := 0) (by decide +kernel)) (byA eNcX11_mend (p := 98) (v := 74) (by decide +kernel)) rfl
theorem dX11_mend_99 : decode cX11_mend 99 = .ok (.iload 8, 2) := dc_21 (byA eNcX11_mend (p := 99) (v := 21) (by decide +kernel)) (byA eNcX11_mend (p := 100) (v := 8) (by decide +kernel))
theorem dX11_mend_101 : decode cX11_mend 101 = .ok (.iaload, 1) := dc_46 (byA eNcX11_mend (p := 101) (v := 46) (by decide +kernel))
theorem dX11_mend_102 : decode cX11_mend 102 = .ok (.iadd, 1) := dc_96 (byA eNcX11_mend (p := 102) (v := 96) (by decide +kernel))
theorem dX11_mend_103 : decode cX11_mend 103 = .ok (.aload_n 0, 1) := dc_42 (byA eNcX11_mend (p := 103) (v := 42) (by decide +kernel))
theorem dX11_mend_104 : decode cX11_mend 104 = .ok (.getfield 68, 3) := dc_180 (byA eNcX11_mend (p := 104) (v := 180) (by decide +kernel)) (byA eNcX11_mend (p := 105) (v := 0) (by decide +kernel)) (byA eNcX11_mend (p := 106) (v := 68) (by decide +kernel)) rfl
theorem dX11_mend_107 : decode cX11_mend 107 = .ok (.iload 8, 2) := dc_21 (byA eNcX11_mend (p := 107) (v := 21) (by decide +kernel)) (byA eNcX11_mend (p := 108) (v := 8) (by decide +kernel))
theorem dX11_mend_109 : decode cX11_mend 109 = .ok (.iaload, 1) := dc_46 (byA eNcX11_mend (p := 109) (v := 46) (by decide +kernel))
theorem dX11_mend_110 : decode cX11_mend 110 = .ok (.invokestatic 302, 3) := dc_184 (byA eNcX11_mend (p := 110) (v := 184) (by decide +kernel)) (byA eNcX11_mend (p := 111) (v := 1) (by decide +kernel)) (byA eNcX11_mend (p := 112) (v := 46) (by decide +kernel)) rfl
theorem dX11_mend_113 : decode cX11_mend 113 = .ok (.istore 5, 2) := dc_54 (byA eNcX11_mend (p := 113) (v := 54) (by decide +kernel)) (byA eNcX11_mend (p := 114) (v := 5) (by decide +kernel))
theorem dX11_mend_115 : decode cX11_mend 115 = .ok (.iload 6, 2) := dc_21 (byA eNcX11_mend (p := 115) (v := 21) (by decide +kernel)) (byA eNcX11_mend (p := 116) (v := 6) (by decide +kernel))
theorem dX11_mend_117 : decode cX11_mend 117 = .ok (.iload 5, 2) := dc_21 (byA eNcX11_mend (p := 117) (v := 21) (by decide +kernel)) (byA eNcX11_mend (p := 118) (v := 5) (by decide +kernel))
theorem dX11_mend_119 : decode cX11_mend 119 = .ok (.aload_n 0, 1) := dc_42 (byA eNcX11_mend (p := 119) (v := 42) (by decide +kernel))
theorem dX11_mend_120 : decode cX11_mend 120 = .ok (.getfield 68, 3) := dc_180 (byA eNcX11_mend (p := 120) (v := 180) (by decide +kernel)) (byA eNcX11_mend (p := 121) (v := 0) (by decide +kernel)) (byA eNcX11_mend (p := 122) (v := 68) (by decide +kernel)) rfl
theorem dX11_mend_123 : decode cX11_mend 123 = .ok (.iload 8, 2) := dc_21 (byA eNcX11_mend (p := 123) (v := 21) (by decide +kernel)) (byA eNcX11_mend (p := 124) (v := 8) (by decide +kernel))
theorem dX11_mend_125 : decode cX11_mend 125 = .ok (.iaload, 1) := dc_46 (byA eNcX11_mend (p := 125) (v := 46) (by decide +kernel))
theorem dX11_mend_126 : decode cX11_mend 126 = .ok (.isub, 1) := dc_100 (byA eNcX11_mend (p := 126) (v := 100) (by decide +kernel))
theorem dX11_mend_127 : decode cX11_mend 127 = .ok (.iadd, 1) := dc_96 (byA eNcX11_mend (p := 127) (v := 96) (by decide +kernel))
theorem dX11_mend_128 : decode cX11_mend 128 = .ok (.istore 6, 2) := dc_54 (byA eNcX11_mend (p := 128) (v := 54) (by decide +kernel)) (byA eNcX11_mend (p := 129) (v := 6) (by decide +kernel))
theorem dX11_mend_130 : decode cX11_mend 130 = .ok (.bipush 10, 2) := dc_16 (byA eNcX11_mend (p := 130) (v := 16) (by decide +kernel)) (byA eNcX11_mend (p := 131) (v := 10) (by decide +kernel)) (by decide +kernel)
theorem dX11_mend_132 : decode cX11_mend 132 = .ok (.iload 7, 2) := dc_21 (byA eNcX11_mend (p := 132) (v := 21) (by decide +kernel)) (byA eNcX11_mend (p := 133) (v := 7) (by decide +kernel))
theorem dX11_mend_134 : decode cX11_mend 134 = .ok (.imul, 1) := dc_104 (byA eNcX11_mend (p := 134) (v := 104) (by decide +kernel))
theorem dX11_mend_135 : decode cX11_mend 135 = .ok (.iload 8, 2) := dc_21 (byA eNcX11_mend (p := 135) (v := 21) (by decide +kernel)) (byA eNcX11_mend (p := 136) (v := 8) (by decide +kernel))
theorem dX11_mend_137 : decode cX11_mend 137 = .ok (.iadd, 1) := dc_96 (byA eNcX11_mend (p := 137) (v := 96) (by decide +kernel))
theorem dX11_mend_138 : decode cX11_mend 138 = .ok (.istore 7, 2) := dc_54 (byA eNcX11_mend (p := 138) (v := 54) (by decide +kernel)) (byA eNcX11_mend (p := 139) (v := 7) (by decide +kernel))
theorem dX11_mend_140 : decode cX11_mend 140 = .ok (.iload 8, 2) := dc_21 (byA eNcX11_mend (p := 140) (v := 21) (by decide +kernel)) (byA eNcX11_mend (p := 141) (v := 8) (by decide +kernel))
theorem dX11_mend_142 : decode cX11_mend 142 = .ok (.istore 4, 2) := dc_54 (byA eNcX11_mend (p := 142) (v := 54) (by decide +kernel)) (byA eNcX11_mend (p := 143) (v := 4) (by decide +kernel))
theorem dX11_mend_144 : decode cX11_mend 144 = .ok (.iinc 8 1, 3) := dc_132 (byA eNcX11_mend (p := 144) (v := 132) (by decide +kernel)) (byA eNcX11_mend (p := 145) (v := 8) (by decide +kernel)) (byA eNcX11_mend (p := 146) (v := 1) (by decide +kernel)) (by decide +kernel)
theorem dX11_mend_147 : decode cX11_mend 147 = .ok (.goto (-98), 3) := dc_167 (byA eNcX11_mend (p := 147) (v := 167) (by decide +kernel)) (byA eNcX11_mend (p := 148) (v := 255) (by decide +kernel)) (byA eNcX11_mend (p := 149) (v := 158) (by decide +kernel)) (by decide +kernel)
theorem dX11_mend_150 : decode cX11_mend 150 = .ok (.aload_n 0, 1) := dc_42 (byA eNcX11_mend (p := 150) (v := 42) (by decide +kernel))
theorem dX11_mend_151 : decode cX11_mend 151 = .ok (.iconst (-1), 1) := dc_2 (byA eNcX11_mend (p := 151) (v := 2) (by decide +kernel))
theorem dX11_mend_152 : decode cX11_mend 152 = .ok (.putfield 347, 3) := dc_181 (byA eNcX11_mend (p := 152) (v := 181) (by decide +kernel)) (byA eNcX11_mend (p := 153) (v := 1) (by decide +kernel)) (byA eNcX11_mend (p := 154) (v := 91) (by decide +kernel)) rfl
theorem dX11_mend_155 : decode cX11_mend 155 = .ok (.aload_n 0, 1) := dc_42 (byA eNcX11_mend (p := 155) (v := 42) (by decide +kernel))
theorem dX11_mend_156 : decode cX11_mend 156 = .ok (.iconst (-1), 1) := dc_2 (byA eNcX11_mend (p := 156) (v := 2) (by decide +kernel))
theorem dX11_mend_157 : decode cX11_mend 157 = .ok (.putfield 350, 3) := dc_181 (byA eNcX11_mend (p := 157) (v := 181) (by decide +kernel)) (byA eNcX11_mend (p := 158) (v := 1) (by decide +kernel)) (byA eNcX11_mend (p := 159) (v := 94) (by decide +kernel)) rfl
theorem dX11_mend_160 : decode cX11_mend 160 = .ok (.aload_n 0, 1) := dc_42 (byA eNcX11_mend (p := 160) (v := 42) (by decide +kernel))
theorem dX11_mend_161 : decode cX11_mend 161 = .ok (.iconst 0, 1) := dc_3 (byA eNcX11_mend (p := 161) (v := 3) (by decide +kernel))
theorem dX11_mend_162 : decode cX11_mend 162 = .ok (.aload_n 0, 1) := dc_42 (byA eNcX11_mend (p := 162) (v := 42) (by decide +kernel))
theorem dX11_mend_163 : decode cX11_mend 163 = .ok (.invokevirtual 357, 3) := dc_182 (byA eNcX11_mend (p := 163) (v := 182) (by decide +kernel)) (byA eNcX11_mend (p := 164) (v := 1) (by decide +kernel)) (byA eNcX11_mend (p := 165) (v := 101) (by decide +kernel)) rfl
theorem dX11_mend_166 : decode cX11_mend 166 = .ok (.iconst 1, 1) := dc_4 (byA eNcX11_mend (p := 166) (v := 4) (by decide +kernel))
theorem dX11_mend_167 : decode cX11_mend 167 = .ok (.iload_n 2, 1) := dc_28 (byA eNcX11_mend (p := 167) (v := 28) (by decide +kernel))
theorem dX11_mend_168 : decode cX11_mend 168 = .ok (.ishl, 1) := dc_120 (byA eNcX11_mend (p := 168) (v := 120) (by decide +kernel))
theorem dX11_mend_169 : decode cX11_mend 169 = .ok (.iconst 1, 1) := dc_4 (byA eNcX11_mend (p := 169) (v := 4) (by decide +kernel))
theorem dX11_mend_170 : decode cX11_mend 170 = .ok (.isub, 1) := dc_100 (byA eNcX11_mend (p := 170) (v := 100) (by decide +kernel))
theorem dX11_mend_171 : decode cX11_mend 171 = .ok (.iconst (-1), 1) := dc_2 (byA eNcX11_mend (p := 171) (v := 2) (by decide +kernel))
theorem dX11_mend_172 : decode cX11_mend 172 = .ok (.ixor, 1) := dc_130 (byA eNcX11_mend (p := 172) (v := 130) (by decide +kernel))
theorem dX11_mend_173 : decode cX11_mend 173 = .ok (.iand, 1) := dc_126 (byA eNcX11_mend (p := 173) (v := 126) (by decide +kernel))
theorem dX11_mend_174 : decode cX11_mend 174 = .ok (.iload 4, 2) := dc_21 (byA eNcX11_mend (p := 174) (v := 21) (by decide +kernel)) (byA eNcX11_mend (p := 175) (v := 4) (by decide +kernel))
theorem dX11_mend_176 : decode cX11_mend 176 = .ok (.iload 5, 2) := dc_21 (byA eNcX11_mend (p := 176) (v := 21) (by decide +kernel)) (byA eNcX11_mend (p := 177) (v := 5) (by decide +kernel))
theorem dX11_mend_178 : decode cX11_mend 178 = .ok (.iload 6, 2) := dc_21 (byA eNcX11_mend (p := 178) (v := 21) (by decide +kernel)) (byA eNcX11_mend (p := 179) (v := 6) (by decide +kernel))
theorem dX11_mend_180 : decode cX11_mend 180 = .ok (.iload 7, 2) := dc_21 (byA eNcX11_mend (p := 180) (v := 21) (by decide +kernel)) (byA eNcX11_mend (p := 181) (v := 7) (by decide +kernel))
theorem dX11_mend_182 : decode cX11_mend 182 = .ok (.invokevirtual 353, 3) := dc_182 (byA eNcX11_mend (p := 182) (v := 182) (by decide +kernel)) (byA eNcX11_mend (p := 183) (v := 1) (by decide +kernel)) (byA eNcX11_mend (p := 184) (v := 97) (by decide +kernel)) rfl
theorem dX11_mend_185 : decode cX11_mend 185 = .ok (.iload_n 3, 1) := dc_29 (byA eNcX11_mend (p := 185) (v := 29) (by decide +kernel))
theorem dX11_mend_186 : decode cX11_mend 186 = .ok (.ifCond .ne 10, 3) := dc_154 (byA eNcX11_mend (p := 186) (v := 154) (by decide +kernel)) (byA eNcX11_mend (p := 187) (v := 0) (by decide +kernel)) (byA eNcX11_mend (p := 188) (v := 10) (by decide +kernel)) (by decide +kernel)
theorem dX11_mend_189 : decode cX11_mend 189 = .ok (.aload_n 0, 1) := dc_42 (byA eNcX11_mend (p := 189) (v := 42) (by decide +kernel))
theorem dX11_mend_190 : decode cX11_mend 190 = .ok (.getfield 347, 3) := dc_180 (byA eNcX11_mend (p := 190) (v := 180) (by decide +kernel)) (byA eNcX11_mend (p := 191) (v := 1) (by decide +kernel)) (byA eNcX11_mend (p := 192) (v := 91) (by decide +kernel)) rfl
theorem dX11_mend_193 : decode cX11_mend 193 = .ok (.goto 7, 3) := dc_167 (byA eNcX11_mend (p := 193) (v := 167) (by decide +kernel)) (byA eNcX11_mend (p := 194) (v := 0) (by decide +kernel)) (byA eNcX11_mend (p := 195) (v := 7) (by decide +kernel)) (by decide +kernel)
theorem dX11_mend_196 : decode cX11_mend 196 = .ok (.aload_n 0, 1) := dc_42 (byA eNcX11_mend (p := 196) (v := 42) (by decide +kernel))
theorem dX11_mend_197 : decode cX11_mend 197 = .ok (.getfield 350, 3) := dc_180 (byA eNcX11_mend (p := 197) (v := 180) (by decide +kernel)) (byA eNcX11_mend (p := 198) (v := 1) (by decide +kernel)) (byA eNcX11_mend (p := 199) (v := 94) (by decide +kernel)) rfl
theorem dX11_mend_200 : decode cX11_mend 200 = .ok (.ireturn, 1) := dc_172 (byA eNcX11_mend (p := 200) (v := 172) (by decide +kernel))
def X11_mend_L49 (l2 : Int) (l3 : Int) (k150 : Int → Int → Int → Int → Mm → Rs) : Nat → Int → Int → Int → Int → Int → Mm → Rs
  | 0, _, _, _, _, _, _ => none
  | n + 1, l4, l5, l6, l7, l8, μ => if l2 ≤ l8 then (k150 l4 l5 l6 l7 μ) else (ldA μ 89 (iA (iM 8 l4) l8) fun v14 => if v14 = (-1) then (some ((-1), μ)) else (ldA μ 89 (iA (iM 8 l4) l8) fun v17 => ldA μ 90 l8 fun v19 => ldA μ 88 l8 fun v21 => lt_ (mX (iA (iA l5 (iM v17 (μ 70 38))) v19) v21) fun v23 => ldA μ 88 l8 fun v24 => lt_ (iA l6 (iS v23 v24)) fun v26 => lt_ (iA (iM 10 l7) l8) fun v27 => X11_mend_L49 l2 l3 k150 n l8 v23 v26 v27 (iA l8 1) μ))
def X11_mend (l1 : Int) (l2 : Int) (l3 : Int) (μ : Mm) : Rs := bd (X11_isReady l1 μ) fun v1 μ2 => if v1 = 0 then (some ((-1), μ2)) else (bd (X11_in l2 0 (μ2 70 37) μ2) fun v5 μ6 => if v5 = 0 then (some ((-1), μ6)) else (bd (X11_in l3 0 1 μ6) fun v9 μ10 => if v9 = 0 then (some ((-1), μ10)) else (X11_mend_L49 l2 l3 (fun v28 v29 v30 v31 μ32 => sF μ32 70 41 (-1) fun μ33 => sF μ33 70 42 (-1) fun μ34 => bd (X11_all μ34) fun v35 μ36 => bd (X11_search RD 0 (bA v35 (bX (iS (bL 1 l2) 1) (-1))) v28 v29 v30 v31 μ36) fun v38 μ39 => if l3 = 0 then (some (μ39 70 41, μ39)) else (some (μ39 70 42, μ39))) FU (μ10 70 37) 0 0 0 0 μ10)))
set_option maxHeartbeats 4000000 in
set_option maxRecDepth 100000 in
theorem kX11_mend_L49 (d : Nat) (hd : 133 ≤ d) {l2 : Int} {l3 : Int} {k150 : Int → Int → Int → Int → Mm → Rs} {r : Int} {μ' : Mm} (hk_150 : ∀ (v4 v5 v6 v7 : Int) (μ1 : Mm), k150 v4 v5 v6 v7 μ1 = some (r, μ') → VV d mX11_mend 150 [some (vR 70), none, some (vI l2), some (vI l3), some (vI v4), some (vI v5), some (vI v6), some (vI v7), none] [] μ1 r μ') : ∀ (n : Nat) {l4 l5 l6 l7 l8 : Int} {μ : Mm}, X11_mend_L49 l2 l3 k150 n l4 l5 l6 l7 l8 μ = some (r, μ') → VV d mX11_mend 49 [some (vR 70), none, some (vI l2), some (vI l3), some (vI l4), some (vI l5), some (vI l6), some (vI l7), some (vI l8)] [] μ r μ' := by
  intro n
  induction n with
  | zero => intro l4 l5 l6 l7 l8 μ h; rw [X11_mend_L49] at h; cases h
  | succ n ih =>
    intro l4 l5 l6 l7 l8 μ h
    rw [X11_mend_L49] at h
    refine V_iload (q := 51) dX11_mend_49 rfl rfl ?_
    refine V_iload_n (q := 52) dX11_mend_51 rfl rfl rfl ?_
    refine V_icmpge (q := 150) (q2 := 55) dX11_mend_52 (by decide) rfl (fun hc13 => ?_) (fun hc13 => ?_)
    · have h := ifT hc13 h
      exact V_weak (hk_150 _ _ _ _ _ h) (sb_s rfl (sb_n (sb_s rfl (sb_s rfl (sb_s rfl (sb_s rfl (sb_s rfl (sb_s rfl (sb_n sb_0)))))))))
    · have h := ifF hc13 h
      refine V_aload_n (q := 56) dX11_mend_55 rfl rfl rfl ?_
      refine V_getO (q := 59) (t := 89) fl_X11_71 rfl rfl rfl rfl dX11_mend_56 rfl ?_
      refine V_bipush (q := 61) dX11_mend_59 rfl rfl rfl ?_
      refine V_iload (q := 63) dX11_mend_61 rfl rfl ?_
      refine V_imul (q := 64) dX11_mend_63 rfl ?_
      refine V_iload (q := 66) dX11_mend_64 rfl rfl ?_
      refine V_iadd (q := 67) dX11_mend_66 rfl ?_
      obtain ⟨hi15, h⟩ := ldA_i h
      refine V_iaload (q := 68) rfl hi15 dX11_mend_67 rfl ?_
      refine V_iconst (q := 69) dX11_mend_68 rfl rfl ?_
      refine V_icmpne (q := 74) (q2 := 72) dX11_mend_69 (by decide) rfl (fun hc16 => ?_) (fun hc16 => ?_)
      · have h := ifF hc16 h
        refine V_iload (q := 76) dX11_mend_74 rfl rfl ?_
        refine V_aload_n (q := 77) dX11_mend_76 rfl rfl rfl ?_
        refine V_getO (q := 80) (t := 89) fl_X11_71 rfl rfl rfl rfl dX11_mend_77 rfl ?_
        refine V_bipush (q := 82) dX11_mend_80 rfl rfl rfl ?_
        refine V_iload (q := 84) dX11_mend_82 rfl rfl ?_
        refine V_imul (q := 85) dX11_mend_84 rfl ?_
        refine V_iload (q := 87) dX11_mend_85 rfl rfl ?_
        refine V_iadd (q := 88) dX11_mend_87 rfl ?_
        obtain ⟨hi18, h⟩ := ldA_i h
        refine V_iaload (q := 89) rfl hi18 dX11_mend_88 rfl ?_
        refine V_aload_n (q := 90) dX11_mend_89 rfl rfl rfl ?_
        refine V_getI (q := 93) fl_X11_319 rfl rfl rfl dX11_mend_90 rfl ?_
        refine V_imul (q := 94) dX11_mend_93 rfl ?_
        refine V_iadd (q := 95) dX11_mend_94 rfl ?_
        refine V_aload_n (q := 96) dX11_mend_95 rfl rfl rfl ?_
        refine V_getO (q := 99) (t := 90) fl_X11_74 rfl rfl rfl rfl dX11_mend_96 rfl ?_
        refine V_iload (q := 101) dX11_mend_99 rfl rfl ?_
        obtain ⟨hi20, h⟩ := ldA_i h
        refine V_iaload (q := 102) rfl hi20 dX11_mend_101 rfl ?_
        refine V_iadd (q := 103) dX11_mend_102 rfl ?_
        refine V_aload_n (q := 104) dX11_mend_103 rfl rfl rfl ?_
        refine V_getO (q := 107) (t := 88) fl_X11_68 rfl rfl rfl rfl dX11_mend_104 rfl ?_
        refine V_iload (q := 109) dX11_mend_107 rfl rfl ?_
        obtain ⟨hi22, h⟩ := ldA_i h
        refine V_iaload (q := 110) rfl hi22 dX11_mend_109 rfl ?_
        refine V_mmax (q := 113) mx_X11_302 (by omega) rfl dX11_mend_110 rfl ?_
        have h := lt_i h
        refine V_istore (q := 115) dX11_mend_113 (Nat.le_of_ble_eq_true rfl) trivial rfl ?_
        refine V_iload (q := 117) dX11_mend_115 rfl rfl ?_
        refine V_iload (q := 119) dX11_mend_117 rfl rfl ?_
        refine V_aload_n (q := 120) dX11_mend_119 rfl rfl rfl ?_
        refine V_getO (q := 123) (t := 88) fl_X11_68 rfl rfl rfl rfl dX11_mend_120 rfl ?_
        refine V_iload (q := 125) dX11_mend_123 rfl rfl ?_
        obtain ⟨hi25, h⟩ := ldA_i h
        refine V_iaload (q := 126) rfl hi25 dX11_mend_125 rfl ?_
        refine V_isub (q := 127) dX11_mend_126 rfl ?_
        refine V_iadd (q := 128) dX11_mend_127 rfl ?_
        have h := lt_i h
        refine V_istore (q := 130) dX11_mend_128 (Nat.le_of_ble_eq_true rfl) trivial rfl ?_
        refine V_bipush (q := 132) dX11_mend_130 rfl rfl rfl ?_
        refine V_iload (q := 134) dX11_mend_132 rfl rfl ?_
        refine V_imul (q := 135) dX11_mend_134 rfl ?_
        refine V_iload (q := 137) dX11_mend_135 rfl rfl ?_
        refine V_iadd (q := 138) dX11_mend_137 rfl ?_
        have h := lt_i h
        refine V_istore (q := 140) dX11_mend_138 (Nat.le_of_ble_eq_true rfl) trivial rfl ?_
        refine V_iload (q := 142) dX11_mend_140 rfl rfl ?_
        refine V_istore (q := 144) dX11_mend_142 (Nat.le_of_ble_eq_true rfl) trivial rfl ?_
        refine V_iinc (q := 147) dX11_mend_144 rfl (Nat.le_of_ble_eq_true rfl) trivial rfl ?_
        refine V_goto (q := 49) dX11_mend_147 (by decide) ?_
        exact V_weak (ih h) (sb_s rfl (sb_n (sb_s rfl (sb_s rfl (sb_s rfl (sb_s rfl (sb_s rfl (sb_s rfl (sb_s rfl sb_0)))))))))
      · have h := ifT hc16 h
        refine V_iconst (q := 73) dX11_mend_72 rfl rfl ?_
        exact V_iret rfl h dX11_mend_73
set_option maxHeartbeats 4000000 in
set_option maxRecDepth 100000 in
theorem kX11_mend (d : Nat) (hd : 133 ≤ d) {l1 : Int} {l2 : Int} {l3 : Int} {μ : Mm} {r : Int} {μ' : Mm} (h : X11_mend l1 l2 l3 μ = some (r, μ')) : CC d mX11_mend [vR 70, vI l1, vI l2, vI l3] μ r μ' := by
  unfold X11_mend at h
  refine V_enter (by decide) (Nat.le_of_ble_eq_true rfl) ?_
  show VV d mX11_mend 0 [some (vR 70), some (vI l1), some (vI l2), some (vI l3), none, none, none, none, none] [] μ r μ'
  refine V_aload_n (q := 1) dX11_mend_0 rfl rfl rfl ?_
  refine V_iload_n (q := 2) dX11_mend_1 rfl rfl rfl ?_
  obtain ⟨v1, μ2, hc3, h⟩ := bd_i h
  refine V_cV1 (q := 5) (v := vI v1) (kX11_isReady (d - 1) (by omega) hc3) (by omega) mv_X11_335 rfl rfl rfl rfl rfl rfl dX11_mend_2 rfl ?_
  refine V_ifeq (q := 29) (q2 := 8) dX11_mend_5 (by decide) rfl (fun hc4 => ?_) (fun hc4 => ?_)
  · have h := ifT hc4 h
    refine V_iconst (q := 30) dX11_mend_29 rfl rfl ?_
    exact V_iret rfl h dX11_mend_30
  · have h := ifF hc4 h
    refine V_iload_n (q := 9) dX11_mend_8 rfl rfl rfl ?_
    refine V_iconst (q := 10) dX11_mend_9 rfl rfl ?_
    refine V_aload_n (q := 11) dX11_mend_10 rfl rfl rfl ?_
    refine V_getI (q := 14) fl_X11_316 rfl rfl rfl dX11_mend_11 rfl ?_
    obtain ⟨v5, μ6, hc7, h⟩ := bd_i h
    refine V_cS1 (q := 17) (v := vI v5) (kX11_in (d - 1) (by omega) hc7) (by omega) mv_X11_213 rfl rfl rfl rfl dX11_mend_14 rfl ?_
    refine V_ifeq (q := 29) (q2 := 20) dX11_mend_17 (by decide) rfl (fun hc8 => ?_) (fun hc8 => ?_)
    · have h := ifT hc8 h
      refine V_iconst (q := 30) dX11_mend_29 rfl rfl ?_
      exact V_iret rfl h dX11_mend_30
    · have h := ifF hc8 h
      refine V_iload_n (q := 21) dX11_mend_20 rfl rfl rfl ?_
      refine V_iconst (q := 22) dX11_mend_21 rfl rfl ?_
      refine V_iconst (q := 23) dX11_mend_22 rfl rfl ?_
      obtain ⟨v9, μ10, hc11, h⟩ := bd_i h
      refine V_cS1 (q := 26) (v := vI v9) (kX11_in (d - 1) (by omega) hc11) (by omega) mv_X11_213 rfl rfl rfl rfl dX11_mend_23 rfl ?_
      refine V_ifne (q := 31) (q2 := 29) dX11_mend_26 (by decide) rfl (fun hc12 => ?_) (fun hc12 => ?_)
      · have h := ifF hc12 h
        refine V_aload_n (q := 32) dX11_mend_31 rfl rfl rfl ?_
        refine V_getI (q := 35) fl_X11_316 rfl rfl rfl dX11_mend_32 rfl ?_
        refine V_istore (q := 37) dX11_mend_35 (Nat.le_of_ble_eq_true rfl) trivial rfl ?_
        refine V_iconst (q := 38) dX11_mend_37 rfl rfl ?_
        refine V_istore (q := 40) dX11_mend_38 (Nat.le_of_ble_eq_true rfl) trivial rfl ?_
        refine V_iconst (q := 41) dX11_mend_40 rfl rfl ?_
        refine V_istore (q := 43) dX11_mend_41 (Nat.le_of_ble_eq_true rfl) trivial rfl ?_
        refine V_iconst (q := 44) dX11_mend_43 rfl rfl ?_
        refine V_istore (q := 46) dX11_mend_44 (Nat.le_of_ble_eq_true rfl) trivial rfl ?_
        refine V_iconst (q := 47) dX11_mend_46 rfl rfl ?_
        refine V_istore (q := 49) dX11_mend_47 (Nat.le_of_ble_eq_true rfl) trivial rfl ?_
        refine V_weak (kX11_mend_L49 d hd (fun v28 v29 v30 v31 μ32 h => ?_) FU h) (sb_s rfl (sb_n (sb_s rfl (sb_s rfl (sb_s rfl (sb_s rfl (sb_s rfl (sb_s rfl (sb_s rfl sb_0)))))))))
        refine V_aload_n (q := 151) dX11_mend_150 rfl rfl rfl ?_
        refine V_iconst (q := 152) dX11_mend_151 rfl rfl ?_
        have h := sF_i h
        refine V_putI (q := 155) fl_X11_347 rfl rfl rfl dX11_mend_152 rfl ?_
        refine V_aload_n (q := 156) dX11_mend_155 rfl rfl rfl ?_
        refine V_iconst (q := 157) dX11_mend_156 rfl rfl ?_
        have h := sF_i h
        refine V_putI (q := 160) fl_X11_350 rfl rfl rfl dX11_mend_157 rfl ?_
        refine V_aload_n (q := 161) dX11_mend_160 rfl rfl rfl ?_
        refine V_iconst (q := 162) dX11_mend_161 rfl rfl ?_
        refine V_aload_n (q := 163) dX11_mend_162 rfl rfl rfl ?_
        obtain ⟨v35, μ36, hc37, h⟩ := bd_i h
        refine V_cV1 (q := 166) (v := vI v35) (kX11_all (d - 1) (by omega) hc37) (by omega) mv_X11_357 rfl rfl rfl rfl rfl rfl dX11_mend_163 rfl ?_
        refine V_iconst (q := 167) dX11_mend_166 rfl rfl ?_
        refine V_iload_n (q := 168) dX11_mend_167 rfl rfl rfl ?_
        refine V_ishl (q := 169) dX11_mend_168 rfl ?_
        refine V_iconst (q := 170) dX11_mend_169 rfl rfl ?_
        refine V_isub (q := 171) dX11_mend_170 rfl ?_
        refine V_iconst (q := 172) dX11_mend_171 rfl rfl ?_
        refine V_ixor (q := 173) dX11_mend_172 rfl ?_
        refine V_iand (q := 174) dX11_mend_173 rfl ?_
        refine V_iload (q := 176) dX11_mend_174 rfl rfl ?_
        refine V_iload (q := 178) dX11_mend_176 rfl rfl ?_
        refine V_iload (q := 180) dX11_mend_178 rfl rfl ?_
        refine V_iload (q := 182) dX11_mend_180 rfl rfl ?_
        obtain ⟨v38, μ39, hc40, h⟩ := bd_i h
        refine V_cV0 (q := 185) (kX11_search RD (d - 1) (by unfold RD; omega) hc40) (by omega) mv_X11_353 rfl rfl rfl rfl rfl rfl dX11_mend_182 rfl ?_
        refine V_iload_n (q := 186) dX11_mend_185 rfl rfl rfl ?_
        refine V_ifne (q := 196) (q2 := 189) dX11_mend_186 (by decide) rfl (fun hc41 => ?_) (fun hc41 => ?_)
        · have h := ifF hc41 h
          refine V_aload_n (q := 197) dX11_mend_196 rfl rfl rfl ?_
          refine V_getI (q := 200) fl_X11_350 rfl rfl rfl dX11_mend_197 rfl ?_
          exact V_iret rfl h dX11_mend_200
        · have h := ifT hc41 h
          refine V_aload_n (q := 190) dX11_mend_189 rfl rfl rfl ?_
          refine V_getI (q := 193) fl_X11_347 rfl rfl rfl dX11_mend_190 rfl ?_
          refine V_goto (q := 200) dX11_mend_193 (by decide) ?_
          exact V_iret rfl h dX11_mend_200
      · have h := ifT hc12 h
        refine V_iconst (q := 30) dX11_mend_29 rfl rfl ?_
        exact V_iret rfl h dX11_mend_30
abbrev mX11_slack : Mth := (yX11_slack, cX11_slack, 7, some .int)
set_option maxRecDepth 100000 in
theorem mi_X11_slack : Cond.instanceMethod yX11_slack ∈ tG ∧ Cond.selects yX11_slack.cls yX11_slack yX11_slack ∈ tG ∧ Cond.initialized yX11_slack.cls ∈ tG ∧ Cond.code yX11_slack cX11_slack 7 (some .int) ∈ tG ∧ (yX11_slack.cls ≠ "java/lang/invoke/MethodHandle" ∧ yX11_slack.cls ≠ "java/lang/invoke/VarHandle" ∧ (parseMethodDescriptor yX11_slack.desc).map (fun d => d.parameters.length) = some 2) ∧ 7 ≤ 60 := ⟨(tG_of (tb7 (List.mem_of_getElem? (i := 157) rfl)) (by decide +kernel)), (tG_of (tb7 (List.mem_of_getElem? (i := 158) rfl)) (by decide +kernel)), (tG_of (tb1 (List.mem_of_getElem? (i := 12) rfl)) (by decide +kernel)), (tG_of (tb7 (List.mem_of_getElem? (i := 159) rfl)) (by decide +kernel)), ⟨by decide, by decide, by decide +kernel⟩, by decide⟩
theorem dX11_slack_0 : decode cX11_slack 0 = .ok (.aload_n 0, 1) := dc_42 (byA eNcX11_slack (p := 0) (v := 42) (by decide +kernel))
theorem dX11_slack_1 : decode cX11_slack 1 = .ok (.iload_n 1, 1) := dc_27 (byA eNcX11_slack (p := 1) (v := 27) (by decide +kernel))
theorem dX11_slack_2 : decode cX11_slack 2 = .ok (.invokevirtual 335, 3) := dc_182 (byA eNcX11_slack (p := 2) (v := 182) (by decide +kernel)) (byA eNcX11_slack (p := 3) (v := 1) (by decide +kernel)) (byA eNcX11_slack (p := 4) (v := 79) (by decide +kernel)) rfl
theorem dX11_slack_5 : decode cX11_slack 5 = .ok (.ifCond .eq 28, 3) := dc_153 (byA eNcX11_slack (p := 5) (v := 153) (by decide +kernel)) (byA eNcX11_slack (p := 6) (v := 0) (by decide +kernel)) (byA eNcX11_slack (p := 7) (v := 28) (by decide +kernel)) (by decide +kernel)
theorem dX11_slack_8 : decode cX11_slack 8 = .ok (.iload_n 2, 1) := dc_28 (byA eNcX11_slack (p := 8) (v := 28) (by decide +kernel))
theorem dX11_slack_9 : decode cX11_slack 9 = .ok (.iconst 0, 1) := dc_3 (byA eNcX11_slack (p := 9) (v := 3) (by decide +kernel))
theorem dX11_slack_10 : decode cX11_slack 10 = .ok (.aload_n 0, 1) := dc_42 (byA eNcX11_slack (p := 10) (v := 42) (by decide +kernel))
theorem dX11_slack_11 : decode cX11_slack 11 = .ok (.getfield 316, 3) := dc_180 (byA eNcX11_slack (p := 11) (v := 180) (by decide +kernel)) (byA eNcX11_slack (p := 12) (v := 1) (by decide +kernel)) (byA eNcX11_slack (p := 13) (v := 60) (by decide +kernel)) rfl
theorem dX11_slack_14 : decode cX11_slack 14 = .ok (.iconst 1, 1) := dc_4 (byA eNcX11_slack (p := 14) (v := 4) (by decide +kernel))
theorem dX11_slack_15 : decode cX11_slack 15 = .ok (.isub, 1) := dc_100 (byA eNcX11_slack (p := 15) (v := 100) (by decide +kernel))
theorem dX11_slack_16 : decode cX11_slack 16 = .ok (.invokestatic 213, 3) := dc_184 (byA eNcX11_slack (p := 16) (v := 184) (by decide +kernel)) (byA eNcX11_slack (p := 17) (v := 0) (by decide +kernel)) (byA eNcX11_slack (p := 18) (v := 213) (by decide +kernel)) rfl
theorem dX11_slack_19 : decode cX11_slack 19 = .ok (.ifCond .eq 14, 3) := dc_153 (byA eNcX11_slack (p := 19) (v := 153) (by decide +kernel)) (byA eNcX11_slack (p := 20) (v := 0) (by decide +kernel)) (byA eNcX11_slack (p := 21) (v := 14) (by decide +kernel)) (by decide +kernel)
theorem dX11_slack_22 : decode cX11_slack 22 = .ok (.aload_n 0, 1) := dc_42 (byA eNcX11_slack (p := 22) (v := 42) (by decide +kernel))
theorem dX11_slack_23 : decode cX11_slack 23 = .ok (.aload_n 0, 1) := dc_42 (byA eNcX11_slack (p := 23) (v := 42) (by decide +kernel))
theorem dX11_slack_24 : decode cX11_slack 24 = .ok (.invokevirtual 372, 3) := dc_182 (byA eNcX11_slack (p := 24) (v := 182) (by decide +kernel)) (byA eNcX11_slack (p := 25) (v := 1) (by decide +kernel)) (byA eNcX11_slack (p := 26) (v := 116) (by decide +kernel)) rfl
theorem dX11_slack_27 : decode cX11_slack 27 = .ok (.invokevirtual 341, 3) := dc_182 (byA eNcX11_slack (p := 27) (v := 182) (by decide +kernel)) (byA eNcX11_slack (p := 28) (v := 1) (by decide +kernel)) (byA eNcX11_slack (p := 29) (v := 85) (by decide +kernel)) rfl
theorem dX11_slack_30 : decode cX11_slack 30 = .ok (.ifCond .ne 5, 3) := dc_154 (byA eNcX11_slack (p := 30) (v := 154) (by decide +kernel)) (byA eNcX11_slack (p := 31) (v := 0) (by decide +kernel)) (byA eNcX11_slack (p := 32) (v := 5) (by decide +kernel)) (by decide +kernel)
theorem dX11_slack_33 : decode cX11_slack 33 = .ok (.iconst (-1), 1) := dc_2 (byA eNcX11_slack (p := 33) (v := 2) (by decide +kernel))
theorem dX11_slack_34 : decode cX11_slack 34 = .ok (.ireturn, 1) := dc_172 (byA eNcX11_slack (p := 34) (v := 172) (by decide +kernel))
theorem dX11_slack_35 : decode cX11_slack 35 = .ok (.aload_n 0, 1) := dc_42 (byA eNcX11_slack (p := 35) (v := 42) (by decide +kernel))
theorem dX11_slack_36 : decode cX11_slack 36 = .ok (.aload_n 0, 1) := dc_42 (byA eNcX11_slack (p := 36) (v := 42) (by decide +kernel))
theorem dX11_slack_37 : decode cX11_slack 37 = .ok (.invokevirtual 372, 3) := dc_182 (byA eNcX11_slack (p := 37) (v := 182) (by decide +kernel)) (byA eNcX11_slack (p := 38) (v := 1) (by decide +kernel)) (byA eNcX11_slack (p := 39) (v := 116) (by decide +kernel)) rfl
theorem dX11_slack_40 : decode cX11_slack 40 = .ok (.iconst 0, 1) := dc_3 (byA eNcX11_slack (p := 40) (v := 3) (by decide +kernel))
theorem dX11_slack_41 : decode cX11_slack 41 = .ok (.invokevirtual 344, 3) := dc_182 (byA eNcX11_slack (p := 41) (v := 182) (by decide +kernel)) (byA eNcX11_slack (p := 42) (v := 1) (by decide +kernel)) (byA eNcX11_slack (p := 43) (v := 88) (by decide +kernel)) rfl
theorem dX11_slack_44 : decode cX11_slack 44 = .ok (.istore_n 3, 1) := dc_62 (byA eNcX11_slack (p := 44) (v := 62) (by decide +kernel))
theorem dX11_slack_45 : decode cX11_slack 45 = .ok (.aload_n 0, 1) := dc_42 (byA eNcX11_slack (p := 45) (v := 42) (by decide +kernel))
theorem dX11_slack_46 : decode cX11_slack 46 = .ok (.getfield 74, 3) := dc_180 (byA eNcX11_slack (p := 46) (v := 180) (by decide +kernel)) (byA eNcX11_slack (p := 47) (v := 0) (by decide +kernel)) (byA eNcX11_slack (p := 48) (v := 74) (by decide +kernel)) rfl
theorem dX11_slack_49 : decode cX11_slack 49 = .ok (.iload_n 2, 1) := dc_28 (byA eNcX11_slack (p := 49) (v := 28) (by decide +kernel))
theorem dX11_slack_50 : decode cX11_slack 50 = .ok (.iaload, 1) := dc_46 (byA eNcX11_slack (p := 50) (v := 46) (by decide +kernel))
theorem dX11_slack_51 : decode cX11_slack 51 = .ok (.istore 4, 2) := dc_54 (byA eNcX11_slack (p := 51) (v := 54) (by decide +kernel)) (byA eNcX11_slack (p := 52) (v := 4) (by decide +kernel))
theorem dX11_slack_53 : decode cX11_slack 53 = .ok (.iconst 0, 1) := dc_3 (byA eNcX11_slack (p := 53) (v := 3) (by decide +kernel))
theorem dX11_slack_54 : decode cX11_slack 54 = .ok (.istore 5, 2) := dc_54 (byA eNcX11_slack (p := 54) (v := 54) (by decide +kernel)) (byA eNcX11_slack (p := 55) (v := 5) (by decide +kernel))
theorem dX11_slack_56 : decode cX11_slack 56 = .ok (.iconst 1, 1) := dc_4 (byA eNcX11_slack (p := 56) (v := 4) (by decide +kernel))
theorem dX11_slack_57 : decode cX11_slack 57 = .ok (.istore 6, 2) := dc_54 (byA eNcX11_slack (p := 57) (v := 54) (by decide +kernel)) (byA eNcX11_slack (p := 58) (v := 6) (by decide +kernel))
theorem dX11_slack_59 : decode cX11_slack 59 = .ok (.iload 6, 2) := dc_21 (byA eNcX11_slack (p := 59) (v := 21) (by decide +kernel)) (byA eNcX11_slack (p := 60) (v := 6) (by decide +kernel))
theorem dX11_slack_61 : decode cX11_slack 61 = .ok (.bipush 30, 2) := dc_16 (byA eNcX11_slack (p := 61) (v := 16) (by decide +kernel)) (byA eNcX11_slack (p := 62) (v := 30) (by decide +kernel)) (by decide +kernel)
theorem dX11_slack_63 : decode cX11_slack 63 = .ok (.if_icmp .gt 51, 3) := dc_163 (byA eNcX11_slack (p := 63) (v := 163) (by decide +kernel)) (byA eNcX11_slack (p := 64) (v := 0) (by decide +kernel)) (byA eNcX11_slack (p := 65) (v := 51) (by decide +kernel)) (by decide +kernel)
theorem dX11_slack_66 : decode cX11_slack 66 = .ok (.aload_n 0, 1) := dc_42 (byA eNcX11_slack (p := 66) (v := 42) (by decide +kernel))
theorem dX11_slack_67 : decode cX11_slack 67 = .ok (.getfield 74, 3) := dc_180 (byA eNcX11_slack (p := 67) (v := 180) (by decide +kernel)) (byA eNcX11_slack (p := 68) (v := 0) (by decide +kernel)) (byA eNcX11_slack (p := 69) (v := 74) (by decide +kernel)) rfl
theorem dX11_slack_70 : decode cX11_slack 70 = .ok (.iload_n 2, 1) := dc_28 (byA eNcX11_slack (p := 70) (v := 28) (by decide +kernel))
theorem dX11_slack_71 : decode cX11_slack 71 = .ok (.iload 4, 2) := dc_21 (byA eNcX11_slack (p := 71) (v := 21) (by decide +kernel)) (byA eNcX11_slack (p := 72) (v := 4) (by decide +kernel))
theorem dX11_slack_73 : decode cX11_slack 73 = .ok (.iload 6, 2) := dc_21 (byA eNcX11_slack (p := 73) (v := 21) (by decide +kernel)) (byA eNcX11_slack (p := 74) (v := 6) (by decide +kernel))
theorem dX11_slack_75 : decode cX11_slack 75 = .ok (.iadd, 1) := dc_96 (byA eNcX11_slack (p := 75) (v := 96) (by decide +kernel))
theorem dX11_slack_76 : decode cX11_slack 76 = .ok (.iastore, 1) := dc_79 (byA eNcX11_slack (p := 76) (v := 79) (by decide +kernel))
theorem dX11_slack_77 : decode cX11_slack 77 = .ok (.aload_n 0, 1) := dc_42 (byA eNcX11_slack (p := 77) (v := 42) (by decide +kernel))
theorem dX11_slack_78 : decode cX11_slack 78 = .ok (.aload_n 0, 1) := dc_42 (byA eNcX11_slack (p := 78) (v := 42) (by decide +kernel))
theorem dX11_slack_79 : decode cX11_slack 79 = .ok (.invokevirtual 372, 3) := dc_182 (byA eNcX11_slack (p := 79) (v := 182) (by decide +kernel)) (byA eNcX11_slack (p := 80) (v := 1) (by decide +kernel)) (byA eNcX11_slack (p := 81) (v := 116) (by decide +kernel)) rfl
theorem dX11_slack_82 : decode cX11_slack 82 = .ok (.invokevirtual 341, 3) := dc_182 (byA eNcX11_slack (p := 82) (v := 182) (by decide +kernel)) (byA eNcX11_slack (p := 83) (v := 1) (by decide +kernel)) (byA eNcX11_slack (p := 84) (v := 85) (by decide +kernel)) rfl
theorem dX11_slack_85 : decode cX11_slack 85 = .ok (.pop, 1) := dc_87 (byA eNcX11_slack (p := 85) (v := 87) (by decide +kernel))
theorem dX11_slack_86 : decode cX11_slack 86 = .ok (.aload_n 0, 1) := dc_42 (byA eNcX11_slack (p := 86) (v := 42) (by decide +kernel))
theorem dX11_slack_87 : decode cX11_slack 87 = .ok (.aload_n 0, 1) := dc_42 (byA eNcX11_slack (p := 87) (v := 42) (by decide +kernel))
theorem dX11_slack_88 : decode cX11_slack 88 = .ok (.invokevirtual 372, 3) := dc_182 (byA eNcX11_slack (p := 88) (v := 182) (by decide +kernel)) (byA eNcX11_slack (p := 89) (v := 1) (by decide +kernel)) (byA eNcX11_slack (p := 90) (v := 116) (by decide +kernel)) rfl
theorem dX11_slack_91 : decode cX11_slack 91 = .ok (.iconst 0, 1) := dc_3 (byA eNcX11_slack (p := 91) (v := 3) (by decide +kernel))
theorem dX11_slack_92 : decode cX11_slack 92 = .ok (.invokevirtual 344, 3) := dc_182 (byA eNcX11_slack (p := 92) (v := 182) (by decide +kernel)) (byA eNcX11_slack (p := 93) (v := 1) (by decide +kernel)) (byA eNcX11_slack (p := 94) (v := 88) (by decide +kernel)) rfl
theorem dX11_slack_95 : decode cX11_slack 95 = .ok (.iload_n 3, 1) := dc_29 (byA eNcX11_slack (p := 95) (v := 29) (by decide +kernel))
theorem dX11_slack_96 : decode cX11_slack 96 = .ok (.if_icmp .gt 8, 3) := dc_163 (byA eNcX11_slack (p := 96) (v := 163) (by decide +kernel)) (byA eNcX11_slack (p := 97) (v := 0) (by decide +kernel)) (byA eNcX11_slack (p := 98) (v := 8) (by decide +kernel)) (by decide +kernel)
theorem dX11_slack_99 : decode cX11_slack 99 = .ok (.iload 6, 2) := dc_21 (byA eNcX11_slack (p := 99) (v := 21) (by decide +kernel)) (byA eNcX11_slack (p := 100) (v := 6) (by decide +kernel))
theorem dX11_slack_101 : decode cX11_slack 101 = .ok (.goto 5, 3) := dc_167 (byA eNcX11_slack (p := 101) (v := 167) (by decide +kernel)) (byA eNcX11_slack (p := 102) (v := 0) (by decide +kernel)) (byA eNcX11_slack (p := 103) (v := 5) (by decide +kernel)) (by decide +kernel)
theorem dX11_slack_104 : decode cX11_slack 104 = .ok (.iload 5, 2) := dc_21 (byA eNcX11_slack (p := 104) (v := 21) (by decide +kernel)) (byA eNcX11_slack (p := 105) (v := 5) (by decide +kernel))
theorem dX11_slack_106 : decode cX11_slack 106 = .ok (.istore 5, 2) := dc_54 (byA eNcX11_slack (p := 106) (v := 54) (by decide +kernel)) (byA eNcX11_slack (p := 107) (v := 5) (by decide +kernel))
theorem dX11_slack_108 : decode cX11_slack 108 = .ok (.iinc 6 1, 3) := dc_132 (byA eNcX11_slack (p := 108) (v := 132) (by decide +kernel)) (byA eNcX11_slack (p := 109) (v := 6) (by decide +kernel)) (byA eNcX11_slack (p := 110) (v := 1) (by decide +kernel)) (by decide +kernel)
theorem dX11_slack_111 : decode cX11_slack 111 = .ok (.goto (-52), 3) := dc_167 (byA eNcX11_slack (p := 111) (v := 167) (by decide +kernel)) (byA eNcX11_slack (p := 112) (v := 255) (by decide +kernel)) (byA eNcX11_slack (p := 113) (v := 204) (by decide +kernel)) (by decide +kernel)
theorem dX11_slack_114 : decode cX11_slack 114 = .ok (.iload 5, 2) := dc_21 (byA eNcX11_slack (p := 114) (v := 21) (by decide +kernel)) (byA eNcX11_slack (p := 115) (v := 5) (by decide +kernel))
theorem dX11_slack_116 : decode cX11_slack 116 = .ok (.ireturn, 1) := dc_172 (byA eNcX11_slack (p := 116) (v := 172) (by decide +kernel))
def X11_slack_L59 (l2 : Int) (l3 : Int) (l4 : Int) : Nat → Int → Int → Mm → Rs
  | 0, _, _, _ => none
  | n + 1, l5, l6, μ => if 30 < l6 then (some (l5, μ)) else (stA μ 90 l2 (iA l4 l6) fun μ25 => bd (X11_book μ25) fun v27 μ28 => bd (X11_go v27 μ28) fun v30 μ31 => bd (X11_book μ31) fun v33 μ34 => bd (X11_tellOf v33 0 μ34) fun v36 μ37 => if l3 < v36 then (X11_slack_L59 l2 l3 l4 n l5 (iA l6 1) μ37) else (X11_slack_L59 l2 l3 l4 n l6 (iA l6 1) μ37))
def X11_slack (l1 : Int) (l2 : Int) (μ : Mm) : Rs := bd (X11_isReady l1 μ) fun v1 μ2 => if v1 = 0 then (some ((-1), μ2)) else (bd (X11_in l2 0 (iS (μ2 70 37) 1) μ2) fun v5 μ6 => if v5 = 0 then (some ((-1), μ6)) else (bd (X11_book μ6) fun v9 μ10 => bd (X11_go v9 μ10) fun v12 μ13 => if v12 = 0 then (some ((-1), μ13)) else (bd (X11_book μ13) fun v16 μ17 => bd (X11_tellOf v16 0 μ17) fun v19 μ20 => ldA μ20 90 l2 fun v22 => X11_slack_L59 l2 v19 v22 FU 0 1 μ20)))
set_option maxHeartbeats 4000000 in
set_option maxRecDepth 100000 in
theorem kX11_slack_L59 (d : Nat) (hd : 7 ≤ d) {l2 : Int} {l3 : Int} {l4 : Int} {r : Int} {μ' : Mm} : ∀ (n : Nat) {l5 l6 : Int} {μ : Mm}, X11_slack_L59 l2 l3 l4 n l5 l6 μ = some (r, μ') → VV d mX11_slack 59 [some (vR 70), none, some (vI l2), some (vI l3), some (vI l4), some (vI l5), some (vI l6)] [] μ r μ' := by
  intro n
  induction n with
  | zero => intro l5 l6 μ h; rw [X11_slack_L59] at h; cases h
  | succ n ih =>
    intro l5 l6 μ h
    rw [X11_slack_L59] at h
    refine V_iload (q := 61) dX11_slack_59 rfl rfl ?_
    refine V_bipush (q := 63) dX11_slack_61 rfl rfl rfl ?_
    refine V_icmpgt (q := 114) (q2 := 66) dX11_slack_63 (by decide) rfl (fun hc24 => ?_) (fun hc24 => ?_)
    · have h := ifT hc24 h
      refine V_iload (q := 116) dX11_slack_114 rfl rfl ?_
      exact V_iret rfl h dX11_slack_116
    · have h := ifF hc24 h
      refine V_aload_n (q := 67) dX11_slack_66 rfl rfl rfl ?_
      refine V_getO (q := 70) (t := 90) fl_X11_74 rfl rfl rfl rfl dX11_slack_67 rfl ?_
      refine V_iload_n (q := 71) dX11_slack_70 rfl rfl rfl ?_
      refine V_iload (q := 73) dX11_slack_71 rfl rfl ?_
      refine V_iload (q := 75) dX11_slack_73 rfl rfl ?_
      refine V_iadd (q := 76) dX11_slack_75 rfl ?_
      obtain ⟨hi26, h⟩ := stA_i h
      refine V_iastore (q := 77) rfl hi26 dX11_slack_76 rfl ?_
      refine V_aload_n (q := 78) dX11_slack_77 rfl rfl rfl ?_
      refine V_aload_n (q := 79) dX11_slack_78 rfl rfl rfl ?_
      obtain ⟨v27, μ28, hc29, h⟩ := bd_i h
      refine V_cV1 (q := 82) (v := vI v27) (kX11_book (d - 1) (by omega) hc29) (by omega) mv_X11_372 rfl rfl rfl rfl rfl rfl dX11_slack_79 rfl ?_
      obtain ⟨v30, μ31, hc32, h⟩ := bd_i h
      refine V_cV1 (q := 85) (v := vI v30) (kX11_go (d - 1) (by omega) hc32) (by omega) mv_X11_341 rfl rfl rfl rfl rfl rfl dX11_slack_82 rfl ?_
      refine V_pop (q := 86) dX11_slack_85 trivial rfl ?_
      refine V_aload_n (q := 87) dX11_slack_86 rfl rfl rfl ?_
      refine V_aload_n (q := 88) dX11_slack_87 rfl rfl rfl ?_
      obtain ⟨v33, μ34, hc35, h⟩ := bd_i h
      refine V_cV1 (q := 91) (v := vI v33) (kX11_book (d - 1) (by omega) hc35) (by omega) mv_X11_372 rfl rfl rfl rfl rfl rfl dX11_slack_88 rfl ?_
      refine V_iconst (q := 92) dX11_slack_91 rfl rfl ?_
      obtain ⟨v36, μ37, hc38, h⟩ := bd_i h
      refine V_cV1 (q := 95) (v := vI v36) (kX11_tellOf (d - 1) (by omega) hc38) (by omega) mv_X11_344 rfl rfl rfl rfl rfl rfl dX11_slack_92 rfl ?_
      refine V_iload_n (q := 96) dX11_slack_95 rfl rfl rfl ?_
      refine V_icmpgt (q := 104) (q2 := 99) dX11_slack_96 (by decide) rfl (fun hc39 => ?_) (fun hc39 => ?_)
      · have h := ifT hc39 h
        refine V_iload (q := 106) dX11_slack_104 rfl rfl ?_
        refine V_istore (q := 108) dX11_slack_106 (Nat.le_of_ble_eq_true rfl) trivial rfl ?_
        refine V_iinc (q := 111) dX11_slack_108 rfl (Nat.le_of_ble_eq_true rfl) trivial rfl ?_
        refine V_goto (q := 59) dX11_slack_111 (by decide) ?_
        exact V_weak (ih h) (sb_s rfl (sb_n (sb_s rfl (sb_s rfl (sb_s rfl (sb_s rfl (sb_s rfl sb_0)))))))
      · have h := ifF hc39 h
        refine V_iload (q := 101) dX11_slack_99 rfl rfl ?_
        refine V_goto (q := 106) dX11_slack_101 (by decide) ?_
        refine V_istore (q := 108) dX11_slack_106 (Nat.le_of_ble_eq_true rfl) trivial rfl ?_
        refine V_iinc (q := 111) dX11_slack_108 rfl (Nat.le_of_ble_eq_true rfl) trivial rfl ?_
        refine V_goto (q := 59) dX11_slack_111 (by decide) ?_
        exact V_weak (ih h) (sb_s rfl (sb_n (sb_s rfl (sb_s rfl (sb_s rfl (sb_s rfl (sb_s rfl sb_0)))))))
set_option maxHeartbeats 4000000 in
set_option maxRecDepth 100000 in
theorem kX11_slack (d : Nat) (hd : 7 ≤ d) {l1 : Int} {l2 : Int} {μ : Mm} {r : Int} {μ' : Mm} (h : X11_slack l1 l2 μ = some (r, μ')) : CC d mX11_slack [vR 70, vI l1, vI l2] μ r μ' := by
  unfold X11_slack at h
  refine V_enter (by decide) (Nat.le_of_ble_eq_true rfl) ?_
  show VV d mX11_slack 0 [some (vR 70), some (vI l1), some (vI l2), none, none, none, none] [] μ r μ'
  refine V_aload_n (q := 1) dX11_slack_0 rfl rfl rfl ?_
  refine V_iload_n (q := 2) dX11_slack_1 rfl rfl rfl ?_
  obtain ⟨v1, μ2, hc3, h⟩ := bd_i h
  refine V_cV1 (q := 5) (v := vI v1) (kX11_isReady (d - 1) (by omega) hc3) (by omega) mv_X11_335 rfl rfl rfl rfl rfl rfl dX11_slack_2 rfl ?_
  refine V_ifeq (q := 33) (q2 := 8) dX11_slack_5 (by decide) rfl (fun hc4 => ?_) (fun hc4 => ?_)
  · have h := ifT hc4 h
    refine V_iconst (q := 34) dX11_slack_33 rfl rfl ?_
    exact V_iret rfl h dX11_slack_34
  · have h := ifF hc4 h
    refine V_iload_n (q := 9) dX11_slack_8 rfl rfl rfl ?_
    refine V_iconst (q := 10) dX11_slack_9 rfl rfl ?_
    refine V_aload_n (q := 11) dX11_slack_10 rfl rfl rfl ?_
    refine V_getI (q := 14) fl_X11_316 rfl rfl rfl dX11_slack_11 rfl ?_
    refine V_iconst (q := 15) dX11_slack_14 rfl rfl ?_
    refine V_isub (q := 16) dX11_slack_15 rfl ?_
    obtain ⟨v5, μ6, hc7, h⟩ := bd_i h
    refine V_cS1 (q := 19) (v := vI v5) (kX11_in (d - 1) (by omega) hc7) (by omega) mv_X11_213 rfl rfl rfl rfl dX11_slack_16 rfl ?_
    refine V_ifeq (q := 33) (q2 := 22) dX11_slack_19 (by decide) rfl (fun hc8 => ?_) (fun hc8 => ?_)
    · have h := ifT hc8 h
      refine V_iconst (q := 34) dX11_slack_33 rfl rfl ?_
      exact V_iret rfl h dX11_slack_34
    · have h := ifF hc8 h
      refine V_aload_n (q := 23) dX11_slack_22 rfl rfl rfl ?_
      refine V_aload_n (q := 24) dX11_slack_23 rfl rfl rfl ?_
      obtain ⟨v9, μ10, hc11, h⟩ := bd_i h
      refine V_cV1 (q := 27) (v := vI v9) (kX11_book (d - 1) (by omega) hc11) (by omega) mv_X11_372 rfl rfl rfl rfl rfl rfl dX11_slack_24 rfl ?_
      obtain ⟨v12, μ13, hc14, h⟩ := bd_i h
      refine V_cV1 (q := 30) (v := vI v12) (kX11_go (d - 1) (by omega) hc14) (by omega) mv_X11_341 rfl rfl rfl rfl rfl rfl dX11_slack_27 rfl ?_
      refine V_ifne (q := 35) (q2 := 33) dX11_slack_30 (by decide) rfl (fun hc15 => ?_) (fun hc15 => ?_)
      · have h := ifF hc15 h
        refine V_aload_n (q := 36) dX11_slack_35 rfl rfl rfl ?_
        refine V_aload_n (q := 37) dX11_slack_36 rfl rfl rfl ?_
        obtain ⟨v16, μ17, hc18, h⟩ := bd_i h
        refine V_cV1 (q := 40) (v := vI v16) (kX11_book (d - 1) (by omega) hc18) (by omega) mv_X11_372 rfl rfl rfl rfl rfl rfl dX11_slack_37 rfl ?_
        refine V_iconst (q := 41) dX11_slack_40 rfl rfl ?_
        obtain ⟨v19, μ20, hc21, h⟩ := bd_i h
        refine V_cV1 (q := 44) (v := vI v19) (kX11_tellOf (d - 1) (by omega) hc21) (by omega) mv_X11_344 rfl rfl rfl rfl rfl rfl dX11_slack_41 rfl ?_
        refine V_istore_n (q := 45) dX11_slack_44 rfl (Nat.le_of_ble_eq_true rfl) trivial rfl ?_
        refine V_aload_n (q := 46) dX11_slack_45 rfl rfl rfl ?_
        refine V_getO (q := 49) (t := 90) fl_X11_74 rfl rfl rfl rfl dX11_slack_46 rfl ?_
        refine V_iload_n (q := 50) dX11_slack_49 rfl rfl rfl ?_
        obtain ⟨hi23, h⟩ := ldA_i h
        refine V_iaload (q := 51) rfl hi23 dX11_slack_50 rfl ?_
        refine V_istore (q := 53) dX11_slack_51 (Nat.le_of_ble_eq_true rfl) trivial rfl ?_
        refine V_iconst (q := 54) dX11_slack_53 rfl rfl ?_
        refine V_istore (q := 56) dX11_slack_54 (Nat.le_of_ble_eq_true rfl) trivial rfl ?_
        refine V_iconst (q := 57) dX11_slack_56 rfl rfl ?_
        refine V_istore (q := 59) dX11_slack_57 (Nat.le_of_ble_eq_true rfl) trivial rfl ?_
        exact V_weak (kX11_slack_L59 d hd  FU h) (sb_s rfl (sb_n (sb_s rfl (sb_s rfl (sb_s rfl (sb_s rfl (sb_s rfl sb_0)))))))
      · have h := ifT hc15 h
        refine V_iconst (q := 34) dX11_slack_33 rfl rfl ?_
        exact V_iret rfl h dX11_slack_34
abbrev mX11_urgent : Mth := (yX11_urgent, cX11_urgent, 5, some .int)
set_option maxRecDepth 100000 in
theorem mi_X11_urgent : Cond.instanceMethod yX11_urgent ∈ tG ∧ Cond.selects yX11_urgent.cls yX11_urgent yX11_urgent ∈ tG ∧ Cond.initialized yX11_urgent.cls ∈ tG ∧ Cond.code yX11_urgent cX11_urgent 5 (some .int) ∈ tG ∧ (yX11_urgent.cls ≠ "java/lang/invoke/MethodHandle" ∧ yX11_urgent.cls ≠ "java/lang/invoke/VarHandle" ∧ (parseMethodDescriptor yX11_urgent.desc).map (fun d => d.parameters.length) = some 1) ∧ 5 ≤ 60 := ⟨(tG_of (tb7 (List.mem_of_getElem? (i := 161) rfl)) (by decide +kernel)), (tG_of (tb7 (List.mem_of_getElem? (i := 162) rfl)) (by decide +kernel)), (tG_of (tb1 (List.mem_of_getElem? (i := 12) rfl)) (by decide +kernel)), (tG_of (tb7 (List.mem_of_getElem? (i := 163) rfl)) (by decide +kernel)), ⟨by decide, by decide, by decide +kernel⟩, by decide⟩
theorem dX11_urgent_0 : decode cX11_urgent 0 = .ok (.aload_n 0, 1) := dc_42 (byA eNcX11_urgent (p := 0) (v := 42) (by decide +kernel))
theorem dX11_urgent_1 : decode cX11_urgent 1 = .ok (.iload_n 1, 1) := dc_27 (byA eNcX11_urgent (p := 1) (v := 27) (by decide +kernel))
theorem dX11_urgent_2 : decode cX11_urgent 2 = .ok (.invokevirtual 335, 3) := dc_182 (byA eNcX11_urgent (p := 2) (v := 182) (by decide +kernel)) (byA eNcX11_urgent (p := 3) (v := 1) (by decide +kernel)) (byA eNcX11_urgent (p := 4) (v := 79) (by decide +kernel)) rfl
theorem dX11_urgent_5 : decode cX11_urgent 5 = .ok (.ifCond .ne 5, 3) := dc_154 (byA eNcX11_urgent (p := 5) (v := 154) (by decide +kernel)) (byA eNcX11_urgent (p := 6) (v := 0) (by decide +kernel)) (byA eNcX11_urgent (p := 7) (v := 5) (by decide +kernel)) (by decide +kernel)
theorem dX11_urgent_8 : decode cX11_urgent 8 = .ok (.iconst (-1), 1) := dc_2 (byA eNcX11_urgent (p := 8) (v := 2) (by decide +kernel))
theorem dX11_urgent_9 : decode cX11_urgent 9 = .ok (.ireturn, 1) := dc_172 (byA eNcX11_urgent (p := 9) (v := 172) (by decide +kernel))
theorem dX11_urgent_10 : decode cX11_urgent 10 = .ok (.aload_n 0, 1) := dc_42 (byA eNcX11_urgent (p := 10) (v := 42) (by decide +kernel))
theorem dX11_urgent_11 : decode cX11_urgent 11 = .ok (.iconst 0, 1) := dc_3 (byA eNcX11_urgent (p := 11) (v := 3) (by decide +kernel))
theorem dX11_urgent_12 : decode cX11_urgent 12 = .ok (.aload_n 0, 1) := dc_42 (byA eNcX11_urgent (p := 12) (v := 42) (by decide +kernel))
theorem dX11_urgent_13 : decode cX11_urgent 13 = .ok (.invokevirtual 357, 3) := dc_182 (byA eNcX11_urgent (p := 13) (v := 182) (by decide +kernel)) (byA eNcX11_urgent (p := 14) (v := 1) (by decide +kernel)) (byA eNcX11_urgent (p := 15) (v := 101) (by decide +kernel)) rfl
theorem dX11_urgent_16 : decode cX11_urgent 16 = .ok (.invokevirtual 360, 3) := dc_182 (byA eNcX11_urgent (p := 16) (v := 182) (by decide +kernel)) (byA eNcX11_urgent (p := 17) (v := 1) (by decide +kernel)) (byA eNcX11_urgent (p := 18) (v := 104) (by decide +kernel)) rfl
theorem dX11_urgent_19 : decode cX11_urgent 19 = .ok (.istore_n 2, 1) := dc_61 (byA eNcX11_urgent (p := 19) (v := 61) (by decide +kernel))
theorem dX11_urgent_20 : decode cX11_urgent 20 = .ok (.iconst 0, 1) := dc_3 (byA eNcX11_urgent (p := 20) (v := 3) (by decide +kernel))
theorem dX11_urgent_21 : decode cX11_urgent 21 = .ok (.istore_n 3, 1) := dc_62 (byA eNcX11_urgent (p := 21) (v := 62) (by decide +kernel))
theorem dX11_urgent_22 : decode cX11_urgent 22 = .ok (.iconst 0, 1) := dc_3 (byA eNcX11_urgent (p := 22) (v := 3) (by decide +kernel))
theorem dX11_urgent_23 : decode cX11_urgent 23 = .ok (.istore 4, 2) := dc_54 (byA eNcX11_urgent (p := 23) (v := 54) (by decide +kernel)) (byA eNcX11_urgent (p := 24) (v := 4) (by decide +kernel))
theorem dX11_urgent_25 : decode cX11_urgent 25 = .ok (.iload 4, 2) := dc_21 (byA eNcX11_urgent (p := 25) (v := 21) (by decide +kernel)) (byA eNcX11_urgent (p := 26) (v := 4) (by decide +kernel))
theorem dX11_urgent_27 : decode cX11_urgent 27 = .ok (.aload_n 0, 1) := dc_42 (byA eNcX11_urgent (p := 27) (v := 42) (by decide +kernel))
theorem dX11_urgent_28 : decode cX11_urgent 28 = .ok (.getfield 316, 3) := dc_180 (byA eNcX11_urgent (p := 28) (v := 180) (by decide +kernel)) (byA eNcX11_urgent (p := 29) (v := 1) (by decide +kernel)) (byA eNcX11_urgent (p := 30) (v := 60) (by decide +kernel)) rfl
theorem dX11_urgent_31 : decode cX11_urgent 31 = .ok (.if_icmp .ge 60, 3) := dc_162 (byA eNcX11_urgent (p := 31) (v := 162) (by decide +kernel)) (byA eNcX11_urgent (p := 32) (v := 0) (by decide +kernel)) (byA eNcX11_urgent (p := 33) (v := 60) (by decide +kernel)) (by decide +kernel)
theorem dX11_urgent_34 : decode cX11_urgent 34 = .ok (.iload_n 2, 1) := dc_28 (byA eNcX11_urgent (p := 34) (v := 28) (by decide +kernel))
theorem dX11_urgent_35 : decode cX11_urgent 35 = .ok (.iconst (-1), 1) := dc_2 (byA eNcX11_urgent (p := 35) (v := 2) (by decide +kernel))
theorem dX11_urgent_36 : decode cX11_urgent 36 = .ok (.if_icmp .eq 55, 3) := dc_159 (byA eNcX11_urgent (p := 36) (v := 159) (by decide +kernel)) (byA eNcX11_urgent (p := 37) (v := 0) (by decide +kernel)) (byA eNcX11_urgent (p := 38) (v := 55) (by decide +kernel)) (by decide +kernel)
theorem dX11_urgent_39 : decode cX11_urgent 39 = .ok (.aload_n 0, 1) := dc_42 (byA eNcX11_urgent (p := 39) (v := 42) (by decide +kernel))
theorem dX11_urgent_40 : decode cX11_urgent 40 = .ok (.getfield 68, 3) := dc_180 (byA eNcX11_urgent (p := 40) (v := 180) (by decide +kernel)) (byA eNcX11_urgent (p := 41) (v := 0) (by decide +kernel)) (byA eNcX11_urgent (p := 42) (v := 68) (by decide +kernel)) rfl
theorem dX11_urgent_43 : decode cX11_urgent 43 = .ok (.iload 4, 2) := dc_21 (byA eNcX11_urgent (p := 43) (v := 21) (by decide +kernel)) (byA eNcX11_urgent (p := 44) (v := 4) (by decide +kernel))
theorem dX11_urgent_45 : decode cX11_urgent 45 = .ok (.dup2, 1) := dc_92 (byA eNcX11_urgent (p := 45) (v := 92) (by decide +kernel))
theorem dX11_urgent_46 : decode cX11_urgent 46 = .ok (.iaload, 1) := dc_46 (byA eNcX11_urgent (p := 46) (v := 46) (by decide +kernel))
theorem dX11_urgent_47 : decode cX11_urgent 47 = .ok (.iconst 1, 1) := dc_4 (byA eNcX11_urgent (p := 47) (v := 4) (by decide +kernel))
theorem dX11_urgent_48 : decode cX11_urgent 48 = .ok (.iadd, 1) := dc_96 (byA eNcX11_urgent (p := 48) (v := 96) (by decide +kernel))
theorem dX11_urgent_49 : decode cX11_urgent 49 = .ok (.iastore, 1) := dc_79 (byA eNcX11_urgent (p := 49) (v := 79) (by decide +kernel))
theorem dX11_urgent_50 : decode cX11_urgent 50 = .ok (.iload_n 3, 1) := dc_29 (byA eNcX11_urgent (p := 50) (v := 29) (by decide +kernel))
theorem dX11_urgent_51 : decode cX11_urgent 51 = .ok (.aload_n 0, 1) := dc_42 (byA eNcX11_urgent (p := 51) (v := 42) (by decide +kernel))
theorem dX11_urgent_52 : decode cX11_urgent 52 = .ok (.iconst 0, 1) := dc_3 (byA eNcX11_urgent (p := 52) (v := 3) (by decide +kernel))
theorem dX11_urgent_53 : decode cX11_urgent 53 = .ok (.aload_n 0, 1) := dc_42 (byA eNcX11_urgent (p := 53) (v := 42) (by decide +kernel))
theorem dX11_urgent_54 : decode cX11_urgent 54 = .ok (.invokevirtual 357, 3) := dc_182 (byA eNcX11_urgent (p := 54) (v := 182) (by decide +kernel)) (byA eNcX11_urgent (p := 55) (v := 1) (by decide +kernel)) (byA eNcX11_urgent (p := 56) (v := 101) (by decide +kernel)) rfl
theorem dX11_urgent_57 : decode cX11_urgent 57 = .ok (.invokevirtual 360, 3) := dc_182 (byA eNcX11_urgent (p := 57) (v := 182) (by decide +kernel)) (byA eNcX11_urgent (p := 58) (v := 1) (by decide +kernel)) (byA eNcX11_urgent (p := 59) (v := 104) (by decide +kernel)) rfl
theorem dX11_urgent_60 : decode cX11_urgent 60 = .ok (.iload_n 2, 1) := dc_28 (byA eNcX11_urgent (p := 60) (v := 28) (by decide +kernel))
theorem dX11_urgent_61 : decode cX11_urgent 61 = .ok (.if_icmp .ge 10, 3) := dc_162 (byA eNcX11_urgent (p := 61) (v := 162) (by decide +kernel)) (byA eNcX11_urgent (p := 62) (v := 0) (by decide +kernel)) (byA eNcX11_urgent (p := 63) (v := 10) (by decide +kernel)) (by decide +kernel)
theorem dX11_urgent_64 : decode cX11_urgent 64 = .ok (.iconst 1, 1) := dc_4 (byA eNcX11_urgent (p := 64) (v := 4) (by decide +kernel))
theorem dX11_urgent_65 : decode cX11_urgent 65 = .ok (.iload 4, 2) := dc_21 (byA eNcX11_urgent (p := 65) (v := 21) (by decide +kernel)) (byA eNcX11_urgent (p := 66) (v := 4) (by decide +kernel))
theorem dX11_urgent_67 : decode cX11_urgent 67 = .ok (.ishl, 1) := dc_120 (byA eNcX11_urgent (p := 67) (v := 120) (by decide +kernel))
theorem dX11_urgent_68 : decode cX11_urgent 68 = .ok (.goto 4, 3) := dc_167 (byA eNcX11_urgent (p := 68) (v := 167) (by decide +kernel)) (byA eNcX11_urgent (p := 69) (v := 0) (by decide +kernel)) (byA eNcX11_urgent (p := 70) (v := 4) (by decide +kernel)) (by decide +kernel)
theorem dX11_urgent_71 : decode cX11_urgent 71 = .ok (.iconst 0, 1) := dc_3 (byA eNcX11_urgent (p := 71) (v := 3) (by decide +kernel))
theorem dX11_urgent_72 : decode cX11_urgent 72 = .ok (.ior, 1) := dc_128 (byA eNcX11_urgent (p := 72) (v := 128) (by decide +kernel))
theorem dX11_urgent_73 : decode cX11_urgent 73 = .ok (.istore_n 3, 1) := dc_62 (byA eNcX11_urgent (p := 73) (v := 62) (by decide +kernel))
theorem dX11_urgent_74 : decode cX11_urgent 74 = .ok (.aload_n 0, 1) := dc_42 (byA eNcX11_urgent (p := 74) (v := 42) (by decide +kernel))
theorem dX11_urgent_75 : decode cX11_urgent 75 = .ok (.getfield 68, 3) := dc_180 (byA eNcX11_urgent (p := 75) (v := 180) (by decide +kernel)) (byA eNcX11_urgent (p := 76) (v := 0) (by decide +kernel)) (byA eNcX11_urgent (p := 77) (v := 68) (by decide +kernel)) rfl
theorem dX11_urgent_78 : decode cX11_urgent 78 = .ok (.iload 4, 2) := dc_21 (byA eNcX11_urgent (p := 78) (v := 21) (by decide +kernel)) (byA eNcX11_urgent (p := 79) (v := 4) (by decide +kernel))
theorem dX11_urgent_80 : decode cX11_urgent 80 = .ok (.dup2, 1) := dc_92 (byA eNcX11_urgent (p := 80) (v := 92) (by decide +kernel))
theorem dX11_urgent_81 : decode cX11_urgent 81 = .ok (.iaload, 1) := dc_46 (byA eNcX11_urgent (p := 81) (v := 46) (by decide +kernel))
theorem dX11_urgent_82 : decode cX11_urgent 82 = .ok (.iconst 1, 1) := dc_4 (byA eNcX11_urgent (p := 82) (v := 4) (by decide +kernel))
theorem dX11_urgent_83 : decode cX11_urgent 83 = .ok (.isub, 1) := dc_100 (byA eNcX11_urgent (p := 83) (v := 100) (by decide +kernel))
theorem dX11_urgent_84 : decode cX11_urgent 84 = .ok (.iastore, 1) := dc_79 (byA eNcX11_urgent (p := 84) (v := 79) (by decide +kernel))
theorem dX11_urgent_85 : decode cX11_urgent 85 = .ok (.iinc 4 1, 3) := dc_132 (byA eNcX11_urgent (p := 85) (v := 132) (by decide +kernel)) (byA eNcX11_urgent (p := 86) (v := 4) (by decide +kernel)) (byA eNcX11_urgent (p := 87) (v := 1) (by decide +kernel)) (by decide +kernel)
theorem dX11_urgent_88 : decode cX11_urgent 88 = .ok (.goto (-63), 3) := dc_167 (byA eNcX11_urgent (p := 88) (v := 167) (by decide +kernel)) (byA eNcX11_urgent (p := 89) (v := 255) (by decide +kernel)) (byA eNcX11_urgent (p := 90) (v := 193) (by decide +kernel)) (by decide +kernel)
theorem dX11_urgent_91 : decode cX11_urgent 91 = .ok (.iload_n 2, 1) := dc_28 (byA eNcX11_urgent (p := 91) (v := 28) (by decide +kernel))
theorem dX11_urgent_92 : decode cX11_urgent 92 = .ok (.iconst (-1), 1) := dc_2 (byA eNcX11_urgent (p := 92) (v := 2) (by decide +kernel))
theorem dX11_urgent_93 : decode cX11_urgent 93 = .ok (.if_icmp .ne 7, 3) := dc_160 (byA eNcX11_urgent (p := 93) (v := 160) (by decide +kernel)) (byA eNcX11_urgent (p := 94) (v := 0) (by decide +kernel)) (byA eNcX11_urgent (p := 95) (v := 7) (by decide +kernel)) (by decide +kernel)
theorem dX11_urgent_96 : decode cX11_urgent 96 = .ok (.iconst (-1), 1) := dc_2 (byA eNcX11_urgent (p := 96) (v := 2) (by decide +kernel))
theorem dX11_urgent_97 : decode cX11_urgent 97 = .ok (.goto 4, 3) := dc_167 (byA eNcX11_urgent (p := 97) (v := 167) (by decide +kernel)) (byA eNcX11_urgent (p := 98) (v := 0) (by decide +kernel)) (byA eNcX11_urgent (p := 99) (v := 4) (by decide +kernel)) (by decide +kernel)
theorem dX11_urgent_100 : decode cX11_urgent 100 = .ok (.iload_n 3, 1) := dc_29 (byA eNcX11_urgent (p := 100) (v := 29) (by decide +kernel))
theorem dX11_urgent_101 : decode cX11_urgent 101 = .ok (.ireturn, 1) := dc_172 (byA eNcX11_urgent (p := 101) (v := 172) (by decide +kernel))
def X11_urgent_J72 (k25 : Int → Int → Mm → Rs) (l2 : Int) (l4 : Int) (s0 : Int) (s1 : Int) (μ : Mm) : Rs := ldA μ 88 l4 fun v24 => stA μ 88 l4 (iS v24 1) fun μ26 => k25 (bO s0 s1) (iA l4 1) μ26
def X11_urgent_L25 (l2 : Int) (k91 : Int → Mm → Rs) : Nat → Int → Int → Mm → Rs
  | 0, _, _, _ => none
  | n + 1, l3, l4, μ => if (μ 70 37) ≤ l4 then (k91 l3 μ) else (if l2 = (-1) then (k91 l3 μ) else (ldA μ 88 l4 fun v13 => stA μ 88 l4 (iA v13 1) fun μ15 => bd (X11_all μ15) fun v17 μ18 => bd (X11_leastOf 0 v17 μ18) fun v20 μ21 => if l2 ≤ v20 then (X11_urgent_J72 (fun w3 w4 μq => X11_urgent_L25 l2 k91 n w3 w4 μq) l2 l4 l3 0 μ21) else (X11_urgent_J72 (fun w3 w4 μq => X11_urgent_L25 l2 k91 n w3 w4 μq) l2 l4 l3 (bL 1 l4) μ21)))
def X11_urgent (l1 : Int) (μ : Mm) : Rs := bd (X11_isReady l1 μ) fun v1 μ2 => if v1 = 0 then (some ((-1), μ2)) else (bd (X11_all μ2) fun v5 μ6 => bd (X11_leastOf 0 v5 μ6) fun v8 μ9 => X11_urgent_L25 v8 (fun v28 μ29 => if v8 = (-1) then (some ((-1), μ29)) else (some (v28, μ29))) FU 0 0 μ9)
set_option maxHeartbeats 4000000 in
set_option maxRecDepth 100000 in
theorem kX11_urgent_J72 (d : Nat) (hd : 134 ≤ d) {k25 : Int → Int → Mm → Rs} {l2 : Int} {l4 : Int} {s0 : Int} {s1 : Int} {μ : Mm} {r : Int} {μ' : Mm} (hk_25 : ∀ (v3 v4 : Int) (μ1 : Mm), k25 v3 v4 μ1 = some (r, μ') → VV d mX11_urgent 25 [some (vR 70), none, some (vI l2), some (vI v3), some (vI v4)] [] μ1 r μ') (h : X11_urgent_J72 k25 l2 l4 s0 s1 μ = some (r, μ')) : VV d mX11_urgent 72 [some (vR 70), none, some (vI l2), none, some (vI l4)] [vI s1, vI s0] μ r μ' := by
  unfold X11_urgent_J72 at h
  refine V_ior (q := 73) dX11_urgent_72 rfl ?_
  refine V_istore_n (q := 74) dX11_urgent_73 rfl (Nat.le_of_ble_eq_true rfl) trivial rfl ?_
  refine V_aload_n (q := 75) dX11_urgent_74 rfl rfl rfl ?_
  refine V_getO (q := 78) (t := 88) fl_X11_68 rfl rfl rfl rfl dX11_urgent_75 rfl ?_
  refine V_iload (q := 80) dX11_urgent_78 rfl rfl ?_
  refine V_dup2 (q := 81) dX11_urgent_80 trivial trivial rfl ?_
  obtain ⟨hi25, h⟩ := ldA_i h
  refine V_iaload (q := 82) rfl hi25 dX11_urgent_81 rfl ?_
  refine V_iconst (q := 83) dX11_urgent_82 rfl rfl ?_
  refine V_isub (q := 84) dX11_urgent_83 rfl ?_
  obtain ⟨hi27, h⟩ := stA_i h
  refine V_iastore (q := 85) rfl hi27 dX11_urgent_84 rfl ?_
  refine V_iinc (q := 88) dX11_urgent_85 rfl (Nat.le_of_ble_eq_true rfl) trivial rfl ?_
  refine V_goto (q := 25) dX11_urgent_88 (by decide) ?_
  exact V_weak (hk_25 _ _ _ h) (sb_s rfl (sb_n (sb_s rfl (sb_s rfl (sb_s rfl sb_0)))))
set_option maxHeartbeats 4000000 in
set_option maxRecDepth 100000 in
theorem kX11_urgent_L25 (d : Nat) (hd : 134 ≤ d) {l2 : Int} {k91 : Int → Mm → Rs} {r : Int} {μ' : Mm} (hk_91 : ∀ (v3 : Int) (μ1 : Mm), k91 v3 μ1 = some (r, μ') → VV d mX11_urgent 91 [none, none, some (vI l2), some (vI v3), none] [] μ1 r μ') : ∀ (n : Nat) {l3 l4 : Int} {μ : Mm}, X11_urgent_L25 l2 k91 n l3 l4 μ = some (r, μ') → VV d mX11_urgent 25 [some (vR 70), none, some (vI l2), some (vI l3), some (vI l4)] [] μ r μ' := by
  intro n
  induction n with
  | zero => intro l3 l4 μ h; rw [X11_urgent_L25] at h; cases h
  | succ n ih =>
    intro l3 l4 μ h
    rw [X11_urgent_L25] at h
    refine V_iload (q := 27) dX11_urgent_25 rfl rfl ?_
    refine V_aload_n (q := 28) dX11_urgent_27 rfl rfl rfl ?_
    refine V_getI (q := 31) fl_X11_316 rfl rfl rfl dX11_urgent_28 rfl ?_
    refine V_icmpge (q := 91) (q2 := 34) dX11_urgent_31 (by decide) rfl (fun hc11 => ?_) (fun hc11 => ?_)
    · have h := ifT hc11 h
      exact V_weak (hk_91 _ _ h) (sb_n (sb_n (sb_s rfl (sb_s rfl (sb_n sb_0)))))
    · have h := ifF hc11 h
      refine V_iload_n (q := 35) dX11_urgent_34 rfl rfl rfl ?_
      refine V_iconst (q := 36) dX11_urgent_35 rfl rfl ?_
      refine V_icmpeq (q := 91) (q2 := 39) dX11_urgent_36 (by decide) rfl (fun hc12 => ?_) (fun hc12 => ?_)
      · have h := ifT hc12 h
        exact V_weak (hk_91 _ _ h) (sb_n (sb_n (sb_s rfl (sb_s rfl (sb_n sb_0)))))
      · have h := ifF hc12 h
        refine V_aload_n (q := 40) dX11_urgent_39 rfl rfl rfl ?_
        refine V_getO (q := 43) (t := 88) fl_X11_68 rfl rfl rfl rfl dX11_urgent_40 rfl ?_
        refine V_iload (q := 45) dX11_urgent_43 rfl rfl ?_
        refine V_dup2 (q := 46) dX11_urgent_45 trivial trivial rfl ?_
        obtain ⟨hi14, h⟩ := ldA_i h
        refine V_iaload (q := 47) rfl hi14 dX11_urgent_46 rfl ?_
        refine V_iconst (q := 48) dX11_urgent_47 rfl rfl ?_
        refine V_iadd (q := 49) dX11_urgent_48 rfl ?_
        obtain ⟨hi16, h⟩ := stA_i h
        refine V_iastore (q := 50) rfl hi16 dX11_urgent_49 rfl ?_
        refine V_iload_n (q := 51) dX11_urgent_50 rfl rfl rfl ?_
        refine V_aload_n (q := 52) dX11_urgent_51 rfl rfl rfl ?_
        refine V_iconst (q := 53) dX11_urgent_52 rfl rfl ?_
        refine V_aload_n (q := 54) dX11_urgent_53 rfl rfl rfl ?_
        obtain ⟨v17, μ18, hc19, h⟩ := bd_i h
        refine V_cV1 (q := 57) (v := vI v17) (kX11_all (d - 1) (by omega) hc19) (by omega) mv_X11_357 rfl rfl rfl rfl rfl rfl dX11_urgent_54 rfl ?_
        obtain ⟨v20, μ21, hc22, h⟩ := bd_i h
        refine V_cV1 (q := 60) (v := vI v20) (kX11_leastOf (d - 1) (by omega) hc22) (by omega) mv_X11_360 rfl rfl rfl rfl rfl rfl dX11_urgent_57 rfl ?_
        refine V_iload_n (q := 61) dX11_urgent_60 rfl rfl rfl ?_
        refine V_icmpge (q := 71) (q2 := 64) dX11_urgent_61 (by decide) rfl (fun hc23 => ?_) (fun hc23 => ?_)
        · have h := ifT hc23 h
          refine V_iconst (q := 72) dX11_urgent_71 rfl rfl ?_
          exact V_weak (kX11_urgent_J72 d hd (fun _ _ _ h => ih h) h) (sb_s rfl (sb_n (sb_s rfl (sb_n (sb_s rfl sb_0)))))
        · have h := ifF hc23 h
          refine V_iconst (q := 65) dX11_urgent_64 rfl rfl ?_
          refine V_iload (q := 67) dX11_urgent_65 rfl rfl ?_
          refine V_ishl (q := 68) dX11_urgent_67 rfl ?_
          refine V_goto (q := 72) dX11_urgent_68 (by decide) ?_
          exact V_weak (kX11_urgent_J72 d hd (fun _ _ _ h => ih h) h) (sb_s rfl (sb_n (sb_s rfl (sb_n (sb_s rfl sb_0)))))
set_option maxHeartbeats 4000000 in
set_option maxRecDepth 100000 in
theorem kX11_urgent (d : Nat) (hd : 134 ≤ d) {l1 : Int} {μ : Mm} {r : Int} {μ' : Mm} (h : X11_urgent l1 μ = some (r, μ')) : CC d mX11_urgent [vR 70, vI l1] μ r μ' := by
  unfold X11_urgent at h
  refine V_enter (by decide) (Nat.le_of_ble_eq_true rfl) ?_
  show VV d mX11_urgent 0 [some (vR 70), some (vI l1), none, none, none] [] μ r μ'
  refine V_aload_n (q := 1) dX11_urgent_0 rfl rfl rfl ?_
  refine V_iload_n (q := 2) dX11_urgent_1 rfl rfl rfl ?_
  obtain ⟨v1, μ2, hc3, h⟩ := bd_i h
  refine V_cV1 (q := 5) (v := vI v1) (kX11_isReady (d - 1) (by omega) hc3) (by omega) mv_X11_335 rfl rfl rfl rfl rfl rfl dX11_urgent_2 rfl ?_
  refine V_ifne (q := 10) (q2 := 8) dX11_urgent_5 (by decide) rfl (fun hc4 => ?_) (fun hc4 => ?_)
  · have h := ifF hc4 h
    refine V_aload_n (q := 11) dX11_urgent_10 rfl rfl rfl ?_
    refine V_iconst (q := 12) dX11_urgent_11 rfl rfl ?_
    refine V_aload_n (q := 13) dX11_urgent_12 rfl rfl rfl ?_
    obtain ⟨v5, μ6, hc7, h⟩ := bd_i h
    refine V_cV1 (q := 16) (v := vI v5) (kX11_all (d - 1) (by omega) hc7) (by omega) mv_X11_357 rfl rfl rfl rfl rfl rfl dX11_urgent_13 rfl ?_
    obtain ⟨v8, μ9, hc10, h⟩ := bd_i h
    refine V_cV1 (q := 19) (v := vI v8) (kX11_leastOf (d - 1) (by omega) hc10) (by omega) mv_X11_360 rfl rfl rfl rfl rfl rfl dX11_urgent_16 rfl ?_
    refine V_istore_n (q := 20) dX11_urgent_19 rfl (Nat.le_of_ble_eq_true rfl) trivial rfl ?_
    refine V_iconst (q := 21) dX11_urgent_20 rfl rfl ?_
    refine V_istore_n (q := 22) dX11_urgent_21 rfl (Nat.le_of_ble_eq_true rfl) trivial rfl ?_
    refine V_iconst (q := 23) dX11_urgent_22 rfl rfl ?_
    refine V_istore (q := 25) dX11_urgent_23 (Nat.le_of_ble_eq_true rfl) trivial rfl ?_
    refine V_weak (kX11_urgent_L25 d hd (fun v28 μ29 h => ?_) FU h) (sb_s rfl (sb_n (sb_s rfl (sb_s rfl (sb_s rfl sb_0)))))
    refine V_iload_n (q := 92) dX11_urgent_91 rfl rfl rfl ?_
    refine V_iconst (q := 93) dX11_urgent_92 rfl rfl ?_
    refine V_icmpne (q := 100) (q2 := 96) dX11_urgent_93 (by decide) rfl (fun hc30 => ?_) (fun hc30 => ?_)
    · have h := ifF hc30 h
      refine V_iload_n (q := 101) dX11_urgent_100 rfl rfl rfl ?_
      exact V_iret rfl h dX11_urgent_101
    · have h := ifT hc30 h
      refine V_iconst (q := 97) dX11_urgent_96 rfl rfl ?_
      refine V_goto (q := 101) dX11_urgent_97 (by decide) ?_
      exact V_iret rfl h dX11_urgent_101
  · have h := ifT hc4 h
    refine V_iconst (q := 9) dX11_urgent_8 rfl rfl ?_
    exact V_iret rfl h dX11_urgent_9
abbrev mX11_dead : Mth := (yX11_dead, cX11_dead, 3, some .int)
set_option maxRecDepth 100000 in
theorem mi_X11_dead : Cond.instanceMethod yX11_dead ∈ tG ∧ Cond.selects yX11_dead.cls yX11_dead yX11_dead ∈ tG ∧ Cond.initialized yX11_dead.cls ∈ tG ∧ Cond.code yX11_dead cX11_dead 3 (some .int) ∈ tG ∧ (yX11_dead.cls ≠ "java/lang/invoke/MethodHandle" ∧ yX11_dead.cls ≠ "java/lang/invoke/VarHandle" ∧ (parseMethodDescriptor yX11_dead.desc).map (fun d => d.parameters.length) = some 0) ∧ 3 ≤ 60 := ⟨(tG_of (tb7 (List.mem_of_getElem? (i := 165) rfl)) (by decide +kernel)), (tG_of (tb7 (List.mem_of_getElem? (i := 166) rfl)) (by decide +kernel)), (tG_of (tb1 (List.mem_of_getElem? (i := 12) rfl)) (by decide +kernel)), (tG_of (tb7 (List.mem_of_getElem? (i := 167) rfl)) (by decide +kernel)), ⟨by decide, by decide, by decide +kernel⟩, by decide⟩
theorem dX11_dead_0 : decode cX11_dead 0 = .ok (.aload_n 0, 1) := dc_42 (byA eNcX11_dead (p := 0) (v := 42) (by decide +kernel))
theorem dX11_dead_1 : decode cX11_dead 1 = .ok (.getfield 252, 3) := dc_180 (byA eNcX11_dead (p := 1) (v := 180) (by decide +kernel)) (byA eNcX11_dead (p := 2) (v := 0) (by decide +kernel)) (byA eNcX11_dead (p := 3) (v := 252) (by decide +kernel)) rfl
theorem dX11_dead_4 : decode cX11_dead 4 = .ok (.ifCond .ne 5, 3) := dc_154 (byA eNcX11_dead (p := 4) (v := 154) (by decide +kernel)) (byA eNcX11_dead (p := 5) (v := 0) (by decide +kernel)) (byA eNcX11_dead (p := 6) (v := 5) (by decide +kernel)) (by decide +kernel)
theorem dX11_dead_7 : decode cX11_dead 7 = .ok (.iconst (-1), 1) := dc_2 (byA eNcX11_dead (p := 7) (v := 2) (by decide +kernel))
theorem dX11_dead_8 : decode cX11_dead 8 = .ok (.ireturn, 1) := dc_172 (byA eNcX11_dead (p := 8) (v := 172) (by decide +kernel))
theorem dX11_dead_9 : decode cX11_dead 9 = .ok (.aload_n 0, 1) := dc_42 (byA eNcX11_dead (p := 9) (v := 42) (by decide +kernel))
theorem dX11_dead_10 : decode cX11_dead 10 = .ok (.aload_n 0, 1) := dc_42 (byA eNcX11_dead (p := 10) (v := 42) (by decide +kernel))
theorem dX11_dead_11 : decode cX11_dead 11 = .ok (.iconst 2, 1) := dc_5 (byA eNcX11_dead (p := 11) (v := 5) (by decide +kernel))
theorem dX11_dead_12 : decode cX11_dead 12 = .ok (.invokevirtual 281, 3) := dc_182 (byA eNcX11_dead (p := 12) (v := 182) (by decide +kernel)) (byA eNcX11_dead (p := 13) (v := 1) (by decide +kernel)) (byA eNcX11_dead (p := 14) (v := 25) (by decide +kernel)) rfl
theorem dX11_dead_15 : decode cX11_dead 15 = .ok (.invokevirtual 293, 3) := dc_182 (byA eNcX11_dead (p := 15) (v := 182) (by decide +kernel)) (byA eNcX11_dead (p := 16) (v := 1) (by decide +kernel)) (byA eNcX11_dead (p := 17) (v := 37) (by decide +kernel)) rfl
theorem dX11_dead_18 : decode cX11_dead 18 = .ok (.iconst 0, 1) := dc_3 (byA eNcX11_dead (p := 18) (v := 3) (by decide +kernel))
theorem dX11_dead_19 : decode cX11_dead 19 = .ok (.istore_n 1, 1) := dc_60 (byA eNcX11_dead (p := 19) (v := 60) (by decide +kernel))
theorem dX11_dead_20 : decode cX11_dead 20 = .ok (.iconst 0, 1) := dc_3 (byA eNcX11_dead (p := 20) (v := 3) (by decide +kernel))
theorem dX11_dead_21 : decode cX11_dead 21 = .ok (.istore_n 2, 1) := dc_61 (byA eNcX11_dead (p := 21) (v := 61) (by decide +kernel))
theorem dX11_dead_22 : decode cX11_dead 22 = .ok (.iload_n 2, 1) := dc_28 (byA eNcX11_dead (p := 22) (v := 28) (by decide +kernel))
theorem dX11_dead_23 : decode cX11_dead 23 = .ok (.bipush 60, 2) := dc_16 (byA eNcX11_dead (p := 23) (v := 16) (by decide +kernel)) (byA eNcX11_dead (p := 24) (v := 60) (by decide +kernel)) (by decide +kernel)
theorem dX11_dead_25 : decode cX11_dead 25 = .ok (.if_icmp .ge 35, 3) := dc_162 (byA eNcX11_dead (p := 25) (v := 162) (by decide +kernel)) (byA eNcX11_dead (p := 26) (v := 0) (by decide +kernel)) (byA eNcX11_dead (p := 27) (v := 35) (by decide +kernel)) (by decide +kernel)
theorem dX11_dead_28 : decode cX11_dead 28 = .ok (.iload_n 1, 1) := dc_27 (byA eNcX11_dead (p := 28) (v := 27) (by decide +kernel))
theorem dX11_dead_29 : decode cX11_dead 29 = .ok (.aload_n 0, 1) := dc_42 (byA eNcX11_dead (p := 29) (v := 42) (by decide +kernel))
theorem dX11_dead_30 : decode cX11_dead 30 = .ok (.iload_n 2, 1) := dc_28 (byA eNcX11_dead (p := 30) (v := 28) (by decide +kernel))
theorem dX11_dead_31 : decode cX11_dead 31 = .ok (.invokevirtual 290, 3) := dc_182 (byA eNcX11_dead (p := 31) (v := 182) (by decide +kernel)) (byA eNcX11_dead (p := 32) (v := 1) (by decide +kernel)) (byA eNcX11_dead (p := 33) (v := 34) (by decide +kernel)) rfl
theorem dX11_dead_34 : decode cX11_dead 34 = .ok (.ifCond .eq 17, 3) := dc_153 (byA eNcX11_dead (p := 34) (v := 153) (by decide +kernel)) (byA eNcX11_dead (p := 35) (v := 0) (by decide +kernel)) (byA eNcX11_dead (p := 36) (v := 17) (by decide +kernel)) (by decide +kernel)
theorem dX11_dead_37 : decode cX11_dead 37 = .ok (.aload_n 0, 1) := dc_42 (byA eNcX11_dead (p := 37) (v := 42) (by decide +kernel))
theorem dX11_dead_38 : decode cX11_dead 38 = .ok (.getfield 65, 3) := dc_180 (byA eNcX11_dead (p := 38) (v := 180) (by decide +kernel)) (byA eNcX11_dead (p := 39) (v := 0) (by decide +kernel)) (byA eNcX11_dead (p := 40) (v := 65) (by decide +kernel)) rfl
theorem dX11_dead_41 : decode cX11_dead 41 = .ok (.iload_n 2, 1) := dc_28 (byA eNcX11_dead (p := 41) (v := 28) (by decide +kernel))
theorem dX11_dead_42 : decode cX11_dead 42 = .ok (.iaload, 1) := dc_46 (byA eNcX11_dead (p := 42) (v := 46) (by decide +kernel))
theorem dX11_dead_43 : decode cX11_dead 43 = .ok (.iconst (-1), 1) := dc_2 (byA eNcX11_dead (p := 43) (v := 2) (by decide +kernel))
theorem dX11_dead_44 : decode cX11_dead 44 = .ok (.if_icmp .ne 7, 3) := dc_160 (byA eNcX11_dead (p := 44) (v := 160) (by decide +kernel)) (byA eNcX11_dead (p := 45) (v := 0) (by decide +kernel)) (byA eNcX11_dead (p := 46) (v := 7) (by decide +kernel)) (by decide +kernel)
theorem dX11_dead_47 : decode cX11_dead 47 = .ok (.iconst 1, 1) := dc_4 (byA eNcX11_dead (p := 47) (v := 4) (by decide +kernel))
theorem dX11_dead_48 : decode cX11_dead 48 = .ok (.goto 4, 3) := dc_167 (byA eNcX11_dead (p := 48) (v := 167) (by decide +kernel)) (byA eNcX11_dead (p := 49) (v := 0) (by decide +kernel)) (byA eNcX11_dead (p := 50) (v := 4) (by decide +kernel)) (by decide +kernel)
theorem dX11_dead_51 : decode cX11_dead 51 = .ok (.iconst 0, 1) := dc_3 (byA eNcX11_dead (p := 51) (v := 3) (by decide +kernel))
theorem dX11_dead_52 : decode cX11_dead 52 = .ok (.iadd, 1) := dc_96 (byA eNcX11_dead (p := 52) (v := 96) (by decide +kernel))
theorem dX11_dead_53 : decode cX11_dead 53 = .ok (.istore_n 1, 1) := dc_60 (byA eNcX11_dead (p := 53) (v := 60) (by decide +kernel))
theorem dX11_dead_54 : decode cX11_dead 54 = .ok (.iinc 2 1, 3) := dc_132 (byA eNcX11_dead (p := 54) (v := 132) (by decide +kernel)) (byA eNcX11_dead (p := 55) (v := 2) (by decide +kernel)) (byA eNcX11_dead (p := 56) (v := 1) (by decide +kernel)) (by decide +kernel)
theorem dX11_dead_57 : decode cX11_dead 57 = .ok (.goto (-35), 3) := dc_167 (byA eNcX11_dead (p := 57) (v := 167) (by decide +kernel)) (byA eNcX11_dead (p := 58) (v := 255) (by decide +kernel)) (byA eNcX11_dead (p := 59) (v := 221) (by decide +kernel)) (by decide +kernel)
theorem dX11_dead_60 : decode cX11_dead 60 = .ok (.iload_n 1, 1) := dc_27 (byA eNcX11_dead (p := 60) (v := 27) (by decide +kernel))
theorem dX11_dead_61 : decode cX11_dead 61 = .ok (.ireturn, 1) := dc_172 (byA eNcX11_dead (p := 61) (v := 172) (by decide +kernel))
def X11_dead_L22 : Nat → Int → Int → Mm → Rs
  | 0, _, _, _ => none
  | n + 1, l1, l2, μ => if 60 ≤ l2 then (some (l1, μ)) else (bd (X11_isOpen l2 μ) fun v9 μ10 => if v9 = 0 then (X11_dead_L22 n (iA l1 0) (iA l2 1) μ10) else (ldA μ10 87 l2 fun v13 => if v13 = (-1) then (X11_dead_L22 n (iA l1 1) (iA l2 1) μ10) else (X11_dead_L22 n (iA l1 0) (iA l2 1) μ10)))
def X11_dead (μ : Mm) : Rs := if (μ 70 23) = 0 then (some ((-1), μ)) else (bd (X11_placeOf 2 μ) fun v2 μ3 => bd (X11_spread v2 μ3) fun v5 μ6 => X11_dead_L22 FU 0 0 μ6)
set_option maxHeartbeats 4000000 in
set_option maxRecDepth 100000 in
theorem kX11_dead_L22 (d : Nat) (hd : 4 ≤ d) {r : Int} {μ' : Mm} : ∀ (n : Nat) {l1 l2 : Int} {μ : Mm}, X11_dead_L22 n l1 l2 μ = some (r, μ') → VV d mX11_dead 22 [some (vR 70), some (vI l1), some (vI l2)] [] μ r μ' := by
  intro n
  induction n with
  | zero => intro l1 l2 μ h; rw [X11_dead_L22] at h; cases h
  | succ n ih =>
    intro l1 l2 μ h
    rw [X11_dead_L22] at h
    refine V_iload_n (q := 23) dX11_dead_22 rfl rfl rfl ?_
    refine V_bipush (q := 25) dX11_dead_23 rfl rfl rfl ?_
    refine V_icmpge (q := 60) (q2 := 28) dX11_dead_25 (by decide) rfl (fun hc8 => ?_) (fun hc8 => ?_)
    · have h := ifT hc8 h
      refine V_iload_n (q := 61) dX11_dead_60 rfl rfl rfl ?_
      exact V_iret rfl h dX11_dead_61
    · have h := ifF hc8 h
      refine V_iload_n (q := 29) dX11_dead_28 rfl rfl rfl ?_
      refine V_aload_n (q := 30) dX11_dead_29 rfl rfl rfl ?_
      refine V_iload_n (q := 31) dX11_dead_30 rfl rfl rfl ?_
      obtain ⟨v9, μ10, hc11, h⟩ := bd_i h
      refine V_cV1 (q := 34) (v := vI v9) (kX11_isOpen (d - 1) (by omega) hc11) (by omega) mv_X11_290 rfl rfl rfl rfl rfl rfl dX11_dead_31 rfl ?_
      refine V_ifeq (q := 51) (q2 := 37) dX11_dead_34 (by decide) rfl (fun hc12 => ?_) (fun hc12 => ?_)
      · have h := ifT hc12 h
        refine V_iconst (q := 52) dX11_dead_51 rfl rfl ?_
        refine V_iadd (q := 53) dX11_dead_52 rfl ?_
        refine V_istore_n (q := 54) dX11_dead_53 rfl (Nat.le_of_ble_eq_true rfl) trivial rfl ?_
        refine V_iinc (q := 57) dX11_dead_54 rfl (Nat.le_of_ble_eq_true rfl) trivial rfl ?_
        refine V_goto (q := 22) dX11_dead_57 (by decide) ?_
        exact V_weak (ih h) (sb_s rfl (sb_s rfl (sb_s rfl sb_0)))
      · have h := ifF hc12 h
        refine V_aload_n (q := 38) dX11_dead_37 rfl rfl rfl ?_
        refine V_getO (q := 41) (t := 87) fl_X11_65 rfl rfl rfl rfl dX11_dead_38 rfl ?_
        refine V_iload_n (q := 42) dX11_dead_41 rfl rfl rfl ?_
        obtain ⟨hi14, h⟩ := ldA_i h
        refine V_iaload (q := 43) rfl hi14 dX11_dead_42 rfl ?_
        refine V_iconst (q := 44) dX11_dead_43 rfl rfl ?_
        refine V_icmpne (q := 51) (q2 := 47) dX11_dead_44 (by decide) rfl (fun hc15 => ?_) (fun hc15 => ?_)
        · have h := ifF hc15 h
          refine V_iconst (q := 52) dX11_dead_51 rfl rfl ?_
          refine V_iadd (q := 53) dX11_dead_52 rfl ?_
          refine V_istore_n (q := 54) dX11_dead_53 rfl (Nat.le_of_ble_eq_true rfl) trivial rfl ?_
          refine V_iinc (q := 57) dX11_dead_54 rfl (Nat.le_of_ble_eq_true rfl) trivial rfl ?_
          refine V_goto (q := 22) dX11_dead_57 (by decide) ?_
          exact V_weak (ih h) (sb_s rfl (sb_s rfl (sb_s rfl sb_0)))
        · have h := ifT hc15 h
          refine V_iconst (q := 48) dX11_dead_47 rfl rfl ?_
          refine V_goto (q := 52) dX11_dead_48 (by decide) ?_
          refine V_iadd (q := 53) dX11_dead_52 rfl ?_
          refine V_istore_n (q := 54) dX11_dead_53 rfl (Nat.le_of_ble_eq_true rfl) trivial rfl ?_
          refine V_iinc (q := 57) dX11_dead_54 rfl (Nat.le_of_ble_eq_true rfl) trivial rfl ?_
          refine V_goto (q := 22) dX11_dead_57 (by decide) ?_
          exact V_weak (ih h) (sb_s rfl (sb_s rfl (sb_s rfl sb_0)))
set_option maxHeartbeats 4000000 in
set_option maxRecDepth 100000 in
theorem kX11_dead (d : Nat) (hd : 4 ≤ d) {μ : Mm} {r : Int} {μ' : Mm} (h : X11_dead μ = some (r, μ')) : CC d mX11_dead [vR 70] μ r μ' := by
  unfold X11_dead at h
  refine V_enter (by decide) (Nat.le_of_ble_eq_true rfl) ?_
  show VV d mX11_dead 0 [some (vR 70), none, none] [] μ r μ'
  refine V_aload_n (q := 1) dX11_dead_0 rfl rfl rfl ?_
  refine V_getI (q := 4) fl_X11_252 rfl rfl rfl dX11_dead_1 rfl ?_
  refine V_ifne (q := 9) (q2 := 7) dX11_dead_4 (by decide) rfl (fun hc1 => ?_) (fun hc1 => ?_)
  · have h := ifF hc1 h
    refine V_aload_n (q := 10) dX11_dead_9 rfl rfl rfl ?_
    refine V_aload_n (q := 11) dX11_dead_10 rfl rfl rfl ?_
    refine V_iconst (q := 12) dX11_dead_11 rfl rfl ?_
    obtain ⟨v2, μ3, hc4, h⟩ := bd_i h
    refine V_cV1 (q := 15) (v := vI v2) (kX11_placeOf (d - 1) (by omega) hc4) (by omega) mv_X11_281 rfl rfl rfl rfl rfl rfl dX11_dead_12 rfl ?_
    obtain ⟨v5, μ6, hc7, h⟩ := bd_i h
    refine V_cV0 (q := 18) (kX11_spread (d - 1) (by omega) hc7) (by omega) mv_X11_293 rfl rfl rfl rfl rfl rfl dX11_dead_15 rfl ?_
    refine V_iconst (q := 19) dX11_dead_18 rfl rfl ?_
    refine V_istore_n (q := 20) dX11_dead_19 rfl (Nat.le_of_ble_eq_true rfl) trivial rfl ?_
    refine V_iconst (q := 21) dX11_dead_20 rfl rfl ?_
    refine V_istore_n (q := 22) dX11_dead_21 rfl (Nat.le_of_ble_eq_true rfl) trivial rfl ?_
    exact V_weak (kX11_dead_L22 d hd  FU h) (sb_s rfl (sb_s rfl (sb_s rfl sb_0)))
  · have h := ifT hc1 h
    refine V_iconst (q := 8) dX11_dead_7 rfl rfl ?_
    exact V_iret rfl h dX11_dead_8
abbrev mX11_pillar : Mth := (yX11_pillar, cX11_pillar, 7, some .int)
set_option maxRecDepth 100000 in
theorem mi_X11_pillar : Cond.instanceMethod yX11_pillar ∈ tG ∧ Cond.selects yX11_pillar.cls yX11_pillar yX11_pillar ∈ tG ∧ Cond.initialized yX11_pillar.cls ∈ tG ∧ Cond.code yX11_pillar cX11_pillar 7 (some .int) ∈ tG ∧ (yX11_pillar.cls ≠ "java/lang/invoke/MethodHandle" ∧ yX11_pillar.cls ≠ "java/lang/invoke/VarHandle" ∧ (parseMethodDescriptor yX11_pillar.desc).map (fun d => d.parameters.length) = some 2) ∧ 7 ≤ 60 := ⟨(tG_of (tb7 (List.mem_of_getElem? (i := 169) rfl)) (by decide +kernel)), (tG_of (tb7 (List.mem_of_getElem? (i := 170) rfl)) (by decide +kernel)), (tG_of (tb1 (List.mem_of_getElem? (i := 12) rfl)) (by decide +kernel)), (tG_of (tb7 (List.mem_of_getElem? (i := 171) rfl)) (by decide +kernel)), ⟨by decide, by decide, by decide +kernel⟩, by decide⟩
theorem dX11_pillar_0 : decode cX11_pillar 0 = .ok (.aload_n 0, 1) := dc_42 (byA eNcX11_pillar (p := 0) (v := 42) (by decide +kernel))
theorem dX11_pillar_1 : decode cX11_pillar 1 = .ok (.iload_n 1, 1) := dc_27 (byA eNcX11_pillar (p := 1) (v := 27) (by decide +kernel))
theorem dX11_pillar_2 : decode cX11_pillar 2 = .ok (.invokevirtual 335, 3) := dc_182 (byA eNcX11_pillar (p := 2) (v := 182) (by decide +kernel)) (byA eNcX11_pillar (p := 3) (v := 1) (by decide +kernel)) (byA eNcX11_pillar (p := 4) (v := 79) (by decide +kernel)) rfl
theorem dX11_pillar_5 : decode cX11_pillar 5 = .ok (.ifCond .eq 25, 3) := dc_153 (byA eNcX11_pillar (p := 5) (v := 153) (by decide +kernel)) (byA eNcX11_pillar (p := 6) (v := 0) (by decide +kernel)) (byA eNcX11_pillar (p := 7) (v := 25) (by decide +kernel)) (by decide +kernel)
theorem dX11_pillar_8 : decode cX11_pillar 8 = .ok (.iload_n 2, 1) := dc_28 (byA eNcX11_pillar (p := 8) (v := 28) (by decide +kernel))
theorem dX11_pillar_9 : decode cX11_pillar 9 = .ok (.iconst 0, 1) := dc_3 (byA eNcX11_pillar (p := 9) (v := 3) (by decide +kernel))
theorem dX11_pillar_10 : decode cX11_pillar 10 = .ok (.iconst 1, 1) := dc_4 (byA eNcX11_pillar (p := 10) (v := 4) (by decide +kernel))
theorem dX11_pillar_11 : decode cX11_pillar 11 = .ok (.invokestatic 213, 3) := dc_184 (byA eNcX11_pillar (p := 11) (v := 184) (by decide +kernel)) (byA eNcX11_pillar (p := 12) (v := 0) (by decide +kernel)) (byA eNcX11_pillar (p := 13) (v := 213) (by decide +kernel)) rfl
theorem dX11_pillar_14 : decode cX11_pillar 14 = .ok (.ifCond .eq 16, 3) := dc_153 (byA eNcX11_pillar (p := 14) (v := 153) (by decide +kernel)) (byA eNcX11_pillar (p := 15) (v := 0) (by decide +kernel)) (byA eNcX11_pillar (p := 16) (v := 16) (by decide +kernel)) (by decide +kernel)
theorem dX11_pillar_17 : decode cX11_pillar 17 = .ok (.aload_n 0, 1) := dc_42 (byA eNcX11_pillar (p := 17) (v := 42) (by decide +kernel))
theorem dX11_pillar_18 : decode cX11_pillar 18 = .ok (.iconst 0, 1) := dc_3 (byA eNcX11_pillar (p := 18) (v := 3) (by decide +kernel))
theorem dX11_pillar_19 : decode cX11_pillar 19 = .ok (.aload_n 0, 1) := dc_42 (byA eNcX11_pillar (p := 19) (v := 42) (by decide +kernel))
theorem dX11_pillar_20 : decode cX11_pillar 20 = .ok (.invokevirtual 357, 3) := dc_182 (byA eNcX11_pillar (p := 20) (v := 182) (by decide +kernel)) (byA eNcX11_pillar (p := 21) (v := 1) (by decide +kernel)) (byA eNcX11_pillar (p := 22) (v := 101) (by decide +kernel)) rfl
theorem dX11_pillar_23 : decode cX11_pillar 23 = .ok (.invokevirtual 360, 3) := dc_182 (byA eNcX11_pillar (p := 23) (v := 182) (by decide +kernel)) (byA eNcX11_pillar (p := 24) (v := 1) (by decide +kernel)) (byA eNcX11_pillar (p := 25) (v := 104) (by decide +kernel)) rfl
theorem dX11_pillar_26 : decode cX11_pillar 26 = .ok (.iconst (-1), 1) := dc_2 (byA eNcX11_pillar (p := 26) (v := 2) (by decide +kernel))
theorem dX11_pillar_27 : decode cX11_pillar 27 = .ok (.if_icmp .ne 5, 3) := dc_160 (byA eNcX11_pillar (p := 27) (v := 160) (by decide +kernel)) (byA eNcX11_pillar (p := 28) (v := 0) (by decide +kernel)) (byA eNcX11_pillar (p := 29) (v := 5) (by decide +kernel)) (by decide +kernel)
theorem dX11_pillar_30 : decode cX11_pillar 30 = .ok (.iconst (-1), 1) := dc_2 (byA eNcX11_pillar (p := 30) (v := 2) (by decide +kernel))
theorem dX11_pillar_31 : decode cX11_pillar 31 = .ok (.ireturn, 1) := dc_172 (byA eNcX11_pillar (p := 31) (v := 172) (by decide +kernel))
theorem dX11_pillar_32 : decode cX11_pillar 32 = .ok (.iconst (-1), 1) := dc_2 (byA eNcX11_pillar (p := 32) (v := 2) (by decide +kernel))
theorem dX11_pillar_33 : decode cX11_pillar 33 = .ok (.istore_n 3, 1) := dc_62 (byA eNcX11_pillar (p := 33) (v := 62) (by decide +kernel))
theorem dX11_pillar_34 : decode cX11_pillar 34 = .ok (.iconst 0, 1) := dc_3 (byA eNcX11_pillar (p := 34) (v := 3) (by decide +kernel))
theorem dX11_pillar_35 : decode cX11_pillar 35 = .ok (.istore 4, 2) := dc_54 (byA eNcX11_pillar (p := 35) (v := 54) (by decide +kernel)) (byA eNcX11_pillar (p := 36) (v := 4) (by decide +kernel))
theorem dX11_pillar_37 : decode cX11_pillar 37 = .ok (.iconst 0, 1) := dc_3 (byA eNcX11_pillar (p := 37) (v := 3) (by decide +kernel))
theorem dX11_pillar_38 : decode cX11_pillar 38 = .ok (.istore 5, 2) := dc_54 (byA eNcX11_pillar (p := 38) (v := 54) (by decide +kernel)) (byA eNcX11_pillar (p := 39) (v := 5) (by decide +kernel))
theorem dX11_pillar_40 : decode cX11_pillar 40 = .ok (.iload 5, 2) := dc_21 (byA eNcX11_pillar (p := 40) (v := 21) (by decide +kernel)) (byA eNcX11_pillar (p := 41) (v := 5) (by decide +kernel))
theorem dX11_pillar_42 : decode cX11_pillar 42 = .ok (.bipush 60, 2) := dc_16 (byA eNcX11_pillar (p := 42) (v := 16) (by decide +kernel)) (byA eNcX11_pillar (p := 43) (v := 60) (by decide +kernel)) (by decide +kernel)
theorem dX11_pillar_44 : decode cX11_pillar 44 = .ok (.if_icmp .ge 82, 3) := dc_162 (byA eNcX11_pillar (p := 44) (v := 162) (by decide +kernel)) (byA eNcX11_pillar (p := 45) (v := 0) (by decide +kernel)) (byA eNcX11_pillar (p := 46) (v := 82) (by decide +kernel)) (by decide +kernel)
theorem dX11_pillar_47 : decode cX11_pillar 47 = .ok (.aload_n 0, 1) := dc_42 (byA eNcX11_pillar (p := 47) (v := 42) (by decide +kernel))
theorem dX11_pillar_48 : decode cX11_pillar 48 = .ok (.iload 5, 2) := dc_21 (byA eNcX11_pillar (p := 48) (v := 21) (by decide +kernel)) (byA eNcX11_pillar (p := 49) (v := 5) (by decide +kernel))
theorem dX11_pillar_50 : decode cX11_pillar 50 = .ok (.invokevirtual 258, 3) := dc_182 (byA eNcX11_pillar (p := 50) (v := 182) (by decide +kernel)) (byA eNcX11_pillar (p := 51) (v := 1) (by decide +kernel)) (byA eNcX11_pillar (p := 52) (v := 2) (by decide +kernel)) rfl
theorem dX11_pillar_53 : decode cX11_pillar 53 = .ok (.ifCond .eq 67, 3) := dc_153 (byA eNcX11_pillar (p := 53) (v := 153) (by decide +kernel)) (byA eNcX11_pillar (p := 54) (v := 0) (by decide +kernel)) (byA eNcX11_pillar (p := 55) (v := 67) (by decide +kernel)) (by decide +kernel)
theorem dX11_pillar_56 : decode cX11_pillar 56 = .ok (.aload_n 0, 1) := dc_42 (byA eNcX11_pillar (p := 56) (v := 42) (by decide +kernel))
theorem dX11_pillar_57 : decode cX11_pillar 57 = .ok (.getfield 43, 3) := dc_180 (byA eNcX11_pillar (p := 57) (v := 180) (by decide +kernel)) (byA eNcX11_pillar (p := 58) (v := 0) (by decide +kernel)) (byA eNcX11_pillar (p := 59) (v := 43) (by decide +kernel)) rfl
theorem dX11_pillar_60 : decode cX11_pillar 60 = .ok (.iload 5, 2) := dc_21 (byA eNcX11_pillar (p := 60) (v := 21) (by decide +kernel)) (byA eNcX11_pillar (p := 61) (v := 5) (by decide +kernel))
theorem dX11_pillar_62 : decode cX11_pillar 62 = .ok (.iaload, 1) := dc_46 (byA eNcX11_pillar (p := 62) (v := 46) (by decide +kernel))
theorem dX11_pillar_63 : decode cX11_pillar 63 = .ok (.ifCond .ne 57, 3) := dc_154 (byA eNcX11_pillar (p := 63) (v := 154) (by decide +kernel)) (byA eNcX11_pillar (p := 64) (v := 0) (by decide +kernel)) (byA eNcX11_pillar (p := 65) (v := 57) (by decide +kernel)) (by decide +kernel)
theorem dX11_pillar_66 : decode cX11_pillar 66 = .ok (.aload_n 0, 1) := dc_42 (byA eNcX11_pillar (p := 66) (v := 42) (by decide +kernel))
theorem dX11_pillar_67 : decode cX11_pillar 67 = .ok (.getfield 43, 3) := dc_180 (byA eNcX11_pillar (p := 67) (v := 180) (by decide +kernel)) (byA eNcX11_pillar (p := 68) (v := 0) (by decide +kernel)) (byA eNcX11_pillar (p := 69) (v := 43) (by decide +kernel)) rfl
theorem dX11_pillar_70 : decode cX11_pillar 70 = .ok (.iload 5, 2) := dc_21 (byA eNcX11_pillar (p := 70) (v := 21) (by decide +kernel)) (byA eNcX11_pillar (p := 71) (v := 5) (by decide +kernel))
theorem dX11_pillar_72 : decode cX11_pillar 72 = .ok (.iconst 1, 1) := dc_4 (byA eNcX11_pillar (p := 72) (v := 4) (by decide +kernel))
theorem dX11_pillar_73 : decode cX11_pillar 73 = .ok (.iastore, 1) := dc_79 (byA eNcX11_pillar (p := 73) (v := 79) (by decide +kernel))
theorem dX11_pillar_74 : decode cX11_pillar 74 = .ok (.aload_n 0, 1) := dc_42 (byA eNcX11_pillar (p := 74) (v := 42) (by decide +kernel))
theorem dX11_pillar_75 : decode cX11_pillar 75 = .ok (.iload_n 1, 1) := dc_27 (byA eNcX11_pillar (p := 75) (v := 27) (by decide +kernel))
theorem dX11_pillar_76 : decode cX11_pillar 76 = .ok (.invokevirtual 366, 3) := dc_182 (byA eNcX11_pillar (p := 76) (v := 182) (by decide +kernel)) (byA eNcX11_pillar (p := 77) (v := 1) (by decide +kernel)) (byA eNcX11_pillar (p := 78) (v := 110) (by decide +kernel)) rfl
theorem dX11_pillar_79 : decode cX11_pillar 79 = .ok (.istore 6, 2) := dc_54 (byA eNcX11_pillar (p := 79) (v := 54) (by decide +kernel)) (byA eNcX11_pillar (p := 80) (v := 6) (by decide +kernel))
theorem dX11_pillar_81 : decode cX11_pillar 81 = .ok (.aload_n 0, 1) := dc_42 (byA eNcX11_pillar (p := 81) (v := 42) (by decide +kernel))
theorem dX11_pillar_82 : decode cX11_pillar 82 = .ok (.getfield 43, 3) := dc_180 (byA eNcX11_pillar (p := 82) (v := 180) (by decide +kernel)) (byA eNcX11_pillar (p := 83) (v := 0) (by decide +kernel)) (byA eNcX11_pillar (p := 84) (v := 43) (by decide +kernel)) rfl
theorem dX11_pillar_85 : decode cX11_pillar 85 = .ok (.iload 5, 2) := dc_21 (byA eNcX11_pillar (p := 85) (v := 21) (by decide +kernel)) (byA eNcX11_pillar (p := 86) (v := 5) (by decide +kernel))
theorem dX11_pillar_87 : decode cX11_pillar 87 = .ok (.iconst 0, 1) := dc_3 (byA eNcX11_pillar (p := 87) (v := 3) (by decide +kernel))
theorem dX11_pillar_88 : decode cX11_pillar 88 = .ok (.iastore, 1) := dc_79 (byA eNcX11_pillar (p := 88) (v := 79) (by decide +kernel))
theorem dX11_pillar_89 : decode cX11_pillar 89 = .ok (.iload_n 3, 1) := dc_29 (byA eNcX11_pillar (p := 89) (v := 29) (by decide +kernel))
theorem dX11_pillar_90 : decode cX11_pillar 90 = .ok (.iconst (-1), 1) := dc_2 (byA eNcX11_pillar (p := 90) (v := 2) (by decide +kernel))
theorem dX11_pillar_91 : decode cX11_pillar 91 = .ok (.if_icmp .eq 22, 3) := dc_159 (byA eNcX11_pillar (p := 91) (v := 159) (by decide +kernel)) (byA eNcX11_pillar (p := 92) (v := 0) (by decide +kernel)) (byA eNcX11_pillar (p := 93) (v := 22) (by decide +kernel)) (by decide +kernel)
theorem dX11_pillar_94 : decode cX11_pillar 94 = .ok (.iload 4, 2) := dc_21 (byA eNcX11_pillar (p := 94) (v := 21) (by decide +kernel)) (byA eNcX11_pillar (p := 95) (v := 4) (by decide +kernel))
theorem dX11_pillar_96 : decode cX11_pillar 96 = .ok (.iconst (-1), 1) := dc_2 (byA eNcX11_pillar (p := 96) (v := 2) (by decide +kernel))
theorem dX11_pillar_97 : decode cX11_pillar 97 = .ok (.if_icmp .eq 23, 3) := dc_159 (byA eNcX11_pillar (p := 97) (v := 159) (by decide +kernel)) (byA eNcX11_pillar (p := 98) (v := 0) (by decide +kernel)) (byA eNcX11_pillar (p := 99) (v := 23) (by decide +kernel)) (by decide +kernel)
theorem dX11_pillar_100 : decode cX11_pillar 100 = .ok (.iload 6, 2) := dc_21 (byA eNcX11_pillar (p := 100) (v := 21) (by decide +kernel)) (byA eNcX11_pillar (p := 101) (v := 6) (by decide +kernel))
theorem dX11_pillar_102 : decode cX11_pillar 102 = .ok (.iconst (-1), 1) := dc_2 (byA eNcX11_pillar (p := 102) (v := 2) (by decide +kernel))
theorem dX11_pillar_103 : decode cX11_pillar 103 = .ok (.if_icmp .eq 10, 3) := dc_159 (byA eNcX11_pillar (p := 103) (v := 159) (by decide +kernel)) (byA eNcX11_pillar (p := 104) (v := 0) (by decide +kernel)) (byA eNcX11_pillar (p := 105) (v := 10) (by decide +kernel)) (by decide +kernel)
theorem dX11_pillar_106 : decode cX11_pillar 106 = .ok (.iload 6, 2) := dc_21 (byA eNcX11_pillar (p := 106) (v := 21) (by decide +kernel)) (byA eNcX11_pillar (p := 107) (v := 6) (by decide +kernel))
theorem dX11_pillar_108 : decode cX11_pillar 108 = .ok (.iload 4, 2) := dc_21 (byA eNcX11_pillar (p := 108) (v := 21) (by decide +kernel)) (byA eNcX11_pillar (p := 109) (v := 4) (by decide +kernel))
theorem dX11_pillar_110 : decode cX11_pillar 110 = .ok (.if_icmp .le 10, 3) := dc_164 (byA eNcX11_pillar (p := 110) (v := 164) (by decide +kernel)) (byA eNcX11_pillar (p := 111) (v := 0) (by decide +kernel)) (byA eNcX11_pillar (p := 112) (v := 10) (by decide +kernel)) (by decide +kernel)
theorem dX11_pillar_113 : decode cX11_pillar 113 = .ok (.iload 5, 2) := dc_21 (byA eNcX11_pillar (p := 113) (v := 21) (by decide +kernel)) (byA eNcX11_pillar (p := 114) (v := 5) (by decide +kernel))
theorem dX11_pillar_115 : decode cX11_pillar 115 = .ok (.istore_n 3, 1) := dc_62 (byA eNcX11_pillar (p := 115) (v := 62) (by decide +kernel))
theorem dX11_pillar_116 : decode cX11_pillar 116 = .ok (.iload 6, 2) := dc_21 (byA eNcX11_pillar (p := 116) (v := 21) (by decide +kernel)) (byA eNcX11_pillar (p := 117) (v := 6) (by decide +kernel))
theorem dX11_pillar_118 : decode cX11_pillar 118 = .ok (.istore 4, 2) := dc_54 (byA eNcX11_pillar (p := 118) (v := 54) (by decide +kernel)) (byA eNcX11_pillar (p := 119) (v := 4) (by decide +kernel))
theorem dX11_pillar_120 : decode cX11_pillar 120 = .ok (.iinc 5 1, 3) := dc_132 (byA eNcX11_pillar (p := 120) (v := 132) (by decide +kernel)) (byA eNcX11_pillar (p := 121) (v := 5) (by decide +kernel)) (byA eNcX11_pillar (p := 122) (v := 1) (by decide +kernel)) (by decide +kernel)
theorem dX11_pillar_123 : decode cX11_pillar 123 = .ok (.goto (-83), 3) := dc_167 (byA eNcX11_pillar (p := 123) (v := 167) (by decide +kernel)) (byA eNcX11_pillar (p := 124) (v := 255) (by decide +kernel)) (byA eNcX11_pillar (p := 125) (v := 173) (by decide +kernel)) (by decide +kernel)
theorem dX11_pillar_126 : decode cX11_pillar 126 = .ok (.iload_n 3, 1) := dc_29 (byA eNcX11_pillar (p := 126) (v := 29) (by decide +kernel))
theorem dX11_pillar_127 : decode cX11_pillar 127 = .ok (.iconst (-1), 1) := dc_2 (byA eNcX11_pillar (p := 127) (v := 2) (by decide +kernel))
theorem dX11_pillar_128 : decode cX11_pillar 128 = .ok (.if_icmp .eq 7, 3) := dc_159 (byA eNcX11_pillar (p := 128) (v := 159) (by decide +kernel)) (byA eNcX11_pillar (p := 129) (v := 0) (by decide +kernel)) (byA eNcX11_pillar (p := 130) (v := 7) (by decide +kernel)) (by decide +kernel)
theorem dX11_pillar_131 : decode cX11_pillar 131 = .ok (.iload_n 2, 1) := dc_28 (byA eNcX11_pillar (p := 131) (v := 28) (by decide +kernel))
theorem dX11_pillar_132 : decode cX11_pillar 132 = .ok (.ifCond .ne 7, 3) := dc_154 (byA eNcX11_pillar (p := 132) (v := 154) (by decide +kernel)) (byA eNcX11_pillar (p := 133) (v := 0) (by decide +kernel)) (byA eNcX11_pillar (p := 134) (v := 7) (by decide +kernel)) (by decide +kernel)
theorem dX11_pillar_135 : decode cX11_pillar 135 = .ok (.iload_n 3, 1) := dc_29 (byA eNcX11_pillar (p := 135) (v := 29) (by decide +kernel))
theorem dX11_pillar_136 : decode cX11_pillar 136 = .ok (.goto 17, 3) := dc_167 (byA eNcX11_pillar (p := 136) (v := 167) (by decide +kernel)) (byA eNcX11_pillar (p := 137) (v := 0) (by decide +kernel)) (byA eNcX11_pillar (p := 138) (v := 17) (by decide +kernel)) (by decide +kernel)
theorem dX11_pillar_139 : decode cX11_pillar 139 = .ok (.iload 4, 2) := dc_21 (byA eNcX11_pillar (p := 139) (v := 21) (by decide +kernel)) (byA eNcX11_pillar (p := 140) (v := 4) (by decide +kernel))
theorem dX11_pillar_141 : decode cX11_pillar 141 = .ok (.iconst (-1), 1) := dc_2 (byA eNcX11_pillar (p := 141) (v := 2) (by decide +kernel))
theorem dX11_pillar_142 : decode cX11_pillar 142 = .ok (.if_icmp .ne 9, 3) := dc_160 (byA eNcX11_pillar (p := 142) (v := 160) (by decide +kernel)) (byA eNcX11_pillar (p := 143) (v := 0) (by decide +kernel)) (byA eNcX11_pillar (p := 144) (v := 9) (by decide +kernel)) (by decide +kernel)
theorem dX11_pillar_145 : decode cX11_pillar 145 = .ok (.ldc_w 388, 3) := dc_19 (byA eNcX11_pillar (p := 145) (v := 19) (by decide +kernel)) (byA eNcX11_pillar (p := 146) (v := 1) (by decide +kernel)) (byA eNcX11_pillar (p := 147) (v := 132) (by decide +kernel)) rfl
theorem dX11_pillar_148 : decode cX11_pillar 148 = .ok (.goto 5, 3) := dc_167 (byA eNcX11_pillar (p := 148) (v := 167) (by decide +kernel)) (byA eNcX11_pillar (p := 149) (v := 0) (by decide +kernel)) (byA eNcX11_pillar (p := 150) (v := 5) (by decide +kernel)) (by decide +kernel)
theorem dX11_pillar_151 : decode cX11_pillar 151 = .ok (.iload 4, 2) := dc_21 (byA eNcX11_pillar (p := 151) (v := 21) (by decide +kernel)) (byA eNcX11_pillar (p := 152) (v := 4) (by decide +kernel))
theorem dX11_pillar_153 : decode cX11_pillar 153 = .ok (.ireturn, 1) := dc_172 (byA eNcX11_pillar (p := 153) (v := 172) (by decide +kernel))
def X11_pillar_L40 (l1 : Int) (l2 : Int) (k126 : Int → Int → Mm → Rs) : Nat → Int → Int → Int → Mm → Rs
  | 0, _, _, _, _ => none
  | n + 1, l3, l4, l5, μ => if 60 ≤ l5 then (k126 l3 l4 μ) else (bd (X11_isPlace l5 μ) fun v17 μ18 => if v17 = 0 then (X11_pillar_L40 l1 l2 k126 n l3 l4 (iA l5 1) μ18) else (ldA μ18 82 l5 fun v21 => if v21 = 0 then (stA μ18 82 l5 1 fun μ24 => bd (X11_leastNow l1 μ24) fun v26 μ27 => stA μ27 82 l5 0 fun μ29 => if l3 = (-1) then (X11_pillar_L40 l1 l2 k126 n l5 v26 (iA l5 1) μ29) else (if l4 = (-1) then (X11_pillar_L40 l1 l2 k126 n l3 l4 (iA l5 1) μ29) else (if v26 = (-1) then (X11_pillar_L40 l1 l2 k126 n l5 v26 (iA l5 1) μ29) else (if v26 ≤ l4 then (X11_pillar_L40 l1 l2 k126 n l3 l4 (iA l5 1) μ29) else (X11_pillar_L40 l1 l2 k126 n l5 v26 (iA l5 1) μ29))))) else (X11_pillar_L40 l1 l2 k126 n l3 l4 (iA l5 1) μ18)))
def X11_pillar (l1 : Int) (l2 : Int) (μ : Mm) : Rs := bd (X11_isReady l1 μ) fun v1 μ2 => if v1 = 0 then (some ((-1), μ2)) else (bd (X11_in l2 0 1 μ2) fun v5 μ6 => if v5 = 0 then (some ((-1), μ6)) else (bd (X11_all μ6) fun v9 μ10 => bd (X11_leastOf 0 v9 μ10) fun v12 μ13 => if v12 = (-1) then (some ((-1), μ13)) else (X11_pillar_L40 l1 l2 (fun v35 v36 μ37 => if v35 = (-1) then (some (v35, μ37)) else (if l2 = 0 then (some (v35, μ37)) else (if v36 = (-1) then (some ((-1000000), μ37)) else (some (v36, μ37))))) FU (-1) 0 0 μ13)))
set_option maxHeartbeats 4000000 in
set_option maxRecDepth 100000 in
theorem kX11_pillar_L40 (d : Nat) (hd : 135 ≤ d) {l1 : Int} {l2 : Int} {k126 : Int → Int → Mm → Rs} {r : Int} {μ' : Mm} (hk_126 : ∀ (v3 v4 : Int) (μ1 : Mm), k126 v3 v4 μ1 = some (r, μ') → VV d mX11_pillar 126 [none, none, some (vI l2), some (vI v3), some (vI v4), none, none] [] μ1 r μ') : ∀ (n : Nat) {l3 l4 l5 : Int} {μ : Mm}, X11_pillar_L40 l1 l2 k126 n l3 l4 l5 μ = some (r, μ') → VV d mX11_pillar 40 [some (vR 70), some (vI l1), some (vI l2), some (vI l3), some (vI l4), some (vI l5), none] [] μ r μ' := by
  intro n
  induction n with
  | zero => intro l3 l4 l5 μ h; rw [X11_pillar_L40] at h; cases h
  | succ n ih =>
    intro l3 l4 l5 μ h
    rw [X11_pillar_L40] at h
    refine V_iload (q := 42) dX11_pillar_40 rfl rfl ?_
    refine V_bipush (q := 44) dX11_pillar_42 rfl rfl rfl ?_
    refine V_icmpge (q := 126) (q2 := 47) dX11_pillar_44 (by decide) rfl (fun hc16 => ?_) (fun hc16 => ?_)
    · have h := ifT hc16 h
      exact V_weak (hk_126 _ _ _ h) (sb_n (sb_n (sb_s rfl (sb_s rfl (sb_s rfl (sb_n (sb_n sb_0)))))))
    · have h := ifF hc16 h
      refine V_aload_n (q := 48) dX11_pillar_47 rfl rfl rfl ?_
      refine V_iload (q := 50) dX11_pillar_48 rfl rfl ?_
      obtain ⟨v17, μ18, hc19, h⟩ := bd_i h
      refine V_cV1 (q := 53) (v := vI v17) (kX11_isPlace (d - 1) (by omega) hc19) (by omega) mv_X11_258 rfl rfl rfl rfl rfl rfl dX11_pillar_50 rfl ?_
      refine V_ifeq (q := 120) (q2 := 56) dX11_pillar_53 (by decide) rfl (fun hc20 => ?_) (fun hc20 => ?_)
      · have h := ifT hc20 h
        refine V_iinc (q := 123) dX11_pillar_120 rfl (Nat.le_of_ble_eq_true rfl) trivial rfl ?_
        refine V_goto (q := 40) dX11_pillar_123 (by decide) ?_
        exact V_weak (ih h) (sb_s rfl (sb_s rfl (sb_s rfl (sb_s rfl (sb_s rfl (sb_s rfl (sb_n sb_0)))))))
      · have h := ifF hc20 h
        refine V_aload_n (q := 57) dX11_pillar_56 rfl rfl rfl ?_
        refine V_getO (q := 60) (t := 82) fl_X11_43 rfl rfl rfl rfl dX11_pillar_57 rfl ?_
        refine V_iload (q := 62) dX11_pillar_60 rfl rfl ?_
        obtain ⟨hi22, h⟩ := ldA_i h
        refine V_iaload (q := 63) rfl hi22 dX11_pillar_62 rfl ?_
        refine V_ifne (q := 120) (q2 := 66) dX11_pillar_63 (by decide) rfl (fun hc23 => ?_) (fun hc23 => ?_)
        · have h := ifF hc23 h
          refine V_iinc (q := 123) dX11_pillar_120 rfl (Nat.le_of_ble_eq_true rfl) trivial rfl ?_
          refine V_goto (q := 40) dX11_pillar_123 (by decide) ?_
          exact V_weak (ih h) (sb_s rfl (sb_s rfl (sb_s rfl (sb_s rfl (sb_s rfl (sb_s rfl (sb_n sb_0)))))))
        · have h := ifT hc23 h
          refine V_aload_n (q := 67) dX11_pillar_66 rfl rfl rfl ?_
          refine V_getO (q := 70) (t := 82) fl_X11_43 rfl rfl rfl rfl dX11_pillar_67 rfl ?_
          refine V_iload (q := 72) dX11_pillar_70 rfl rfl ?_
          refine V_iconst (q := 73) dX11_pillar_72 rfl rfl ?_
          obtain ⟨hi25, h⟩ := stA_i h
          refine V_iastore (q := 74) rfl hi25 dX11_pillar_73 rfl ?_
          refine V_aload_n (q := 75) dX11_pillar_74 rfl rfl rfl ?_
          refine V_iload_n (q := 76) dX11_pillar_75 rfl rfl rfl ?_
          obtain ⟨v26, μ27, hc28, h⟩ := bd_i h
          refine V_cV1 (q := 79) (v := vI v26) (kX11_leastNow (d - 1) (by omega) hc28) (by omega) mv_X11_366 rfl rfl rfl rfl rfl rfl dX11_pillar_76 rfl ?_
          refine V_istore (q := 81) dX11_pillar_79 (Nat.le_of_ble_eq_true rfl) trivial rfl ?_
          refine V_aload_n (q := 82) dX11_pillar_81 rfl rfl rfl ?_
          refine V_getO (q := 85) (t := 82) fl_X11_43 rfl rfl rfl rfl dX11_pillar_82 rfl ?_
          refine V_iload (q := 87) dX11_pillar_85 rfl rfl ?_
          refine V_iconst (q := 88) dX11_pillar_87 rfl rfl ?_
          obtain ⟨hi30, h⟩ := stA_i h
          refine V_iastore (q := 89) rfl hi30 dX11_pillar_88 rfl ?_
          refine V_iload_n (q := 90) dX11_pillar_89 rfl rfl rfl ?_
          refine V_iconst (q := 91) dX11_pillar_90 rfl rfl ?_
          refine V_icmpeq (q := 113) (q2 := 94) dX11_pillar_91 (by decide) rfl (fun hc31 => ?_) (fun hc31 => ?_)
          · have h := ifT hc31 h
            refine V_iload (q := 115) dX11_pillar_113 rfl rfl ?_
            refine V_istore_n (q := 116) dX11_pillar_115 rfl (Nat.le_of_ble_eq_true rfl) trivial rfl ?_
            refine V_iload (q := 118) dX11_pillar_116 rfl rfl ?_
            refine V_istore (q := 120) dX11_pillar_118 (Nat.le_of_ble_eq_true rfl) trivial rfl ?_
            refine V_iinc (q := 123) dX11_pillar_120 rfl (Nat.le_of_ble_eq_true rfl) trivial rfl ?_
            refine V_goto (q := 40) dX11_pillar_123 (by decide) ?_
            exact V_weak (ih h) (sb_s rfl (sb_s rfl (sb_s rfl (sb_s rfl (sb_s rfl (sb_s rfl (sb_n sb_0)))))))
          · have h := ifF hc31 h
            refine V_iload (q := 96) dX11_pillar_94 rfl rfl ?_
            refine V_iconst (q := 97) dX11_pillar_96 rfl rfl ?_
            refine V_icmpeq (q := 120) (q2 := 100) dX11_pillar_97 (by decide) rfl (fun hc32 => ?_) (fun hc32 => ?_)
            · have h := ifT hc32 h
              refine V_iinc (q := 123) dX11_pillar_120 rfl (Nat.le_of_ble_eq_true rfl) trivial rfl ?_
              refine V_goto (q := 40) dX11_pillar_123 (by decide) ?_
              exact V_weak (ih h) (sb_s rfl (sb_s rfl (sb_s rfl (sb_s rfl (sb_s rfl (sb_s rfl (sb_n sb_0)))))))
            · have h := ifF hc32 h
              refine V_iload (q := 102) dX11_pillar_100 rfl rfl ?_
              refine V_iconst (q := 103) dX11_pillar_102 rfl rfl ?_
              refine V_icmpeq (q := 113) (q2 := 106) dX11_pillar_103 (by decide) rfl (fun hc33 => ?_) (fun hc33 => ?_)
              · have h := ifT hc33 h
                refine V_iload (q := 115) dX11_pillar_113 rfl rfl ?_
                refine V_istore_n (q := 116) dX11_pillar_115 rfl (Nat.le_of_ble_eq_true rfl) trivial rfl ?_
                refine V_iload (q := 118) dX11_pillar_116 rfl rfl ?_
                refine V_istore (q := 120) dX11_pillar_118 (Nat.le_of_ble_eq_true rfl) trivial rfl ?_
                refine V_iinc (q := 123) dX11_pillar_120 rfl (Nat.le_of_ble_eq_true rfl) trivial rfl ?_
                refine V_goto (q := 40) dX11_pillar_123 (by decide) ?_
                exact V_weak (ih h) (sb_s rfl (sb_s rfl (sb_s rfl (sb_s rfl (sb_s rfl (sb_s rfl (sb_n sb_0)))))))
              · have h := ifF hc33 h
                refine V_iload (q := 108) dX11_pillar_106 rfl rfl ?_
                refine V_iload (q := 110) dX11_pillar_108 rfl rfl ?_
                refine V_icmple (q := 120) (q2 := 113) dX11_pillar_110 (by decide) rfl (fun hc34 => ?_) (fun hc34 => ?_)
                · have h := ifT hc34 h
                  refine V_iinc (q := 123) dX11_pillar_120 rfl (Nat.le_of_ble_eq_true rfl) trivial rfl ?_
                  refine V_goto (q := 40) dX11_pillar_123 (by decide) ?_
                  exact V_weak (ih h) (sb_s rfl (sb_s rfl (sb_s rfl (sb_s rfl (sb_s rfl (sb_s rfl (sb_n sb_0)))))))
                · have h := ifF hc34 h
                  refine V_iload (q := 115) dX11_pillar_113 rfl rfl ?_
                  refine V_istore_n (q := 116) dX11_pillar_115 rfl (Nat.le_of_ble_eq_true rfl) trivial rfl ?_
                  refine V_iload (q := 118) dX11_pillar_116 rfl rfl ?_
                  refine V_istore (q := 120) dX11_pillar_118 (Nat.le_of_ble_eq_true rfl) trivial rfl ?_
                  refine V_iinc (q := 123) dX11_pillar_120 rfl (Nat.le_of_ble_eq_true rfl) trivial rfl ?_
                  refine V_goto (q := 40) dX11_pillar_123 (by decide) ?_
                  exact V_weak (ih h) (sb_s rfl (sb_s rfl (sb_s rfl (sb_s rfl (sb_s rfl (sb_s rfl (sb_n sb_0)))))))
set_option maxHeartbeats 4000000 in
set_option maxRecDepth 100000 in
theorem kX11_pillar (d : Nat) (hd : 135 ≤ d) {l1 : Int} {l2 : Int} {μ : Mm} {r : Int} {μ' : Mm} (h : X11_pillar l1 l2 μ = some (r, μ')) : CC d mX11_pillar [vR 70, vI l1, vI l2] μ r μ' := by
  unfold X11_pillar at h
  refine V_enter (by decide) (Nat.le_of_ble_eq_true rfl) ?_
  show VV d mX11_pillar 0 [some (vR 70), some (vI l1), some (vI l2), none, none, none, none] [] μ r μ'
  refine V_aload_n (q := 1) dX11_pillar_0 rfl rfl rfl ?_
  refine V_iload_n (q := 2) dX11_pillar_1 rfl rfl rfl ?_
  obtain ⟨v1, μ2, hc3, h⟩ := bd_i h
  refine V_cV1 (q := 5) (v := vI v1) (kX11_isReady (d - 1) (by omega) hc3) (by omega) mv_X11_335 rfl rfl rfl rfl rfl rfl dX11_pillar_2 rfl ?_
  refine V_ifeq (q := 30) (q2 := 8) dX11_pillar_5 (by decide) rfl (fun hc4 => ?_) (fun hc4 => ?_)
  · have h := ifT hc4 h
    refine V_iconst (q := 31) dX11_pillar_30 rfl rfl ?_
    exact V_iret rfl h dX11_pillar_31
  · have h := ifF hc4 h
    refine V_iload_n (q := 9) dX11_pillar_8 rfl rfl rfl ?_
    refine V_iconst (q := 10) dX11_pillar_9 rfl rfl ?_
    refine V_iconst (q := 11) dX11_pillar_10 rfl rfl ?_
    obtain ⟨v5, μ6, hc7, h⟩ := bd_i h
    refine V_cS1 (q := 14) (v := vI v5) (kX11_in (d - 1) (by omega) hc7) (by omega) mv_X11_213 rfl rfl rfl rfl dX11_pillar_11 rfl ?_
    refine V_ifeq (q := 30) (q2 := 17) dX11_pillar_14 (by decide) rfl (fun hc8 => ?_) (fun hc8 => ?_)
    · have h := ifT hc8 h
      refine V_iconst (q := 31) dX11_pillar_30 rfl rfl ?_
      exact V_iret rfl h dX11_pillar_31
    · have h := ifF hc8 h
      refine V_aload_n (q := 18) dX11_pillar_17 rfl rfl rfl ?_
      refine V_iconst (q := 19) dX11_pillar_18 rfl rfl ?_
      refine V_aload_n (q := 20) dX11_pillar_19 rfl rfl rfl ?_
      obtain ⟨v9, μ10, hc11, h⟩ := bd_i h
      refine V_cV1 (q := 23) (v := vI v9) (kX11_all (d - 1) (by omega) hc11) (by omega) mv_X11_357 rfl rfl rfl rfl rfl rfl dX11_pillar_20 rfl ?_
      obtain ⟨v12, μ13, hc14, h⟩ := bd_i h
      refine V_cV1 (q := 26) (v := vI v12) (kX11_leastOf (d - 1) (by omega) hc14) (by omega) mv_X11_360 rfl rfl rfl rfl rfl rfl dX11_pillar_23 rfl ?_
      refine V_iconst (q := 27) dX11_pillar_26 rfl rfl ?_
      refine V_icmpne (q := 32) (q2 := 30) dX11_pillar_27 (by decide) rfl (fun hc15 => ?_) (fun hc15 => ?_)
      · have h := ifF hc15 h
        refine V_iconst (q := 33) dX11_pillar_32 rfl rfl ?_
        refine V_istore_n (q := 34) dX11_pillar_33 rfl (Nat.le_of_ble_eq_true rfl) trivial rfl ?_
        refine V_iconst (q := 35) dX11_pillar_34 rfl rfl ?_
        refine V_istore (q := 37) dX11_pillar_35 (Nat.le_of_ble_eq_true rfl) trivial rfl ?_
        refine V_iconst (q := 38) dX11_pillar_37 rfl rfl ?_
        refine V_istore (q := 40) dX11_pillar_38 (Nat.le_of_ble_eq_true rfl) trivial rfl ?_
        refine V_weak (kX11_pillar_L40 d hd (fun v35 v36 μ37 h => ?_) FU h) (sb_s rfl (sb_s rfl (sb_s rfl (sb_s rfl (sb_s rfl (sb_s rfl (sb_n sb_0)))))))
        refine V_iload_n (q := 127) dX11_pillar_126 rfl rfl rfl ?_
        refine V_iconst (q := 128) dX11_pillar_127 rfl rfl ?_
        refine V_icmpeq (q := 135) (q2 := 131) dX11_pillar_128 (by decide) rfl (fun hc38 => ?_) (fun hc38 => ?_)
        · have h := ifT hc38 h
          refine V_iload_n (q := 136) dX11_pillar_135 rfl rfl rfl ?_
          refine V_goto (q := 153) dX11_pillar_136 (by decide) ?_
          exact V_iret rfl h dX11_pillar_153
        · have h := ifF hc38 h
          refine V_iload_n (q := 132) dX11_pillar_131 rfl rfl rfl ?_
          refine V_ifne (q := 139) (q2 := 135) dX11_pillar_132 (by decide) rfl (fun hc39 => ?_) (fun hc39 => ?_)
          · have h := ifF hc39 h
            refine V_iload (q := 141) dX11_pillar_139 rfl rfl ?_
            refine V_iconst (q := 142) dX11_pillar_141 rfl rfl ?_
            refine V_icmpne (q := 151) (q2 := 145) dX11_pillar_142 (by decide) rfl (fun hc40 => ?_) (fun hc40 => ?_)
            · have h := ifF hc40 h
              refine V_iload (q := 153) dX11_pillar_151 rfl rfl ?_
              exact V_iret rfl h dX11_pillar_153
            · have h := ifT hc40 h
              refine V_ldcw (q := 148) (n := -1000000) dX11_pillar_145 (by unfold rI; omega) kc_X11_388 rfl ?_
              refine V_goto (q := 153) dX11_pillar_148 (by decide) ?_
              exact V_iret rfl h dX11_pillar_153
          · have h := ifT hc39 h
            refine V_iload_n (q := 136) dX11_pillar_135 rfl rfl rfl ?_
            refine V_goto (q := 153) dX11_pillar_136 (by decide) ?_
            exact V_iret rfl h dX11_pillar_153
      · have h := ifT hc15 h
        refine V_iconst (q := 31) dX11_pillar_30 rfl rfl ?_
        exact V_iret rfl h dX11_pillar_31
abbrev mX11_posts : Mth := (yX11_posts, cX11_posts, 3, some .int)
set_option maxRecDepth 100000 in
theorem mi_X11_posts : Cond.instanceMethod yX11_posts ∈ tG ∧ Cond.selects yX11_posts.cls yX11_posts yX11_posts ∈ tG ∧ Cond.initialized yX11_posts.cls ∈ tG ∧ Cond.code yX11_posts cX11_posts 3 (some .int) ∈ tG ∧ (yX11_posts.cls ≠ "java/lang/invoke/MethodHandle" ∧ yX11_posts.cls ≠ "java/lang/invoke/VarHandle" ∧ (parseMethodDescriptor yX11_posts.desc).map (fun d => d.parameters.length) = some 0) ∧ 3 ≤ 60 := ⟨(tG_of (tb7 (List.mem_of_getElem? (i := 179) rfl)) (by decide +kernel)), (tG_of (List.mem_of_getElem? (i := 98) (by decide +kernel)) (by decide +kernel)), (tG_of (tb1 (List.mem_of_getElem? (i := 12) rfl)) (by decide +kernel)), (tG_of (tb7 (List.mem_of_getElem? (i := 180) rfl)) (by decide +kernel)), ⟨by decide, by decide, by decide +kernel⟩, by decide⟩
set_option maxRecDepth 100000 in
theorem mv_X11_395 : mV RX11 395 mX11_posts 0 := ⟨(tG_of (tb7 (List.mem_of_getElem? (i := 177) rfl)) (by decide +kernel)), mi_X11_posts⟩
theorem dX11_posts_0 : decode cX11_posts 0 = .ok (.iconst 0, 1) := dc_3 (byA eNcX11_posts (p := 0) (v := 3) (by decide +kernel))
theorem dX11_posts_1 : decode cX11_posts 1 = .ok (.istore_n 1, 1) := dc_60 (byA eNcX11_posts (p := 1) (v := 60) (by decide +kernel))
theorem dX11_posts_2 : decode cX11_posts 2 = .ok (.iconst 0, 1) := dc_3 (byA eNcX11_posts (p := 2) (v := 3) (by decide +kernel))
theorem dX11_posts_3 : decode cX11_posts 3 = .ok (.istore_n 2, 1) := dc_61 (byA eNcX11_posts (p := 3) (v := 61) (by decide +kernel))
theorem dX11_posts_4 : decode cX11_posts 4 = .ok (.iload_n 2, 1) := dc_28 (byA eNcX11_posts (p := 4) (v := 28) (by decide +kernel))
theorem dX11_posts_5 : decode cX11_posts 5 = .ok (.bipush 60, 2) := dc_16 (byA eNcX11_posts (p := 5) (v := 16) (by decide +kernel)) (byA eNcX11_posts (p := 6) (v := 60) (by decide +kernel)) (by decide +kernel)
theorem dX11_posts_7 : decode cX11_posts 7 = .ok (.if_icmp .ge 35, 3) := dc_162 (byA eNcX11_posts (p := 7) (v := 162) (by decide +kernel)) (byA eNcX11_posts (p := 8) (v := 0) (by decide +kernel)) (byA eNcX11_posts (p := 9) (v := 35) (by decide +kernel)) (by decide +kernel)
theorem dX11_posts_10 : decode cX11_posts 10 = .ok (.iload_n 1, 1) := dc_27 (byA eNcX11_posts (p := 10) (v := 27) (by decide +kernel))
theorem dX11_posts_11 : decode cX11_posts 11 = .ok (.aload_n 0, 1) := dc_42 (byA eNcX11_posts (p := 11) (v := 42) (by decide +kernel))
theorem dX11_posts_12 : decode cX11_posts 12 = .ok (.iload_n 2, 1) := dc_28 (byA eNcX11_posts (p := 12) (v := 28) (by decide +kernel))
theorem dX11_posts_13 : decode cX11_posts 13 = .ok (.invokevirtual 258, 3) := dc_182 (byA eNcX11_posts (p := 13) (v := 182) (by decide +kernel)) (byA eNcX11_posts (p := 14) (v := 1) (by decide +kernel)) (byA eNcX11_posts (p := 15) (v := 2) (by decide +kernel)) rfl
theorem dX11_posts_16 : decode cX11_posts 16 = .ok (.ifCond .eq 17, 3) := dc_153 (byA eNcX11_posts (p := 16) (v := 153) (by decide +kernel)) (byA eNcX11_posts (p := 17) (v := 0) (by decide +kernel)) (byA eNcX11_posts (p := 18) (v := 17) (by decide +kernel)) (by decide +kernel)
theorem dX11_posts_19 : decode cX11_posts 19 = .ok (.aload_n 0, 1) := dc_42 (byA eNcX11_posts (p := 19) (v := 42) (by decide +kernel))
theorem dX11_posts_20 : decode cX11_posts 20 = .ok (.getfield 43, 3) := dc_180 (byA eNcX11_posts (p := 20) (v := 180) (by decide +kernel)) (byA eNcX11_posts (p := 21) (v := 0) (by decide +kernel)) (byA eNcX11_posts (p := 22) (v := 43) (by decide +kernel)) rfl
theorem dX11_posts_23 : decode cX11_posts 23 = .ok (.iload_n 2, 1) := dc_28 (byA eNcX11_posts (p := 23) (v := 28) (by decide +kernel))
theorem dX11_posts_24 : decode cX11_posts 24 = .ok (.iaload, 1) := dc_46 (byA eNcX11_posts (p := 24) (v := 46) (by decide +kernel))
theorem dX11_posts_25 : decode cX11_posts 25 = .ok (.iconst 1, 1) := dc_4 (byA eNcX11_posts (p := 25) (v := 4) (by decide +kernel))
theorem dX11_posts_26 : decode cX11_posts 26 = .ok (.if_icmp .ne 7, 3) := dc_160 (byA eNcX11_posts (p := 26) (v := 160) (by decide +kernel)) (byA eNcX11_posts (p := 27) (v := 0) (by decide +kernel)) (byA eNcX11_posts (p := 28) (v := 7) (by decide +kernel)) (by decide +kernel)
theorem dX11_posts_29 : decode cX11_posts 29 = .ok (.iconst 1, 1) := dc_4 (byA eNcX11_posts (p := 29) (v := 4) (by decide +kernel))
theorem dX11_posts_30 : decode cX11_posts 30 = .ok (.goto 4, 3) := dc_167 (byA eNcX11_posts (p := 30) (v := 167) (by decide +kernel)) (byA eNcX11_posts (p := 31) (v := 0) (by decide +kernel)) (byA eNcX11_posts (p := 32) (v := 4) (by decide +kernel)) (by decide +kernel)
theorem dX11_posts_33 : decode cX11_posts 33 = .ok (.iconst 0, 1) := dc_3 (byA eNcX11_posts (p := 33) (v := 3) (by decide +kernel))
theorem dX11_posts_34 : decode cX11_posts 34 = .ok (.iadd, 1) := dc_96 (byA eNcX11_posts (p := 34) (v := 96) (by decide +kernel))
theorem dX11_posts_35 : decode cX11_posts 35 = .ok (.istore_n 1, 1) := dc_60 (byA eNcX11_posts (p := 35) (v := 60) (by decide +kernel))
theorem dX11_posts_36 : decode cX11_posts 36 = .ok (.iinc 2 1, 3) := dc_132 (byA eNcX11_posts (p := 36) (v := 132) (by decide +kernel)) (byA eNcX11_posts (p := 37) (v := 2) (by decide +kernel)) (byA eNcX11_posts (p := 38) (v := 1) (by decide +kernel)) (by decide +kernel)
theorem dX11_posts_39 : decode cX11_posts 39 = .ok (.goto (-35), 3) := dc_167 (byA eNcX11_posts (p := 39) (v := 167) (by decide +kernel)) (byA eNcX11_posts (p := 40) (v := 255) (by decide +kernel)) (byA eNcX11_posts (p := 41) (v := 221) (by decide +kernel)) (by decide +kernel)
theorem dX11_posts_42 : decode cX11_posts 42 = .ok (.iload_n 1, 1) := dc_27 (byA eNcX11_posts (p := 42) (v := 27) (by decide +kernel))
theorem dX11_posts_43 : decode cX11_posts 43 = .ok (.ireturn, 1) := dc_172 (byA eNcX11_posts (p := 43) (v := 172) (by decide +kernel))
def X11_posts_L4 : Nat → Int → Int → Mm → Rs
  | 0, _, _, _ => none
  | n + 1, l1, l2, μ => if 60 ≤ l2 then (some (l1, μ)) else (bd (X11_isPlace l2 μ) fun v2 μ3 => if v2 = 0 then (X11_posts_L4 n (iA l1 0) (iA l2 1) μ3) else (ldA μ3 82 l2 fun v6 => if v6 = 1 then (X11_posts_L4 n (iA l1 1) (iA l2 1) μ3) else (X11_posts_L4 n (iA l1 0) (iA l2 1) μ3)))
def X11_posts (μ : Mm) : Rs := X11_posts_L4 FU 0 0 μ
set_option maxHeartbeats 4000000 in
set_option maxRecDepth 100000 in
theorem kX11_posts_L4 (d : Nat) (hd : 2 ≤ d) {r : Int} {μ' : Mm} : ∀ (n : Nat) {l1 l2 : Int} {μ : Mm}, X11_posts_L4 n l1 l2 μ = some (r, μ') → VV d mX11_posts 4 [some (vR 70), some (vI l1), some (vI l2)] [] μ r μ' := by
  intro n
  induction n with
  | zero => intro l1 l2 μ h; rw [X11_posts_L4] at h; cases h
  | succ n ih =>
    intro l1 l2 μ h
    rw [X11_posts_L4] at h
    refine V_iload_n (q := 5) dX11_posts_4 rfl rfl rfl ?_
    refine V_bipush (q := 7) dX11_posts_5 rfl rfl rfl ?_
    refine V_icmpge (q := 42) (q2 := 10) dX11_posts_7 (by decide) rfl (fun hc1 => ?_) (fun hc1 => ?_)
    · have h := ifT hc1 h
      refine V_iload_n (q := 43) dX11_posts_42 rfl rfl rfl ?_
      exact V_iret rfl h dX11_posts_43
    · have h := ifF hc1 h
      refine V_iload_n (q := 11) dX11_posts_10 rfl rfl rfl ?_
      refine V_aload_n (q := 12) dX11_posts_11 rfl rfl rfl ?_
      refine V_iload_n (q := 13) dX11_posts_12 rfl rfl rfl ?_
      obtain ⟨v2, μ3, hc4, h⟩ := bd_i h
      refine V_cV1 (q := 16) (v := vI v2) (kX11_isPlace (d - 1) (by omega) hc4) (by omega) mv_X11_258 rfl rfl rfl rfl rfl rfl dX11_posts_13 rfl ?_
      refine V_ifeq (q := 33) (q2 := 19) dX11_posts_16 (by decide) rfl (fun hc5 => ?_) (fun hc5 => ?_)
      · have h := ifT hc5 h
        refine V_iconst (q := 34) dX11_posts_33 rfl rfl ?_
        refine V_iadd (q := 35) dX11_posts_34 rfl ?_
        refine V_istore_n (q := 36) dX11_posts_35 rfl (Nat.le_of_ble_eq_true rfl) trivial rfl ?_
        refine V_iinc (q := 39) dX11_posts_36 rfl (Nat.le_of_ble_eq_true rfl) trivial rfl ?_
        refine V_goto (q := 4) dX11_posts_39 (by decide) ?_
        exact V_weak (ih h) (sb_s rfl (sb_s rfl (sb_s rfl sb_0)))
      · have h := ifF hc5 h
        refine V_aload_n (q := 20) dX11_posts_19 rfl rfl rfl ?_
        refine V_getO (q := 23) (t := 82) fl_X11_43 rfl rfl rfl rfl dX11_posts_20 rfl ?_
        refine V_iload_n (q := 24) dX11_posts_23 rfl rfl rfl ?_
        obtain ⟨hi7, h⟩ := ldA_i h
        refine V_iaload (q := 25) rfl hi7 dX11_posts_24 rfl ?_
        refine V_iconst (q := 26) dX11_posts_25 rfl rfl ?_
        refine V_icmpne (q := 33) (q2 := 29) dX11_posts_26 (by decide) rfl (fun hc8 => ?_) (fun hc8 => ?_)
        · have h := ifF hc8 h
          refine V_iconst (q := 34) dX11_posts_33 rfl rfl ?_
          refine V_iadd (q := 35) dX11_posts_34 rfl ?_
          refine V_istore_n (q := 36) dX11_posts_35 rfl (Nat.le_of_ble_eq_true rfl) trivial rfl ?_
          refine V_iinc (q := 39) dX11_posts_36 rfl (Nat.le_of_ble_eq_true rfl) trivial rfl ?_
          refine V_goto (q := 4) dX11_posts_39 (by decide) ?_
          exact V_weak (ih h) (sb_s rfl (sb_s rfl (sb_s rfl sb_0)))
        · have h := ifT hc8 h
          refine V_iconst (q := 30) dX11_posts_29 rfl rfl ?_
          refine V_goto (q := 34) dX11_posts_30 (by decide) ?_
          refine V_iadd (q := 35) dX11_posts_34 rfl ?_
          refine V_istore_n (q := 36) dX11_posts_35 rfl (Nat.le_of_ble_eq_true rfl) trivial rfl ?_
          refine V_iinc (q := 39) dX11_posts_36 rfl (Nat.le_of_ble_eq_true rfl) trivial rfl ?_
          refine V_goto (q := 4) dX11_posts_39 (by decide) ?_
          exact V_weak (ih h) (sb_s rfl (sb_s rfl (sb_s rfl sb_0)))
set_option maxHeartbeats 4000000 in
set_option maxRecDepth 100000 in
theorem kX11_posts (d : Nat) (hd : 2 ≤ d) {μ : Mm} {r : Int} {μ' : Mm} (h : X11_posts μ = some (r, μ')) : CC d mX11_posts [vR 70] μ r μ' := by
  unfold X11_posts at h
  refine V_enter (by decide) (Nat.le_of_ble_eq_true rfl) ?_
  show VV d mX11_posts 0 [some (vR 70), none, none] [] μ r μ'
  refine V_iconst (q := 1) dX11_posts_0 rfl rfl ?_
  refine V_istore_n (q := 2) dX11_posts_1 rfl (Nat.le_of_ble_eq_true rfl) trivial rfl ?_
  refine V_iconst (q := 3) dX11_posts_2 rfl rfl ?_
  refine V_istore_n (q := 4) dX11_posts_3 rfl (Nat.le_of_ble_eq_true rfl) trivial rfl ?_
  exact V_weak (kX11_posts_L4 d hd  FU h) (sb_s rfl (sb_s rfl (sb_s rfl sb_0)))
abbrev mX11_image : Mth := (yX11_image, cX11_image, 2, some .int)
set_option maxRecDepth 100000 in
theorem mi_X11_image : Cond.instanceMethod yX11_image ∈ tG ∧ Cond.selects yX11_image.cls yX11_image yX11_image ∈ tG ∧ Cond.initialized yX11_image.cls ∈ tG ∧ Cond.code yX11_image cX11_image 2 (some .int) ∈ tG ∧ (yX11_image.cls ≠ "java/lang/invoke/MethodHandle" ∧ yX11_image.cls ≠ "java/lang/invoke/VarHandle" ∧ (parseMethodDescriptor yX11_image.desc).map (fun d => d.parameters.length) = some 0) ∧ 2 ≤ 60 := ⟨(tG_of (tb7 (List.mem_of_getElem? (i := 174) rfl)) (by decide +kernel)), (tG_of (tb7 (List.mem_of_getElem? (i := 175) rfl)) (by decide +kernel)), (tG_of (tb1 (List.mem_of_getElem? (i := 12) rfl)) (by decide +kernel)), (tG_of (tb7 (List.mem_of_getElem? (i := 176) rfl)) (by decide +kernel)), ⟨by decide, by decide, by decide +kernel⟩, by decide⟩
theorem dX11_image_0 : decode cX11_image 0 = .ok (.aload_n 0, 1) := dc_42 (byA eNcX11_image (p := 0) (v := 42) (by decide +kernel))
theorem dX11_image_1 : decode cX11_image 1 = .ok (.getfield 252, 3) := dc_180 (byA eNcX11_image (p := 1) (v := 180) (by decide +kernel)) (byA eNcX11_image (p := 2) (v := 0) (by decide +kernel)) (byA eNcX11_image (p := 3) (v := 252) (by decide +kernel)) rfl
theorem dX11_image_4 : decode cX11_image 4 = .ok (.ifCond .ne 5, 3) := dc_154 (byA eNcX11_image (p := 4) (v := 154) (by decide +kernel)) (byA eNcX11_image (p := 5) (v := 0) (by decide +kernel)) (byA eNcX11_image (p := 6) (v := 5) (by decide +kernel)) (by decide +kernel)
theorem dX11_image_7 : decode cX11_image 7 = .ok (.iconst (-1), 1) := dc_2 (byA eNcX11_image (p := 7) (v := 2) (by decide +kernel))
theorem dX11_image_8 : decode cX11_image 8 = .ok (.ireturn, 1) := dc_172 (byA eNcX11_image (p := 8) (v := 172) (by decide +kernel))
theorem dX11_image_9 : decode cX11_image 9 = .ok (.iconst 0, 1) := dc_3 (byA eNcX11_image (p := 9) (v := 3) (by decide +kernel))
theorem dX11_image_10 : decode cX11_image 10 = .ok (.istore_n 1, 1) := dc_60 (byA eNcX11_image (p := 10) (v := 60) (by decide +kernel))
theorem dX11_image_11 : decode cX11_image 11 = .ok (.iload_n 1, 1) := dc_27 (byA eNcX11_image (p := 11) (v := 27) (by decide +kernel))
theorem dX11_image_12 : decode cX11_image 12 = .ok (.bipush 60, 2) := dc_16 (byA eNcX11_image (p := 12) (v := 16) (by decide +kernel)) (byA eNcX11_image (p := 13) (v := 60) (by decide +kernel)) (by decide +kernel)
theorem dX11_image_14 : decode cX11_image 14 = .ok (.if_icmp .ge 21, 3) := dc_162 (byA eNcX11_image (p := 14) (v := 162) (by decide +kernel)) (byA eNcX11_image (p := 15) (v := 0) (by decide +kernel)) (byA eNcX11_image (p := 16) (v := 21) (by decide +kernel)) (by decide +kernel)
theorem dX11_image_17 : decode cX11_image 17 = .ok (.aload_n 0, 1) := dc_42 (byA eNcX11_image (p := 17) (v := 42) (by decide +kernel))
theorem dX11_image_18 : decode cX11_image 18 = .ok (.getfield 92, 3) := dc_180 (byA eNcX11_image (p := 18) (v := 180) (by decide +kernel)) (byA eNcX11_image (p := 19) (v := 0) (by decide +kernel)) (byA eNcX11_image (p := 20) (v := 92) (by decide +kernel)) rfl
theorem dX11_image_21 : decode cX11_image 21 = .ok (.iload_n 1, 1) := dc_27 (byA eNcX11_image (p := 21) (v := 27) (by decide +kernel))
theorem dX11_image_22 : decode cX11_image 22 = .ok (.aload_n 0, 1) := dc_42 (byA eNcX11_image (p := 22) (v := 42) (by decide +kernel))
theorem dX11_image_23 : decode cX11_image 23 = .ok (.getfield 43, 3) := dc_180 (byA eNcX11_image (p := 23) (v := 180) (by decide +kernel)) (byA eNcX11_image (p := 24) (v := 0) (by decide +kernel)) (byA eNcX11_image (p := 25) (v := 43) (by decide +kernel)) rfl
theorem dX11_image_26 : decode cX11_image 26 = .ok (.iload_n 1, 1) := dc_27 (byA eNcX11_image (p := 26) (v := 27) (by decide +kernel))
theorem dX11_image_27 : decode cX11_image 27 = .ok (.iaload, 1) := dc_46 (byA eNcX11_image (p := 27) (v := 46) (by decide +kernel))
theorem dX11_image_28 : decode cX11_image 28 = .ok (.iastore, 1) := dc_79 (byA eNcX11_image (p := 28) (v := 79) (by decide +kernel))
theorem dX11_image_29 : decode cX11_image 29 = .ok (.iinc 1 1, 3) := dc_132 (byA eNcX11_image (p := 29) (v := 132) (by decide +kernel)) (byA eNcX11_image (p := 30) (v := 1) (by decide +kernel)) (byA eNcX11_image (p := 31) (v := 1) (by decide +kernel)) (by decide +kernel)
theorem dX11_image_32 : decode cX11_image 32 = .ok (.goto (-21), 3) := dc_167 (byA eNcX11_image (p := 32) (v := 167) (by decide +kernel)) (byA eNcX11_image (p := 33) (v := 255) (by decide +kernel)) (byA eNcX11_image (p := 34) (v := 235) (by decide +kernel)) (by decide +kernel)
theorem dX11_image_35 : decode cX11_image 35 = .ok (.iconst 0, 1) := dc_3 (byA eNcX11_image (p := 35) (v := 3) (by decide +kernel))
theorem dX11_image_36 : decode cX11_image 36 = .ok (.istore_n 1, 1) := dc_60 (byA eNcX11_image (p := 36) (v := 60) (by decide +kernel))
theorem dX11_image_37 : decode cX11_image 37 = .ok (.iload_n 1, 1) := dc_27 (byA eNcX11_image (p := 37) (v := 27) (by decide +kernel))
theorem dX11_image_38 : decode cX11_image 38 = .ok (.bipush 8, 2) := dc_16 (byA eNcX11_image (p := 38) (v := 16) (by decide +kernel)) (byA eNcX11_image (p := 39) (v := 8) (by decide +kernel)) (by decide +kernel)
theorem dX11_image_40 : decode cX11_image 40 = .ok (.if_icmp .ge 21, 3) := dc_162 (byA eNcX11_image (p := 40) (v := 162) (by decide +kernel)) (byA eNcX11_image (p := 41) (v := 0) (by decide +kernel)) (byA eNcX11_image (p := 42) (v := 21) (by decide +kernel)) (by decide +kernel)
theorem dX11_image_43 : decode cX11_image 43 = .ok (.aload_n 0, 1) := dc_42 (byA eNcX11_image (p := 43) (v := 42) (by decide +kernel))
theorem dX11_image_44 : decode cX11_image 44 = .ok (.getfield 95, 3) := dc_180 (byA eNcX11_image (p := 44) (v := 180) (by decide +kernel)) (byA eNcX11_image (p := 45) (v := 0) (by decide +kernel)) (byA eNcX11_image (p := 46) (v := 95) (by decide +kernel)) rfl
theorem dX11_image_47 : decode cX11_image 47 = .ok (.iload_n 1, 1) := dc_27 (byA eNcX11_image (p := 47) (v := 27) (by decide +kernel))
theorem dX11_image_48 : decode cX11_image 48 = .ok (.aload_n 0, 1) := dc_42 (byA eNcX11_image (p := 48) (v := 42) (by decide +kernel))
theorem dX11_image_49 : decode cX11_image 49 = .ok (.getfield 55, 3) := dc_180 (byA eNcX11_image (p := 49) (v := 180) (by decide +kernel)) (byA eNcX11_image (p := 50) (v := 0) (by decide +kernel)) (byA eNcX11_image (p := 51) (v := 55) (by decide +kernel)) rfl
theorem dX11_image_52 : decode cX11_image 52 = .ok (.iload_n 1, 1) := dc_27 (byA eNcX11_image (p := 52) (v := 27) (by decide +kernel))
theorem dX11_image_53 : decode cX11_image 53 = .ok (.iaload, 1) := dc_46 (byA eNcX11_image (p := 53) (v := 46) (by decide +kernel))
theorem dX11_image_54 : decode cX11_image 54 = .ok (.iastore, 1) := dc_79 (byA eNcX11_image (p := 54) (v := 79) (by decide +kernel))
theorem dX11_image_55 : decode cX11_image 55 = .ok (.iinc 1 1, 3) := dc_132 (byA eNcX11_image (p := 55) (v := 132) (by decide +kernel)) (byA eNcX11_image (p := 56) (v := 1) (by decide +kernel)) (byA eNcX11_image (p := 57) (v := 1) (by decide +kernel)) (by decide +kernel)
theorem dX11_image_58 : decode cX11_image 58 = .ok (.goto (-21), 3) := dc_167 (byA eNcX11_image (p := 58) (v := 167) (by decide +kernel)) (byA eNcX11_image (p := 59) (v := 255) (by decide +kernel)) (byA eNcX11_image (p := 60) (v := 235) (by decide +kernel)) (by decide +kernel)
theorem dX11_image_61 : decode cX11_image 61 = .ok (.aload_n 0, 1) := dc_42 (byA eNcX11_image (p := 61) (v := 42) (by decide +kernel))
theorem dX11_image_62 : decode cX11_image 62 = .ok (.aload_n 0, 1) := dc_42 (byA eNcX11_image (p := 62) (v := 42) (by decide +kernel))
theorem dX11_image_63 : decode cX11_image 63 = .ok (.getfield 58, 3) := dc_180 (byA eNcX11_image (p := 63) (v := 180) (by decide +kernel)) (byA eNcX11_image (p := 64) (v := 0) (by decide +kernel)) (byA eNcX11_image (p := 65) (v := 58) (by decide +kernel)) rfl
theorem dX11_image_66 : decode cX11_image 66 = .ok (.putfield 389, 3) := dc_181 (byA eNcX11_image (p := 66) (v := 181) (by decide +kernel)) (byA eNcX11_image (p := 67) (v := 1) (by decide +kernel)) (byA eNcX11_image (p := 68) (v := 133) (by decide +kernel)) rfl
theorem dX11_image_69 : decode cX11_image 69 = .ok (.aload_n 0, 1) := dc_42 (byA eNcX11_image (p := 69) (v := 42) (by decide +kernel))
theorem dX11_image_70 : decode cX11_image 70 = .ok (.aload_n 0, 1) := dc_42 (byA eNcX11_image (p := 70) (v := 42) (by decide +kernel))
theorem dX11_image_71 : decode cX11_image 71 = .ok (.getfield 307, 3) := dc_180 (byA eNcX11_image (p := 71) (v := 180) (by decide +kernel)) (byA eNcX11_image (p := 72) (v := 1) (by decide +kernel)) (byA eNcX11_image (p := 73) (v := 51) (by decide +kernel)) rfl
theorem dX11_image_74 : decode cX11_image 74 = .ok (.putfield 392, 3) := dc_181 (byA eNcX11_image (p := 74) (v := 181) (by decide +kernel)) (byA eNcX11_image (p := 75) (v := 1) (by decide +kernel)) (byA eNcX11_image (p := 76) (v := 136) (by decide +kernel)) rfl
theorem dX11_image_77 : decode cX11_image 77 = .ok (.aload_n 0, 1) := dc_42 (byA eNcX11_image (p := 77) (v := 42) (by decide +kernel))
theorem dX11_image_78 : decode cX11_image 78 = .ok (.iconst 1, 1) := dc_4 (byA eNcX11_image (p := 78) (v := 4) (by decide +kernel))
theorem dX11_image_79 : decode cX11_image 79 = .ok (.putfield 264, 3) := dc_181 (byA eNcX11_image (p := 79) (v := 181) (by decide +kernel)) (byA eNcX11_image (p := 80) (v := 1) (by decide +kernel)) (byA eNcX11_image (p := 81) (v := 8) (by decide +kernel)) rfl
theorem dX11_image_82 : decode cX11_image 82 = .ok (.aload_n 0, 1) := dc_42 (byA eNcX11_image (p := 82) (v := 42) (by decide +kernel))
theorem dX11_image_83 : decode cX11_image 83 = .ok (.invokevirtual 395, 3) := dc_182 (byA eNcX11_image (p := 83) (v := 182) (by decide +kernel)) (byA eNcX11_image (p := 84) (v := 1) (by decide +kernel)) (byA eNcX11_image (p := 85) (v := 139) (by decide +kernel)) rfl
theorem dX11_image_86 : decode cX11_image 86 = .ok (.ireturn, 1) := dc_172 (byA eNcX11_image (p := 86) (v := 172) (by decide +kernel))
def X11_image_L11 (k35 : Mm → Rs) : Nat → Int → Mm → Rs
  | 0, _, _ => none
  | n + 1, l1, μ => if 60 ≤ l1 then (k35 μ) else (ldA μ 82 l1 fun v3 => stA μ 96 l1 v3 fun μ5 => X11_image_L11 k35 n (iA l1 1) μ5)
def X11_image_L37 (k61 : Mm → Rs) : Nat → Int → Mm → Rs
  | 0, _, _ => none
  | n + 1, l1, μ => if 8 ≤ l1 then (k61 μ) else (ldA μ 86 l1 fun v9 => stA μ 97 l1 v9 fun μ11 => X11_image_L37 k61 n (iA l1 1) μ11)
def X11_image (μ : Mm) : Rs := if (μ 70 23) = 0 then (some ((-1), μ)) else (X11_image_L11 (fun μ7 => X11_image_L37 (fun μ13 => sF μ13 70 51 (μ13 70 30) fun μ14 => sF μ14 70 52 (μ14 70 31) fun μ15 => sZ μ15 70 53 1 fun μ16 => bd (X11_posts μ16) fun v18 μ19 => some (v18, μ19)) FU 0 μ7) FU 0 μ)
set_option maxHeartbeats 4000000 in
set_option maxRecDepth 100000 in
theorem kX11_image_L11 (d : Nat) (hd : 3 ≤ d) {k35 : Mm → Rs} {r : Int} {μ' : Mm} (hk_35 : ∀ (μ1 : Mm), k35 μ1 = some (r, μ') → VV d mX11_image 35 [some (vR 70), none] [] μ1 r μ') : ∀ (n : Nat) {l1 : Int} {μ : Mm}, X11_image_L11 k35 n l1 μ = some (r, μ') → VV d mX11_image 11 [some (vR 70), some (vI l1)] [] μ r μ' := by
  intro n
  induction n with
  | zero => intro l1 μ h; rw [X11_image_L11] at h; cases h
  | succ n ih =>
    intro l1 μ h
    rw [X11_image_L11] at h
    refine V_iload_n (q := 12) dX11_image_11 rfl rfl rfl ?_
    refine V_bipush (q := 14) dX11_image_12 rfl rfl rfl ?_
    refine V_icmpge (q := 35) (q2 := 17) dX11_image_14 (by decide) rfl (fun hc2 => ?_) (fun hc2 => ?_)
    · have h := ifT hc2 h
      exact V_weak (hk_35 _ h) (sb_s rfl (sb_n sb_0))
    · have h := ifF hc2 h
      refine V_aload_n (q := 18) dX11_image_17 rfl rfl rfl ?_
      refine V_getO (q := 21) (t := 96) fl_X11_92 rfl rfl rfl rfl dX11_image_18 rfl ?_
      refine V_iload_n (q := 22) dX11_image_21 rfl rfl rfl ?_
      refine V_aload_n (q := 23) dX11_image_22 rfl rfl rfl ?_
      refine V_getO (q := 26) (t := 82) fl_X11_43 rfl rfl rfl rfl dX11_image_23 rfl ?_
      refine V_iload_n (q := 27) dX11_image_26 rfl rfl rfl ?_
      obtain ⟨hi4, h⟩ := ldA_i h
      refine V_iaload (q := 28) rfl hi4 dX11_image_27 rfl ?_
      obtain ⟨hi6, h⟩ := stA_i h
      refine V_iastore (q := 29) rfl hi6 dX11_image_28 rfl ?_
      refine V_iinc (q := 32) dX11_image_29 rfl (Nat.le_of_ble_eq_true rfl) trivial rfl ?_
      refine V_goto (q := 11) dX11_image_32 (by decide) ?_
      exact V_weak (ih h) (sb_s rfl (sb_s rfl sb_0))
set_option maxHeartbeats 4000000 in
set_option maxRecDepth 100000 in
theorem kX11_image_L37 (d : Nat) (hd : 3 ≤ d) {k61 : Mm → Rs} {r : Int} {μ' : Mm} (hk_61 : ∀ (μ1 : Mm), k61 μ1 = some (r, μ') → VV d mX11_image 61 [some (vR 70), none] [] μ1 r μ') : ∀ (n : Nat) {l1 : Int} {μ : Mm}, X11_image_L37 k61 n l1 μ = some (r, μ') → VV d mX11_image 37 [some (vR 70), some (vI l1)] [] μ r μ' := by
  intro n
  induction n with
  | zero => intro l1 μ h; rw [X11_image_L37] at h; cases h
  | succ n ih =>
    intro l1 μ h
    rw [X11_image_L37] at h
    refine V_iload_n (q := 38) dX11_image_37 rfl rfl rfl ?_
    refine V_bipush (q := 40) dX11_image_38 rfl rfl rfl ?_
    refine V_icmpge (q := 61) (q2 := 43) dX11_image_40 (by decide) rfl (fun hc8 => ?_) (fun hc8 => ?_)
    · have h := ifT hc8 h
      exact V_weak (hk_61 _ h) (sb_s rfl (sb_n sb_0))
    · have h := ifF hc8 h
      refine V_aload_n (q := 44) dX11_image_43 rfl rfl rfl ?_
      refine V_getO (q := 47) (t := 97) fl_X11_95 rfl rfl rfl rfl dX11_image_44 rfl ?_
      refine V_iload_n (q := 48) dX11_image_47 rfl rfl rfl ?_
      refine V_aload_n (q := 49) dX11_image_48 rfl rfl rfl ?_
      refine V_getO (q := 52) (t := 86) fl_X11_55 rfl rfl rfl rfl dX11_image_49 rfl ?_
      refine V_iload_n (q := 53) dX11_image_52 rfl rfl rfl ?_
      obtain ⟨hi10, h⟩ := ldA_i h
      refine V_iaload (q := 54) rfl hi10 dX11_image_53 rfl ?_
      obtain ⟨hi12, h⟩ := stA_i h
      refine V_iastore (q := 55) rfl hi12 dX11_image_54 rfl ?_
      refine V_iinc (q := 58) dX11_image_55 rfl (Nat.le_of_ble_eq_true rfl) trivial rfl ?_
      refine V_goto (q := 37) dX11_image_58 (by decide) ?_
      exact V_weak (ih h) (sb_s rfl (sb_s rfl sb_0))
set_option maxHeartbeats 4000000 in
set_option maxRecDepth 100000 in
theorem kX11_image (d : Nat) (hd : 3 ≤ d) {μ : Mm} {r : Int} {μ' : Mm} (h : X11_image μ = some (r, μ')) : CC d mX11_image [vR 70] μ r μ' := by
  unfold X11_image at h
  refine V_enter (by decide) (Nat.le_of_ble_eq_true rfl) ?_
  show VV d mX11_image 0 [some (vR 70), none] [] μ r μ'
  refine V_aload_n (q := 1) dX11_image_0 rfl rfl rfl ?_
  refine V_getI (q := 4) fl_X11_252 rfl rfl rfl dX11_image_1 rfl ?_
  refine V_ifne (q := 9) (q2 := 7) dX11_image_4 (by decide) rfl (fun hc1 => ?_) (fun hc1 => ?_)
  · have h := ifF hc1 h
    refine V_iconst (q := 10) dX11_image_9 rfl rfl ?_
    refine V_istore_n (q := 11) dX11_image_10 rfl (Nat.le_of_ble_eq_true rfl) trivial rfl ?_
    refine V_weak (kX11_image_L11 d hd (fun μ7 h => ?_) FU h) (sb_s rfl (sb_s rfl sb_0))
    refine V_iconst (q := 36) dX11_image_35 rfl rfl ?_
    refine V_istore_n (q := 37) dX11_image_36 rfl (Nat.le_of_ble_eq_true rfl) trivial rfl ?_
    refine V_weak (kX11_image_L37 d hd (fun μ13 h => ?_) FU h) (sb_s rfl (sb_s rfl sb_0))
    refine V_aload_n (q := 62) dX11_image_61 rfl rfl rfl ?_
    refine V_aload_n (q := 63) dX11_image_62 rfl rfl rfl ?_
    refine V_getI (q := 66) fl_X11_58 rfl rfl rfl dX11_image_63 rfl ?_
    have h := sF_i h
    refine V_putI (q := 69) fl_X11_389 rfl rfl rfl dX11_image_66 rfl ?_
    refine V_aload_n (q := 70) dX11_image_69 rfl rfl rfl ?_
    refine V_aload_n (q := 71) dX11_image_70 rfl rfl rfl ?_
    refine V_getI (q := 74) fl_X11_307 rfl rfl rfl dX11_image_71 rfl ?_
    have h := sF_i h
    refine V_putI (q := 77) fl_X11_392 rfl rfl rfl dX11_image_74 rfl ?_
    refine V_aload_n (q := 78) dX11_image_77 rfl rfl rfl ?_
    refine V_iconst (q := 79) dX11_image_78 rfl rfl ?_
    obtain ⟨hz17, h⟩ := sZ_i h
    refine V_putZ (q := 82) fl_X11_264 rfl rfl rfl hz17 dX11_image_79 rfl ?_
    refine V_aload_n (q := 83) dX11_image_82 rfl rfl rfl ?_
    obtain ⟨v18, μ19, hc20, h⟩ := bd_i h
    refine V_cV1 (q := 86) (v := vI v18) (kX11_posts (d - 1) (by omega) hc20) (by omega) mv_X11_395 rfl rfl rfl rfl rfl rfl dX11_image_83 rfl ?_
    exact V_iret rfl h dX11_image_86
  · have h := ifT hc1 h
    refine V_iconst (q := 8) dX11_image_7 rfl rfl ?_
    exact V_iret rfl h dX11_image_8
