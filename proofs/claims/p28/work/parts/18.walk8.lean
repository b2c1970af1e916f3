abbrev mX10_rope : Mth := (yX10_rope, cX10_rope, 7, some .int)
set_option maxRecDepth 100000 in
theorem mi_X10_rope : Cond.instanceMethod yX10_rope ∈ tG ∧ Cond.selects yX10_rope.cls yX10_rope yX10_rope ∈ tG ∧ Cond.initialized yX10_rope.cls ∈ tG ∧ Cond.code yX10_rope cX10_rope 7 (some .int) ∈ tG ∧ (yX10_rope.cls ≠ "java/lang/invoke/MethodHandle" ∧ yX10_rope.cls ≠ "java/lang/invoke/VarHandle" ∧ (parseMethodDescriptor yX10_rope.desc).map (fun d => d.parameters.length) = some 2) ∧ 7 ≤ 60 := ⟨(tG_of (tb4 (List.mem_of_getElem? (i := 158) rfl)) (by decide +kernel)), (tG_of (tb4 (List.mem_of_getElem? (i := 159) rfl)) (by decide +kernel)), (tG_of (tb1 (List.mem_of_getElem? (i := 1) rfl)) (by decide +kernel)), (tG_of (tb4 (List.mem_of_getElem? (i := 160) rfl)) (by decide +kernel)), ⟨by decide, by decide, by decide +kernel⟩, by decide⟩
theorem dX10_rope_0 : decode cX10_rope 0 = .ok (.iload_n 2, 1) := dc_28 (byA eNcX10_rope (p := 0) (v := 28) (by decide +kernel))
theorem dX10_rope_1 : decode cX10_rope 1 = .ok (.invokestatic 275, 3) := dc_184 (byA eNcX10_rope (p := 1) (v := 184) (by decide +kernel)) (byA eNcX10_rope (p := 2) (v := 1) (by decide +kernel)) (byA eNcX10_rope (p := 3) (v := 19) (by decide +kernel)) rfl
theorem dX10_rope_4 : decode cX10_rope 4 = .ok (.ifCond .eq 11, 3) := dc_153 (byA eNcX10_rope (p := 4) (v := 153) (by decide +kernel)) (byA eNcX10_rope (p := 5) (v := 0) (by decide +kernel)) (byA eNcX10_rope (p := 6) (v := 11) (by decide +kernel)) (by decide +kernel)
theorem dX10_rope_7 : decode cX10_rope 7 = .ok (.aload_n 0, 1) := dc_42 (byA eNcX10_rope (p := 7) (v := 42) (by decide +kernel))
theorem dX10_rope_8 : decode cX10_rope 8 = .ok (.iload_n 1, 1) := dc_27 (byA eNcX10_rope (p := 8) (v := 27) (by decide +kernel))
theorem dX10_rope_9 : decode cX10_rope 9 = .ok (.invokevirtual 288, 3) := dc_182 (byA eNcX10_rope (p := 9) (v := 182) (by decide +kernel)) (byA eNcX10_rope (p := 10) (v := 1) (by decide +kernel)) (byA eNcX10_rope (p := 11) (v := 32) (by decide +kernel)) rfl
theorem dX10_rope_12 : decode cX10_rope 12 = .ok (.ifCond .ne 5, 3) := dc_154 (byA eNcX10_rope (p := 12) (v := 154) (by decide +kernel)) (byA eNcX10_rope (p := 13) (v := 0) (by decide +kernel)) (byA eNcX10_rope (p := 14) (v := 5) (by decide +kernel)) (by decide +kernel)
theorem dX10_rope_15 : decode cX10_rope 15 = .ok (.iconst (-1), 1) := dc_2 (byA eNcX10_rope (p := 15) (v := 2) (by decide +kernel))
theorem dX10_rope_16 : decode cX10_rope 16 = .ok (.ireturn, 1) := dc_172 (byA eNcX10_rope (p := 16) (v := 172) (by decide +kernel))
theorem dX10_rope_17 : decode cX10_rope 17 = .ok (.iconst (-1), 1) := dc_2 (byA eNcX10_rope (p := 17) (v := 2) (by decide +kernel))
theorem dX10_rope_18 : decode cX10_rope 18 = .ok (.istore_n 3, 1) := dc_62 (byA eNcX10_rope (p := 18) (v := 62) (by decide +kernel))
theorem dX10_rope_19 : decode cX10_rope 19 = .ok (.iconst (-1), 1) := dc_2 (byA eNcX10_rope (p := 19) (v := 2) (by decide +kernel))
theorem dX10_rope_20 : decode cX10_rope 20 = .ok (.istore 4, 2) := dc_54 (byA eNcX10_rope (p := 20) (v := 54) (by decide +kernel)) (byA eNcX10_rope (p := 21) (v := 4) (by decide +kernel))
theorem dX10_rope_22 : decode cX10_rope 22 = .ok (.iconst 0, 1) := dc_3 (byA eNcX10_rope (p := 22) (v := 3) (by decide +kernel))
theorem dX10_rope_23 : decode cX10_rope 23 = .ok (.istore 5, 2) := dc_54 (byA eNcX10_rope (p := 23) (v := 54) (by decide +kernel)) (byA eNcX10_rope (p := 24) (v := 5) (by decide +kernel))
theorem dX10_rope_25 : decode cX10_rope 25 = .ok (.iload 5, 2) := dc_21 (byA eNcX10_rope (p := 25) (v := 21) (by decide +kernel)) (byA eNcX10_rope (p := 26) (v := 5) (by decide +kernel))
theorem dX10_rope_27 : decode cX10_rope 27 = .ok (.bipush 8, 2) := dc_16 (byA eNcX10_rope (p := 27) (v := 16) (by decide +kernel)) (byA eNcX10_rope (p := 28) (v := 8) (by decide +kernel)) (by decide +kernel)
theorem dX10_rope_29 : decode cX10_rope 29 = .ok (.if_icmp .ge 69, 3) := dc_162 (byA eNcX10_rope (p := 29) (v := 162) (by decide +kernel)) (byA eNcX10_rope (p := 30) (v := 0) (by decide +kernel)) (byA eNcX10_rope (p := 31) (v := 69) (by decide +kernel)) (by decide +kernel)
theorem dX10_rope_32 : decode cX10_rope 32 = .ok (.aload_n 0, 1) := dc_42 (byA eNcX10_rope (p := 32) (v := 42) (by decide +kernel))
theorem dX10_rope_33 : decode cX10_rope 33 = .ok (.getfield 44, 3) := dc_180 (byA eNcX10_rope (p := 33) (v := 180) (by decide +kernel)) (byA eNcX10_rope (p := 34) (v := 0) (by decide +kernel)) (byA eNcX10_rope (p := 35) (v := 44) (by decide +kernel)) rfl
theorem dX10_rope_36 : decode cX10_rope 36 = .ok (.aload_n 0, 1) := dc_42 (byA eNcX10_rope (p := 36) (v := 42) (by decide +kernel))
theorem dX10_rope_37 : decode cX10_rope 37 = .ok (.getfield 37, 3) := dc_180 (byA eNcX10_rope (p := 37) (v := 180) (by decide +kernel)) (byA eNcX10_rope (p := 38) (v := 0) (by decide +kernel)) (byA eNcX10_rope (p := 39) (v := 37) (by decide +kernel)) rfl
theorem dX10_rope_40 : decode cX10_rope 40 = .ok (.invokevirtual 208, 3) := dc_182 (byA eNcX10_rope (p := 40) (v := 182) (by decide +kernel)) (byA eNcX10_rope (p := 41) (v := 0) (by decide +kernel)) (byA eNcX10_rope (p := 42) (v := 208) (by decide +kernel)) rfl
theorem dX10_rope_43 : decode cX10_rope 43 = .ok (.aload_n 0, 1) := dc_42 (byA eNcX10_rope (p := 43) (v := 42) (by decide +kernel))
theorem dX10_rope_44 : decode cX10_rope 44 = .ok (.getfield 44, 3) := dc_180 (byA eNcX10_rope (p := 44) (v := 180) (by decide +kernel)) (byA eNcX10_rope (p := 45) (v := 0) (by decide +kernel)) (byA eNcX10_rope (p := 46) (v := 44) (by decide +kernel)) rfl
theorem dX10_rope_47 : decode cX10_rope 47 = .ok (.iload 5, 2) := dc_21 (byA eNcX10_rope (p := 47) (v := 21) (by decide +kernel)) (byA eNcX10_rope (p := 48) (v := 5) (by decide +kernel))
theorem dX10_rope_49 : decode cX10_rope 49 = .ok (.invokevirtual 337, 3) := dc_182 (byA eNcX10_rope (p := 49) (v := 182) (by decide +kernel)) (byA eNcX10_rope (p := 50) (v := 1) (by decide +kernel)) (byA eNcX10_rope (p := 51) (v := 81) (by decide +kernel)) rfl
theorem dX10_rope_52 : decode cX10_rope 52 = .ok (.ifCond .eq 11, 3) := dc_153 (byA eNcX10_rope (p := 52) (v := 153) (by decide +kernel)) (byA eNcX10_rope (p := 53) (v := 0) (by decide +kernel)) (byA eNcX10_rope (p := 54) (v := 11) (by decide +kernel)) (by decide +kernel)
theorem dX10_rope_55 : decode cX10_rope 55 = .ok (.aload_n 0, 1) := dc_42 (byA eNcX10_rope (p := 55) (v := 42) (by decide +kernel))
theorem dX10_rope_56 : decode cX10_rope 56 = .ok (.iload_n 1, 1) := dc_27 (byA eNcX10_rope (p := 56) (v := 27) (by decide +kernel))
theorem dX10_rope_57 : decode cX10_rope 57 = .ok (.invokevirtual 334, 3) := dc_182 (byA eNcX10_rope (p := 57) (v := 182) (by decide +kernel)) (byA eNcX10_rope (p := 58) (v := 1) (by decide +kernel)) (byA eNcX10_rope (p := 59) (v := 78) (by decide +kernel)) rfl
theorem dX10_rope_60 : decode cX10_rope 60 = .ok (.goto 4, 3) := dc_167 (byA eNcX10_rope (p := 60) (v := 167) (by decide +kernel)) (byA eNcX10_rope (p := 61) (v := 0) (by decide +kernel)) (byA eNcX10_rope (p := 62) (v := 4) (by decide +kernel)) (by decide +kernel)
theorem dX10_rope_63 : decode cX10_rope 63 = .ok (.iconst (-1), 1) := dc_2 (byA eNcX10_rope (p := 63) (v := 2) (by decide +kernel))
theorem dX10_rope_64 : decode cX10_rope 64 = .ok (.istore 6, 2) := dc_54 (byA eNcX10_rope (p := 64) (v := 54) (by decide +kernel)) (byA eNcX10_rope (p := 65) (v := 6) (by decide +kernel))
theorem dX10_rope_66 : decode cX10_rope 66 = .ok (.iload 6, 2) := dc_21 (byA eNcX10_rope (p := 66) (v := 21) (by decide +kernel)) (byA eNcX10_rope (p := 67) (v := 6) (by decide +kernel))
theorem dX10_rope_68 : decode cX10_rope 68 = .ok (.iconst (-1), 1) := dc_2 (byA eNcX10_rope (p := 68) (v := 2) (by decide +kernel))
theorem dX10_rope_69 : decode cX10_rope 69 = .ok (.if_icmp .eq 23, 3) := dc_159 (byA eNcX10_rope (p := 69) (v := 159) (by decide +kernel)) (byA eNcX10_rope (p := 70) (v := 0) (by decide +kernel)) (byA eNcX10_rope (p := 71) (v := 23) (by decide +kernel)) (by decide +kernel)
theorem dX10_rope_72 : decode cX10_rope 72 = .ok (.iload 4, 2) := dc_21 (byA eNcX10_rope (p := 72) (v := 21) (by decide +kernel)) (byA eNcX10_rope (p := 73) (v := 4) (by decide +kernel))
theorem dX10_rope_74 : decode cX10_rope 74 = .ok (.iconst (-1), 1) := dc_2 (byA eNcX10_rope (p := 74) (v := 2) (by decide +kernel))
theorem dX10_rope_75 : decode cX10_rope 75 = .ok (.if_icmp .eq 10, 3) := dc_159 (byA eNcX10_rope (p := 75) (v := 159) (by decide +kernel)) (byA eNcX10_rope (p := 76) (v := 0) (by decide +kernel)) (byA eNcX10_rope (p := 77) (v := 10) (by decide +kernel)) (by decide +kernel)
theorem dX10_rope_78 : decode cX10_rope 78 = .ok (.iload 6, 2) := dc_21 (byA eNcX10_rope (p := 78) (v := 21) (by decide +kernel)) (byA eNcX10_rope (p := 79) (v := 6) (by decide +kernel))
theorem dX10_rope_80 : decode cX10_rope 80 = .ok (.iload 4, 2) := dc_21 (byA eNcX10_rope (p := 80) (v := 21) (by decide +kernel)) (byA eNcX10_rope (p := 81) (v := 4) (by decide +kernel))
theorem dX10_rope_82 : decode cX10_rope 82 = .ok (.if_icmp .ge 10, 3) := dc_162 (byA eNcX10_rope (p := 82) (v := 162) (by decide +kernel)) (byA eNcX10_rope (p := 83) (v := 0) (by decide +kernel)) (byA eNcX10_rope (p := 84) (v := 10) (by decide +kernel)) (by decide +kernel)
theorem dX10_rope_85 : decode cX10_rope 85 = .ok (.iload 6, 2) := dc_21 (byA eNcX10_rope (p := 85) (v := 21) (by decide +kernel)) (byA eNcX10_rope (p := 86) (v := 6) (by decide +kernel))
theorem dX10_rope_87 : decode cX10_rope 87 = .ok (.istore 4, 2) := dc_54 (byA eNcX10_rope (p := 87) (v := 54) (by decide +kernel)) (byA eNcX10_rope (p := 88) (v := 4) (by decide +kernel))
theorem dX10_rope_89 : decode cX10_rope 89 = .ok (.iload 5, 2) := dc_21 (byA eNcX10_rope (p := 89) (v := 21) (by decide +kernel)) (byA eNcX10_rope (p := 90) (v := 5) (by decide +kernel))
theorem dX10_rope_91 : decode cX10_rope 91 = .ok (.istore_n 3, 1) := dc_62 (byA eNcX10_rope (p := 91) (v := 62) (by decide +kernel))
theorem dX10_rope_92 : decode cX10_rope 92 = .ok (.iinc 5 1, 3) := dc_132 (byA eNcX10_rope (p := 92) (v := 132) (by decide +kernel)) (byA eNcX10_rope (p := 93) (v := 5) (by decide +kernel)) (byA eNcX10_rope (p := 94) (v := 1) (by decide +kernel)) (by decide +kernel)
theorem dX10_rope_95 : decode cX10_rope 95 = .ok (.goto (-70), 3) := dc_167 (byA eNcX10_rope (p := 95) (v := 167) (by decide +kernel)) (byA eNcX10_rope (p := 96) (v := 255) (by decide +kernel)) (byA eNcX10_rope (p := 97) (v := 186) (by decide +kernel)) (by decide +kernel)
theorem dX10_rope_98 : decode cX10_rope 98 = .ok (.iload_n 2, 1) := dc_28 (byA eNcX10_rope (p := 98) (v := 28) (by decide +kernel))
theorem dX10_rope_99 : decode cX10_rope 99 = .ok (.ifCond .ne 7, 3) := dc_154 (byA eNcX10_rope (p := 99) (v := 154) (by decide +kernel)) (byA eNcX10_rope (p := 100) (v := 0) (by decide +kernel)) (byA eNcX10_rope (p := 101) (v := 7) (by decide +kernel)) (by decide +kernel)
theorem dX10_rope_102 : decode cX10_rope 102 = .ok (.iload_n 3, 1) := dc_29 (byA eNcX10_rope (p := 102) (v := 29) (by decide +kernel))
theorem dX10_rope_103 : decode cX10_rope 103 = .ok (.goto 5, 3) := dc_167 (byA eNcX10_rope (p := 103) (v := 167) (by decide +kernel)) (byA eNcX10_rope (p := 104) (v := 0) (by decide +kernel)) (byA eNcX10_rope (p := 105) (v := 5) (by decide +kernel)) (by decide +kernel)
theorem dX10_rope_106 : decode cX10_rope 106 = .ok (.iload 4, 2) := dc_21 (byA eNcX10_rope (p := 106) (v := 21) (by decide +kernel)) (byA eNcX10_rope (p := 107) (v := 4) (by decide +kernel))
theorem dX10_rope_108 : decode cX10_rope 108 = .ok (.ireturn, 1) := dc_172 (byA eNcX10_rope (p := 108) (v := 172) (by decide +kernel))
def X10_rope_J64 (k25 : Int → Int → Int → Mm → Rs) (l1 : Int) (l2 : Int) (l3 : Int) (l4 : Int) (l5 : Int) (s0 : Int) (μ : Mm) : Rs := if s0 = (-1) then (k25 l3 l4 (iA l5 1) μ) else (if l4 = (-1) then (k25 l5 s0 (iA l5 1) μ) else (if l4 ≤ s0 then (k25 l3 l4 (iA l5 1) μ) else (k25 l5 s0 (iA l5 1) μ)))
def X10_rope_L25 (l1 : Int) (l2 : Int) (k98 : Int → Int → Mm → Rs) : Nat → Int → Int → Int → Mm → Rs
  | 0, _, _, _, _ => none
  | n + 1, l3, l4, l5, μ => if 8 ≤ l5 then (k98 l3 l4 μ) else (bd (X0_copy 13 5 μ) fun v10 μ11 => bd (X0_halveWind 13 l5 μ11) fun v13 μ14 => if v13 = 0 then (X10_rope_J64 (fun w3 w4 w5 μq => X10_rope_L25 l1 l2 k98 n w3 w4 w5 μq) l1 l2 l3 l4 l5 (-1) μ14) else (bd (X10_leastInTrial l1 μ14) fun v20 μ21 => X10_rope_J64 (fun w3 w4 w5 μq => X10_rope_L25 l1 l2 k98 n w3 w4 w5 μq) l1 l2 l3 l4 l5 v20 μ21))
def X10_rope (l1 : Int) (l2 : Int) (μ : Mm) : Rs := bd (X10_isHalf l2 μ) fun v1 μ2 => if v1 = 0 then (some ((-1), μ2)) else (bd (X10_lay l1 μ2) fun v5 μ6 => if v5 = 0 then (some ((-1), μ6)) else (X10_rope_L25 l1 l2 (fun v23 v24 μ25 => if l2 = 0 then (some (v23, μ25)) else (some (v24, μ25))) FU (-1) (-1) 0 μ6))
set_option maxHeartbeats 4000000 in
set_option maxRecDepth 100000 in
theorem kX10_rope_J64 (d : Nat) (hd : 272 ≤ d) {k25 : Int → Int → Int → Mm → Rs} {l1 : Int} {l2 : Int} {l3 : Int} {l4 : Int} {l5 : Int} {s0 : Int} {μ : Mm} {r : Int} {μ' : Mm} (hk_25 : ∀ (v3 v4 v5 : Int) (μ1 : Mm), k25 v3 v4 v5 μ1 = some (r, μ') → VV d mX10_rope 25 [some (vR 0), some (vI l1), some (vI l2), some (vI v3), some (vI v4), some (vI v5), none] [] μ1 r μ') (h : X10_rope_J64 k25 l1 l2 l3 l4 l5 s0 μ = some (r, μ')) : VV d mX10_rope 64 [some (vR 0), some (vI l1), some (vI l2), some (vI l3), some (vI l4), some (vI l5), none] [vI s0] μ r μ' := by
  unfold X10_rope_J64 at h
  refine V_istore (q := 66) dX10_rope_64 (Nat.le_of_ble_eq_true rfl) trivial rfl ?_
  refine V_iload (q := 68) dX10_rope_66 rfl rfl ?_
  refine V_iconst (q := 69) dX10_rope_68 rfl rfl ?_
  refine V_icmpeq (q := 92) (q2 := 72) dX10_rope_69 (by decide) rfl (fun hc17 => ?_) (fun hc17 => ?_)
  · have h := ifT hc17 h
    refine V_iinc (q := 95) dX10_rope_92 rfl (Nat.le_of_ble_eq_true rfl) trivial rfl ?_
    refine V_goto (q := 25) dX10_rope_95 (by decide) ?_
    exact V_weak (hk_25 _ _ _ _ h) (sb_s rfl (sb_s rfl (sb_s rfl (sb_s rfl (sb_s rfl (sb_s rfl (sb_n sb_0)))))))
  · have h := ifF hc17 h
    refine V_iload (q := 74) dX10_rope_72 rfl rfl ?_
    refine V_iconst (q := 75) dX10_rope_74 rfl rfl ?_
    refine V_icmpeq (q := 85) (q2 := 78) dX10_rope_75 (by decide) rfl (fun hc18 => ?_) (fun hc18 => ?_)
    · have h := ifT hc18 h
      refine V_iload (q := 87) dX10_rope_85 rfl rfl ?_
      refine V_istore (q := 89) dX10_rope_87 (Nat.le_of_ble_eq_true rfl) trivial rfl ?_
      refine V_iload (q := 91) dX10_rope_89 rfl rfl ?_
      refine V_istore_n (q := 92) dX10_rope_91 rfl (Nat.le_of_ble_eq_true rfl) trivial rfl ?_
      refine V_iinc (q := 95) dX10_rope_92 rfl (Nat.le_of_ble_eq_true rfl) trivial rfl ?_
      refine V_goto (q := 25) dX10_rope_95 (by decide) ?_
      exact V_weak (hk_25 _ _ _ _ h) (sb_s rfl (sb_s rfl (sb_s rfl (sb_s rfl (sb_s rfl (sb_s rfl (sb_n sb_0)))))))
    · have h := ifF hc18 h
      refine V_iload (q := 80) dX10_rope_78 rfl rfl ?_
      refine V_iload (q := 82) dX10_rope_80 rfl rfl ?_
      refine V_icmpge (q := 92) (q2 := 85) dX10_rope_82 (by decide) rfl (fun hc19 => ?_) (fun hc19 => ?_)
      · have h := ifT hc19 h
        refine V_iinc (q := 95) dX10_rope_92 rfl (Nat.le_of_ble_eq_true rfl) trivial rfl ?_
        refine V_goto (q := 25) dX10_rope_95 (by decide) ?_
        exact V_weak (hk_25 _ _ _ _ h) (sb_s rfl (sb_s rfl (sb_s rfl (sb_s rfl (sb_s rfl (sb_s rfl (sb_n sb_0)))))))
      · have h := ifF hc19 h
        refine V_iload (q := 87) dX10_rope_85 rfl rfl ?_
        refine V_istore (q := 89) dX10_rope_87 (Nat.le_of_ble_eq_true rfl) trivial rfl ?_
        refine V_iload (q := 91) dX10_rope_89 rfl rfl ?_
        refine V_istore_n (q := 92) dX10_rope_91 rfl (Nat.le_of_ble_eq_true rfl) trivial rfl ?_
        refine V_iinc (q := 95) dX10_rope_92 rfl (Nat.le_of_ble_eq_true rfl) trivial rfl ?_
        refine V_goto (q := 25) dX10_rope_95 (by decide) ?_
        exact V_weak (hk_25 _ _ _ _ h) (sb_s rfl (sb_s rfl (sb_s rfl (sb_s rfl (sb_s rfl (sb_s rfl (sb_n sb_0)))))))
set_option maxHeartbeats 4000000 in
set_option maxRecDepth 100000 in
theorem kX10_rope_L25 (d : Nat) (hd : 272 ≤ d) {l1 : Int} {l2 : Int} {k98 : Int → Int → Mm → Rs} {r : Int} {μ' : Mm} (hk_98 : ∀ (v3 v4 : Int) (μ1 : Mm), k98 v3 v4 μ1 = some (r, μ') → VV d mX10_rope 98 [none, none, some (vI l2), some (vI v3), some (vI v4), none, none] [] μ1 r μ') : ∀ (n : Nat) {l3 l4 l5 : Int} {μ : Mm}, X10_rope_L25 l1 l2 k98 n l3 l4 l5 μ = some (r, μ') → VV d mX10_rope 25 [some (vR 0), some (vI l1), some (vI l2), some (vI l3), some (vI l4), some (vI l5), none] [] μ r μ' := by
  intro n
  induction n with
  | zero => intro l3 l4 l5 μ h; rw [X10_rope_L25] at h; cases h
  | succ n ih =>
    intro l3 l4 l5 μ h
    rw [X10_rope_L25] at h
    refine V_iload (q := 27) dX10_rope_25 rfl rfl ?_
    refine V_bipush (q := 29) dX10_rope_27 rfl rfl rfl ?_
    refine V_icmpge (q := 98) (q2 := 32) dX10_rope_29 (by decide) rfl (fun hc9 => ?_) (fun hc9 => ?_)
    · have h := ifT hc9 h
      exact V_weak (hk_98 _ _ _ h) (sb_n (sb_n (sb_s rfl (sb_s rfl (sb_s rfl (sb_n (sb_n sb_0)))))))
    · have h := ifF hc9 h
      refine V_aload_n (q := 33) dX10_rope_32 rfl rfl rfl ?_
      refine V_getO (q := 36) (t := 13) fl_X10_44 rfl rfl rfl rfl dX10_rope_33 rfl ?_
      refine V_aload_n (q := 37) dX10_rope_36 rfl rfl rfl ?_
      refine V_getO (q := 40) (t := 5) fl_X10_37 rfl rfl rfl rfl dX10_rope_37 rfl ?_
      obtain ⟨v10, μ11, hc12, h⟩ := bd_i h
      refine V_cV0 (q := 43) (kX0_copy (d - 1) (by omega) rfl rfl hc12) (by omega) mv_X10_208 rfl rfl rfl rfl rfl rfl dX10_rope_40 rfl ?_
      refine V_aload_n (q := 44) dX10_rope_43 rfl rfl rfl ?_
      refine V_getO (q := 47) (t := 13) fl_X10_44 rfl rfl rfl rfl dX10_rope_44 rfl ?_
      refine V_iload (q := 49) dX10_rope_47 rfl rfl ?_
      obtain ⟨v13, μ14, hc15, h⟩ := bd_i h
      refine V_cV1 (q := 52) (v := vI v13) (kX0_halveWind (d - 1) (by omega) rfl hc15) (by omega) mv_X10_337 rfl rfl rfl rfl rfl rfl dX10_rope_49 rfl ?_
      refine V_ifeq (q := 63) (q2 := 55) dX10_rope_52 (by decide) rfl (fun hc16 => ?_) (fun hc16 => ?_)
      · have h := ifT hc16 h
        refine V_iconst (q := 64) dX10_rope_63 rfl rfl ?_
        exact V_weak (kX10_rope_J64 d hd (fun _ _ _ _ h => ih h) h) (sb_s rfl (sb_s rfl (sb_s rfl (sb_s rfl (sb_s rfl (sb_s rfl (sb_n sb_0)))))))
      · have h := ifF hc16 h
        refine V_aload_n (q := 56) dX10_rope_55 rfl rfl rfl ?_
        refine V_iload_n (q := 57) dX10_rope_56 rfl rfl rfl ?_
        obtain ⟨v20, μ21, hc22, h⟩ := bd_i h
        refine V_cV1 (q := 60) (v := vI v20) (kX10_leastInTrial (d - 1) (by omega) hc22) (by omega) mv_X10_334 rfl rfl rfl rfl rfl rfl dX10_rope_57 rfl ?_
        refine V_goto (q := 64) dX10_rope_60 (by decide) ?_
        exact V_weak (kX10_rope_J64 d hd (fun _ _ _ _ h => ih h) h) (sb_s rfl (sb_s rfl (sb_s rfl (sb_s rfl (sb_s rfl (sb_s rfl (sb_n sb_0)))))))
set_option maxHeartbeats 4000000 in
set_option maxRecDepth 100000 in
theorem kX10_rope (d : Nat) (hd : 272 ≤ d) {l1 : Int} {l2 : Int} {μ : Mm} {r : Int} {μ' : Mm} (h : X10_rope l1 l2 μ = some (r, μ')) : CC d mX10_rope [vR 0, vI l1, vI l2] μ r μ' := by
  unfold X10_rope at h
  refine V_enter (by decide) (Nat.le_of_ble_eq_true rfl) ?_
  show VV d mX10_rope 0 [some (vR 0), some (vI l1), some (vI l2), none, none, none, none] [] μ r μ'
  refine V_iload_n (q := 1) dX10_rope_0 rfl rfl rfl ?_
  obtain ⟨v1, μ2, hc3, h⟩ := bd_i h
  refine V_cS1 (q := 4) (v := vI v1) (kX10_isHalf (d - 1) (by omega) hc3) (by omega) mv_X10_275 rfl rfl rfl rfl dX10_rope_1 rfl ?_
  refine V_ifeq (q := 15) (q2 := 7) dX10_rope_4 (by decide) rfl (fun hc4 => ?_) (fun hc4 => ?_)
  · have h := ifT hc4 h
    refine V_iconst (q := 16) dX10_rope_15 rfl rfl ?_
    exact V_iret rfl h dX10_rope_16
  · have h := ifF hc4 h
    refine V_aload_n (q := 8) dX10_rope_7 rfl rfl rfl ?_
    refine V_iload_n (q := 9) dX10_rope_8 rfl rfl rfl ?_
    obtain ⟨v5, μ6, hc7, h⟩ := bd_i h
    refine V_cV1 (q := 12) (v := vI v5) (kX10_lay (d - 1) (by omega) hc7) (by omega) mv_X10_288 rfl rfl rfl rfl rfl rfl dX10_rope_9 rfl ?_
    refine V_ifne (q := 17) (q2 := 15) dX10_rope_12 (by decide) rfl (fun hc8 => ?_) (fun hc8 => ?_)
    · have h := ifF hc8 h
      refine V_iconst (q := 18) dX10_rope_17 rfl rfl ?_
      refine V_istore_n (q := 19) dX10_rope_18 rfl (Nat.le_of_ble_eq_true rfl) trivial rfl ?_
      refine V_iconst (q := 20) dX10_rope_19 rfl rfl ?_
      refine V_istore (q := 22) dX10_rope_20 (Nat.le_of_ble_eq_true rfl) trivial rfl ?_
      refine V_iconst (q := 23) dX10_rope_22 rfl rfl ?_
      refine V_istore (q := 25) dX10_rope_23 (Nat.le_of_ble_eq_true rfl) trivial rfl ?_
      refine V_weak (kX10_rope_L25 d hd (fun v23 v24 μ25 h => ?_) FU h) (sb_s rfl (sb_s rfl (sb_s rfl (sb_s rfl (sb_s rfl (sb_s rfl (sb_n sb_0)))))))
      refine V_iload_n (q := 99) dX10_rope_98 rfl rfl rfl ?_
      refine V_ifne (q := 106) (q2 := 102) dX10_rope_99 (by decide) rfl (fun hc26 => ?_) (fun hc26 => ?_)
      · have h := ifF hc26 h
        refine V_iload (q := 108) dX10_rope_106 rfl rfl ?_
        exact V_iret rfl h dX10_rope_108
      · have h := ifT hc26 h
        refine V_iload_n (q := 103) dX10_rope_102 rfl rfl rfl ?_
        refine V_goto (q := 108) dX10_rope_103 (by decide) ?_
        exact V_iret rfl h dX10_rope_108
    · have h := ifT hc8 h
      refine V_iconst (q := 16) dX10_rope_15 rfl rfl ?_
      exact V_iret rfl h dX10_rope_16
abbrev mX10_leastTogether : Mth := (yX10_leastTogether, cX10_leastTogether, 5, some .int)
set_option maxRecDepth 100000 in
theorem mi_X10_leastTogether : Cond.instanceMethod yX10_leastTogether ∈ tG ∧ Cond.selects yX10_leastTogether.cls yX10_leastTogether yX10_leastTogether ∈ tG ∧ Cond.initialized yX10_leastTogether.cls ∈ tG ∧ Cond.code yX10_leastTogether cX10_leastTogether 5 (some .int) ∈ tG ∧ (yX10_leastTogether.cls ≠ "java/lang/invoke/MethodHandle" ∧ yX10_leastTogether.cls ≠ "java/lang/invoke/VarHandle" ∧ (parseMethodDescriptor yX10_leastTogether.desc).map (fun d => d.parameters.length) = some 2) ∧ 5 ≤ 60 := ⟨(tG_of (tb4 (List.mem_of_getElem? (i := 173) rfl)) (by decide +kernel)), (tG_of (List.mem_of_getElem? (i := 37) (by decide +kernel)) (by decide +kernel)), (tG_of (tb1 (List.mem_of_getElem? (i := 1) rfl)) (by decide +kernel)), (tG_of (tb4 (List.mem_of_getElem? (i := 174) rfl)) (by decide +kernel)), ⟨by decide, by decide, by decide +kernel⟩, by decide⟩
set_option maxRecDepth 100000 in
theorem mv_X10_340 : mV RX10 340 mX10_leastTogether 2 := ⟨(tG_of (tb4 (List.mem_of_getElem? (i := 171) rfl)) (by decide +kernel)), mi_X10_leastTogether⟩
theorem dX10_leastTogether_0 : decode cX10_leastTogether 0 = .ok (.aload_n 0, 1) := dc_42 (byA eNcX10_leastTogether (p := 0) (v := 42) (by decide +kernel))
theorem dX10_leastTogether_1 : decode cX10_leastTogether 1 = .ok (.getfield 74, 3) := dc_180 (byA eNcX10_leastTogether (p := 1) (v := 180) (by decide +kernel)) (byA eNcX10_leastTogether (p := 2) (v := 0) (by decide +kernel)) (byA eNcX10_leastTogether (p := 3) (v := 74) (by decide +kernel)) rfl
theorem dX10_leastTogether_4 : decode cX10_leastTogether 4 = .ok (.aload_n 0, 1) := dc_42 (byA eNcX10_leastTogether (p := 4) (v := 42) (by decide +kernel))
theorem dX10_leastTogether_5 : decode cX10_leastTogether 5 = .ok (.getfield 44, 3) := dc_180 (byA eNcX10_leastTogether (p := 5) (v := 180) (by decide +kernel)) (byA eNcX10_leastTogether (p := 6) (v := 0) (by decide +kernel)) (byA eNcX10_leastTogether (p := 7) (v := 44) (by decide +kernel)) rfl
theorem dX10_leastTogether_8 : decode cX10_leastTogether 8 = .ok (.aload_n 0, 1) := dc_42 (byA eNcX10_leastTogether (p := 8) (v := 42) (by decide +kernel))
theorem dX10_leastTogether_9 : decode cX10_leastTogether 9 = .ok (.getfield 49, 3) := dc_180 (byA eNcX10_leastTogether (p := 9) (v := 180) (by decide +kernel)) (byA eNcX10_leastTogether (p := 10) (v := 0) (by decide +kernel)) (byA eNcX10_leastTogether (p := 11) (v := 49) (by decide +kernel)) rfl
theorem dX10_leastTogether_12 : decode cX10_leastTogether 12 = .ok (.iload_n 1, 1) := dc_27 (byA eNcX10_leastTogether (p := 12) (v := 27) (by decide +kernel))
theorem dX10_leastTogether_13 : decode cX10_leastTogether 13 = .ok (.aaload, 1) := dc_50 (byA eNcX10_leastTogether (p := 13) (v := 50) (by decide +kernel))
theorem dX10_leastTogether_14 : decode cX10_leastTogether 14 = .ok (.invokevirtual 284, 3) := dc_182 (byA eNcX10_leastTogether (p := 14) (v := 182) (by decide +kernel)) (byA eNcX10_leastTogether (p := 15) (v := 1) (by decide +kernel)) (byA eNcX10_leastTogether (p := 16) (v := 28) (by decide +kernel)) rfl
theorem dX10_leastTogether_17 : decode cX10_leastTogether 17 = .ok (.aload_n 0, 1) := dc_42 (byA eNcX10_leastTogether (p := 17) (v := 42) (by decide +kernel))
theorem dX10_leastTogether_18 : decode cX10_leastTogether 18 = .ok (.getfield 30, 3) := dc_180 (byA eNcX10_leastTogether (p := 18) (v := 180) (by decide +kernel)) (byA eNcX10_leastTogether (p := 19) (v := 0) (by decide +kernel)) (byA eNcX10_leastTogether (p := 20) (v := 30) (by decide +kernel)) rfl
theorem dX10_leastTogether_21 : decode cX10_leastTogether 21 = .ok (.aload_n 0, 1) := dc_42 (byA eNcX10_leastTogether (p := 21) (v := 42) (by decide +kernel))
theorem dX10_leastTogether_22 : decode cX10_leastTogether 22 = .ok (.getfield 49, 3) := dc_180 (byA eNcX10_leastTogether (p := 22) (v := 180) (by decide +kernel)) (byA eNcX10_leastTogether (p := 23) (v := 0) (by decide +kernel)) (byA eNcX10_leastTogether (p := 24) (v := 49) (by decide +kernel)) rfl
theorem dX10_leastTogether_25 : decode cX10_leastTogether 25 = .ok (.iload_n 1, 1) := dc_27 (byA eNcX10_leastTogether (p := 25) (v := 27) (by decide +kernel))
theorem dX10_leastTogether_26 : decode cX10_leastTogether 26 = .ok (.aaload, 1) := dc_50 (byA eNcX10_leastTogether (p := 26) (v := 50) (by decide +kernel))
theorem dX10_leastTogether_27 : decode cX10_leastTogether 27 = .ok (.aload_n 0, 1) := dc_42 (byA eNcX10_leastTogether (p := 27) (v := 42) (by decide +kernel))
theorem dX10_leastTogether_28 : decode cX10_leastTogether 28 = .ok (.invokevirtual 231, 3) := dc_182 (byA eNcX10_leastTogether (p := 28) (v := 182) (by decide +kernel)) (byA eNcX10_leastTogether (p := 29) (v := 0) (by decide +kernel)) (byA eNcX10_leastTogether (p := 30) (v := 231) (by decide +kernel)) rfl
theorem dX10_leastTogether_31 : decode cX10_leastTogether 31 = .ok (.aload_n 0, 1) := dc_42 (byA eNcX10_leastTogether (p := 31) (v := 42) (by decide +kernel))
theorem dX10_leastTogether_32 : decode cX10_leastTogether 32 = .ok (.getfield 37, 3) := dc_180 (byA eNcX10_leastTogether (p := 32) (v := 180) (by decide +kernel)) (byA eNcX10_leastTogether (p := 33) (v := 0) (by decide +kernel)) (byA eNcX10_leastTogether (p := 34) (v := 37) (by decide +kernel)) rfl
theorem dX10_leastTogether_35 : decode cX10_leastTogether 35 = .ok (.getfield 223, 3) := dc_180 (byA eNcX10_leastTogether (p := 35) (v := 180) (by decide +kernel)) (byA eNcX10_leastTogether (p := 36) (v := 0) (by decide +kernel)) (byA eNcX10_leastTogether (p := 37) (v := 223) (by decide +kernel)) rfl
theorem dX10_leastTogether_38 : decode cX10_leastTogether 38 = .ok (.aload_n 0, 1) := dc_42 (byA eNcX10_leastTogether (p := 38) (v := 42) (by decide +kernel))
theorem dX10_leastTogether_39 : decode cX10_leastTogether 39 = .ok (.getfield 74, 3) := dc_180 (byA eNcX10_leastTogether (p := 39) (v := 180) (by decide +kernel)) (byA eNcX10_leastTogether (p := 40) (v := 0) (by decide +kernel)) (byA eNcX10_leastTogether (p := 41) (v := 74) (by decide +kernel)) rfl
theorem dX10_leastTogether_42 : decode cX10_leastTogether 42 = .ok (.getfield 235, 3) := dc_180 (byA eNcX10_leastTogether (p := 42) (v := 180) (by decide +kernel)) (byA eNcX10_leastTogether (p := 43) (v := 0) (by decide +kernel)) (byA eNcX10_leastTogether (p := 44) (v := 235) (by decide +kernel)) rfl
theorem dX10_leastTogether_45 : decode cX10_leastTogether 45 = .ok (.invokevirtual 239, 3) := dc_182 (byA eNcX10_leastTogether (p := 45) (v := 182) (by decide +kernel)) (byA eNcX10_leastTogether (p := 46) (v := 0) (by decide +kernel)) (byA eNcX10_leastTogether (p := 47) (v := 239) (by decide +kernel)) rfl
theorem dX10_leastTogether_48 : decode cX10_leastTogether 48 = .ok (.aload_n 0, 1) := dc_42 (byA eNcX10_leastTogether (p := 48) (v := 42) (by decide +kernel))
theorem dX10_leastTogether_49 : decode cX10_leastTogether 49 = .ok (.invokevirtual 344, 3) := dc_182 (byA eNcX10_leastTogether (p := 49) (v := 182) (by decide +kernel)) (byA eNcX10_leastTogether (p := 50) (v := 1) (by decide +kernel)) (byA eNcX10_leastTogether (p := 51) (v := 88) (by decide +kernel)) rfl
theorem dX10_leastTogether_52 : decode cX10_leastTogether 52 = .ok (.istore_n 3, 1) := dc_62 (byA eNcX10_leastTogether (p := 52) (v := 62) (by decide +kernel))
theorem dX10_leastTogether_53 : decode cX10_leastTogether 53 = .ok (.aload_n 0, 1) := dc_42 (byA eNcX10_leastTogether (p := 53) (v := 42) (by decide +kernel))
theorem dX10_leastTogether_54 : decode cX10_leastTogether 54 = .ok (.getfield 74, 3) := dc_180 (byA eNcX10_leastTogether (p := 54) (v := 180) (by decide +kernel)) (byA eNcX10_leastTogether (p := 55) (v := 0) (by decide +kernel)) (byA eNcX10_leastTogether (p := 56) (v := 74) (by decide +kernel)) rfl
theorem dX10_leastTogether_57 : decode cX10_leastTogether 57 = .ok (.aload_n 0, 1) := dc_42 (byA eNcX10_leastTogether (p := 57) (v := 42) (by decide +kernel))
theorem dX10_leastTogether_58 : decode cX10_leastTogether 58 = .ok (.getfield 44, 3) := dc_180 (byA eNcX10_leastTogether (p := 58) (v := 180) (by decide +kernel)) (byA eNcX10_leastTogether (p := 59) (v := 0) (by decide +kernel)) (byA eNcX10_leastTogether (p := 60) (v := 44) (by decide +kernel)) rfl
theorem dX10_leastTogether_61 : decode cX10_leastTogether 61 = .ok (.aload_n 0, 1) := dc_42 (byA eNcX10_leastTogether (p := 61) (v := 42) (by decide +kernel))
theorem dX10_leastTogether_62 : decode cX10_leastTogether 62 = .ok (.getfield 49, 3) := dc_180 (byA eNcX10_leastTogether (p := 62) (v := 180) (by decide +kernel)) (byA eNcX10_leastTogether (p := 63) (v := 0) (by decide +kernel)) (byA eNcX10_leastTogether (p := 64) (v := 49) (by decide +kernel)) rfl
theorem dX10_leastTogether_65 : decode cX10_leastTogether 65 = .ok (.iload_n 2, 1) := dc_28 (byA eNcX10_leastTogether (p := 65) (v := 28) (by decide +kernel))
theorem dX10_leastTogether_66 : decode cX10_leastTogether 66 = .ok (.aaload, 1) := dc_50 (byA eNcX10_leastTogether (p := 66) (v := 50) (by decide +kernel))
theorem dX10_leastTogether_67 : decode cX10_leastTogether 67 = .ok (.invokevirtual 284, 3) := dc_182 (byA eNcX10_leastTogether (p := 67) (v := 182) (by decide +kernel)) (byA eNcX10_leastTogether (p := 68) (v := 1) (by decide +kernel)) (byA eNcX10_leastTogether (p := 69) (v := 28) (by decide +kernel)) rfl
theorem dX10_leastTogether_70 : decode cX10_leastTogether 70 = .ok (.aload_n 0, 1) := dc_42 (byA eNcX10_leastTogether (p := 70) (v := 42) (by decide +kernel))
theorem dX10_leastTogether_71 : decode cX10_leastTogether 71 = .ok (.getfield 30, 3) := dc_180 (byA eNcX10_leastTogether (p := 71) (v := 180) (by decide +kernel)) (byA eNcX10_leastTogether (p := 72) (v := 0) (by decide +kernel)) (byA eNcX10_leastTogether (p := 73) (v := 30) (by decide +kernel)) rfl
theorem dX10_leastTogether_74 : decode cX10_leastTogether 74 = .ok (.aload_n 0, 1) := dc_42 (byA eNcX10_leastTogether (p := 74) (v := 42) (by decide +kernel))
theorem dX10_leastTogether_75 : decode cX10_leastTogether 75 = .ok (.getfield 49, 3) := dc_180 (byA eNcX10_leastTogether (p := 75) (v := 180) (by decide +kernel)) (byA eNcX10_leastTogether (p := 76) (v := 0) (by decide +kernel)) (byA eNcX10_leastTogether (p := 77) (v := 49) (by decide +kernel)) rfl
theorem dX10_leastTogether_78 : decode cX10_leastTogether 78 = .ok (.iload_n 2, 1) := dc_28 (byA eNcX10_leastTogether (p := 78) (v := 28) (by decide +kernel))
theorem dX10_leastTogether_79 : decode cX10_leastTogether 79 = .ok (.aaload, 1) := dc_50 (byA eNcX10_leastTogether (p := 79) (v := 50) (by decide +kernel))
theorem dX10_leastTogether_80 : decode cX10_leastTogether 80 = .ok (.aload_n 0, 1) := dc_42 (byA eNcX10_leastTogether (p := 80) (v := 42) (by decide +kernel))
theorem dX10_leastTogether_81 : decode cX10_leastTogether 81 = .ok (.invokevirtual 231, 3) := dc_182 (byA eNcX10_leastTogether (p := 81) (v := 182) (by decide +kernel)) (byA eNcX10_leastTogether (p := 82) (v := 0) (by decide +kernel)) (byA eNcX10_leastTogether (p := 83) (v := 231) (by decide +kernel)) rfl
theorem dX10_leastTogether_84 : decode cX10_leastTogether 84 = .ok (.aload_n 0, 1) := dc_42 (byA eNcX10_leastTogether (p := 84) (v := 42) (by decide +kernel))
theorem dX10_leastTogether_85 : decode cX10_leastTogether 85 = .ok (.getfield 37, 3) := dc_180 (byA eNcX10_leastTogether (p := 85) (v := 180) (by decide +kernel)) (byA eNcX10_leastTogether (p := 86) (v := 0) (by decide +kernel)) (byA eNcX10_leastTogether (p := 87) (v := 37) (by decide +kernel)) rfl
theorem dX10_leastTogether_88 : decode cX10_leastTogether 88 = .ok (.getfield 223, 3) := dc_180 (byA eNcX10_leastTogether (p := 88) (v := 180) (by decide +kernel)) (byA eNcX10_leastTogether (p := 89) (v := 0) (by decide +kernel)) (byA eNcX10_leastTogether (p := 90) (v := 223) (by decide +kernel)) rfl
theorem dX10_leastTogether_91 : decode cX10_leastTogether 91 = .ok (.aload_n 0, 1) := dc_42 (byA eNcX10_leastTogether (p := 91) (v := 42) (by decide +kernel))
theorem dX10_leastTogether_92 : decode cX10_leastTogether 92 = .ok (.getfield 74, 3) := dc_180 (byA eNcX10_leastTogether (p := 92) (v := 180) (by decide +kernel)) (byA eNcX10_leastTogether (p := 93) (v := 0) (by decide +kernel)) (byA eNcX10_leastTogether (p := 94) (v := 74) (by decide +kernel)) rfl
theorem dX10_leastTogether_95 : decode cX10_leastTogether 95 = .ok (.getfield 235, 3) := dc_180 (byA eNcX10_leastTogether (p := 95) (v := 180) (by decide +kernel)) (byA eNcX10_leastTogether (p := 96) (v := 0) (by decide +kernel)) (byA eNcX10_leastTogether (p := 97) (v := 235) (by decide +kernel)) rfl
theorem dX10_leastTogether_98 : decode cX10_leastTogether 98 = .ok (.invokevirtual 239, 3) := dc_182 (byA eNcX10_leastTogether (p := 98) (v := 182) (by decide +kernel)) (byA eNcX10_leastTogether (p := 99) (v := 0) (by decide +kernel)) (byA eNcX10_leastTogether (p := 100) (v := 239) (by decide +kernel)) rfl
theorem dX10_leastTogether_101 : decode cX10_leastTogether 101 = .ok (.aload_n 0, 1) := dc_42 (byA eNcX10_leastTogether (p := 101) (v := 42) (by decide +kernel))
theorem dX10_leastTogether_102 : decode cX10_leastTogether 102 = .ok (.invokevirtual 344, 3) := dc_182 (byA eNcX10_leastTogether (p := 102) (v := 182) (by decide +kernel)) (byA eNcX10_leastTogether (p := 103) (v := 1) (by decide +kernel)) (byA eNcX10_leastTogether (p := 104) (v := 88) (by decide +kernel)) rfl
theorem dX10_leastTogether_105 : decode cX10_leastTogether 105 = .ok (.istore 4, 2) := dc_54 (byA eNcX10_leastTogether (p := 105) (v := 54) (by decide +kernel)) (byA eNcX10_leastTogether (p := 106) (v := 4) (by decide +kernel))
theorem dX10_leastTogether_107 : decode cX10_leastTogether 107 = .ok (.iload_n 3, 1) := dc_29 (byA eNcX10_leastTogether (p := 107) (v := 29) (by decide +kernel))
theorem dX10_leastTogether_108 : decode cX10_leastTogether 108 = .ok (.iconst (-1), 1) := dc_2 (byA eNcX10_leastTogether (p := 108) (v := 2) (by decide +kernel))
theorem dX10_leastTogether_109 : decode cX10_leastTogether 109 = .ok (.if_icmp .eq 9, 3) := dc_159 (byA eNcX10_leastTogether (p := 109) (v := 159) (by decide +kernel)) (byA eNcX10_leastTogether (p := 110) (v := 0) (by decide +kernel)) (byA eNcX10_leastTogether (p := 111) (v := 9) (by decide +kernel)) (by decide +kernel)
theorem dX10_leastTogether_112 : decode cX10_leastTogether 112 = .ok (.iload 4, 2) := dc_21 (byA eNcX10_leastTogether (p := 112) (v := 21) (by decide +kernel)) (byA eNcX10_leastTogether (p := 113) (v := 4) (by decide +kernel))
theorem dX10_leastTogether_114 : decode cX10_leastTogether 114 = .ok (.iconst (-1), 1) := dc_2 (byA eNcX10_leastTogether (p := 114) (v := 2) (by decide +kernel))
theorem dX10_leastTogether_115 : decode cX10_leastTogether 115 = .ok (.if_icmp .ne 7, 3) := dc_160 (byA eNcX10_leastTogether (p := 115) (v := 160) (by decide +kernel)) (byA eNcX10_leastTogether (p := 116) (v := 0) (by decide +kernel)) (byA eNcX10_leastTogether (p := 117) (v := 7) (by decide +kernel)) (by decide +kernel)
theorem dX10_leastTogether_118 : decode cX10_leastTogether 118 = .ok (.iconst (-1), 1) := dc_2 (byA eNcX10_leastTogether (p := 118) (v := 2) (by decide +kernel))
theorem dX10_leastTogether_119 : decode cX10_leastTogether 119 = .ok (.goto 7, 3) := dc_167 (byA eNcX10_leastTogether (p := 119) (v := 167) (by decide +kernel)) (byA eNcX10_leastTogether (p := 120) (v := 0) (by decide +kernel)) (byA eNcX10_leastTogether (p := 121) (v := 7) (by decide +kernel)) (by decide +kernel)
theorem dX10_leastTogether_122 : decode cX10_leastTogether 122 = .ok (.iload_n 3, 1) := dc_29 (byA eNcX10_leastTogether (p := 122) (v := 29) (by decide +kernel))
theorem dX10_leastTogether_123 : decode cX10_leastTogether 123 = .ok (.iload 4, 2) := dc_21 (byA eNcX10_leastTogether (p := 123) (v := 21) (by decide +kernel)) (byA eNcX10_leastTogether (p := 124) (v := 4) (by decide +kernel))
theorem dX10_leastTogether_125 : decode cX10_leastTogether 125 = .ok (.iadd, 1) := dc_96 (byA eNcX10_leastTogether (p := 125) (v := 96) (by decide +kernel))
theorem dX10_leastTogether_126 : decode cX10_leastTogether 126 = .ok (.ireturn, 1) := dc_172 (byA eNcX10_leastTogether (p := 126) (v := 172) (by decide +kernel))
def X10_leastTogether (l1 : Int) (l2 : Int) (μ : Mm) : Rs := aL 17 l1 fun v1 => bd (X1_prepare 48 13 v1 μ) fun v3 μ4 => aL 17 l1 fun v6 => bd (X10_lawThatHolds μ4) fun v8 μ9 => bd (X2_fillTimes v6 v8 (μ9 5 8) 50 μ9) fun v11 μ12 => bd (X10_leastLates μ12) fun v14 μ15 => aL 17 l2 fun v17 => bd (X1_prepare 48 13 v17 μ15) fun v19 μ20 => aL 17 l2 fun v22 => bd (X10_lawThatHolds μ20) fun v24 μ25 => bd (X2_fillTimes v22 v24 (μ25 5 8) 50 μ25) fun v27 μ28 => bd (X10_leastLates μ28) fun v30 μ31 => if v14 = (-1) then (some ((-1), μ31)) else (if v30 = (-1) then (some ((-1), μ31)) else (some (iA v14 v30, μ31)))
set_option maxHeartbeats 4000000 in
set_option maxRecDepth 100000 in
theorem kX10_leastTogether (d : Nat) (hd : 271 ≤ d) {l1 : Int} {l2 : Int} {μ : Mm} {r : Int} {μ' : Mm} (h : X10_leastTogether l1 l2 μ = some (r, μ')) : CC d mX10_leastTogether [vR 0, vI l1, vI l2] μ r μ' := by
  unfold X10_leastTogether at h
  refine V_enter (by decide) (Nat.le_of_ble_eq_true rfl) ?_
  show VV d mX10_leastTogether 0 [some (vR 0), some (vI l1), some (vI l2), none, none] [] μ r μ'
  refine V_aload_n (q := 1) dX10_leastTogether_0 rfl rfl rfl ?_
  refine V_getO (q := 4) (t := 48) fl_X10_74 rfl rfl rfl rfl dX10_leastTogether_1 rfl ?_
  refine V_aload_n (q := 5) dX10_leastTogether_4 rfl rfl rfl ?_
  refine V_getO (q := 8) (t := 13) fl_X10_44 rfl rfl rfl rfl dX10_leastTogether_5 rfl ?_
  refine V_aload_n (q := 9) dX10_leastTogether_8 rfl rfl rfl ?_
  refine V_getO (q := 12) (t := 17) fl_X10_49 rfl rfl rfl rfl dX10_leastTogether_9 rfl ?_
  refine V_iload_n (q := 13) dX10_leastTogether_12 rfl rfl rfl ?_
  obtain ⟨hi2, h⟩ := aL_i h
  refine V_aaload (q := 14) (c2 := 1) rfl (Or.inl rfl) hi2 dX10_leastTogether_13 rfl ?_
  obtain ⟨v3, μ4, hc5, h⟩ := bd_i h
  refine V_cV0 (q := 17) (kX1_prepare (d - 1) (by omega) rfl rfl (kA17 hi2) hc5) (by omega) mv_X10_284 rfl rfl rfl rfl rfl rfl dX10_leastTogether_14 rfl ?_
  refine V_aload_n (q := 18) dX10_leastTogether_17 rfl rfl rfl ?_
  refine V_getO (q := 21) (t := 4) fl_X10_30 rfl rfl rfl rfl dX10_leastTogether_18 rfl ?_
  refine V_aload_n (q := 22) dX10_leastTogether_21 rfl rfl rfl ?_
  refine V_getO (q := 25) (t := 17) fl_X10_49 rfl rfl rfl rfl dX10_leastTogether_22 rfl ?_
  refine V_iload_n (q := 26) dX10_leastTogether_25 rfl rfl rfl ?_
  obtain ⟨hi7, h⟩ := aL_i h
  refine V_aaload (q := 27) (c2 := 1) rfl (Or.inl rfl) hi7 dX10_leastTogether_26 rfl ?_
  refine V_aload_n (q := 28) dX10_leastTogether_27 rfl rfl rfl ?_
  obtain ⟨v8, μ9, hc10, h⟩ := bd_i h
  refine V_cV1 (q := 31) (v := vC v8) (kX10_lawThatHolds (d - 1) (by omega) hc10) (by omega) mv_X10_231 rfl rfl rfl rfl rfl rfl dX10_leastTogether_28 rfl ?_
  refine V_aload_n (q := 32) dX10_leastTogether_31 rfl rfl rfl ?_
  refine V_getO (q := 35) (t := 5) fl_X10_37 rfl rfl rfl rfl dX10_leastTogether_32 rfl ?_
  refine V_getI (q := 38) fl_X10_223 rfl rfl rfl dX10_leastTogether_35 rfl ?_
  refine V_aload_n (q := 39) dX10_leastTogether_38 rfl rfl rfl ?_
  refine V_getO (q := 42) (t := 48) fl_X10_74 rfl rfl rfl rfl dX10_leastTogether_39 rfl ?_
  refine V_getO (q := 45) (t := 50) fl_X10_235 rfl rfl rfl rfl dX10_leastTogether_42 rfl ?_
  obtain ⟨v11, μ12, hc13, h⟩ := bd_i h
  refine V_cV0 (q := 48) (kX2_fillTimes (d - 1) (by omega) (kA17 hi7) rfl hc13) (by omega) mv_X10_239 rfl rfl rfl rfl rfl rfl dX10_leastTogether_45 rfl ?_
  refine V_aload_n (q := 49) dX10_leastTogether_48 rfl rfl rfl ?_
  obtain ⟨v14, μ15, hc16, h⟩ := bd_i h
  refine V_cV1 (q := 52) (v := vI v14) (kX10_leastLates (d - 1) (by omega) hc16) (by omega) mv_X10_344 rfl rfl rfl rfl rfl rfl dX10_leastTogether_49 rfl ?_
  refine V_istore_n (q := 53) dX10_leastTogether_52 rfl (Nat.le_of_ble_eq_true rfl) trivial rfl ?_
  refine V_aload_n (q := 54) dX10_leastTogether_53 rfl rfl rfl ?_
  refine V_getO (q := 57) (t := 48) fl_X10_74 rfl rfl rfl rfl dX10_leastTogether_54 rfl ?_
  refine V_aload_n (q := 58) dX10_leastTogether_57 rfl rfl rfl ?_
  refine V_getO (q := 61) (t := 13) fl_X10_44 rfl rfl rfl rfl dX10_leastTogether_58 rfl ?_
  refine V_aload_n (q := 62) dX10_leastTogether_61 rfl rfl rfl ?_
  refine V_getO (q := 65) (t := 17) fl_X10_49 rfl rfl rfl rfl dX10_leastTogether_62 rfl ?_
  refine V_iload_n (q := 66) dX10_leastTogether_65 rfl rfl rfl ?_
  obtain ⟨hi18, h⟩ := aL_i h
  refine V_aaload (q := 67) (c2 := 1) rfl (Or.inl rfl) hi18 dX10_leastTogether_66 rfl ?_
  obtain ⟨v19, μ20, hc21, h⟩ := bd_i h
  refine V_cV0 (q := 70) (kX1_prepare (d - 1) (by omega) rfl rfl (kA17 hi18) hc21) (by omega) mv_X10_284 rfl rfl rfl rfl rfl rfl dX10_leastTogether_67 rfl ?_
  refine V_aload_n (q := 71) dX10_leastTogether_70 rfl rfl rfl ?_
  refine V_getO (q := 74) (t := 4) fl_X10_30 rfl rfl rfl rfl dX10_leastTogether_71 rfl ?_
  refine V_aload_n (q := 75) dX10_leastTogether_74 rfl rfl rfl ?_
  refine V_getO (q := 78) (t := 17) fl_X10_49 rfl rfl rfl rfl dX10_leastTogether_75 rfl ?_
  refine V_iload_n (q := 79) dX10_leastTogether_78 rfl rfl rfl ?_
  obtain ⟨hi23, h⟩ := aL_i h
  refine V_aaload (q := 80) (c2 := 1) rfl (Or.inl rfl) hi23 dX10_leastTogether_79 rfl ?_
  refine V_aload_n (q := 81) dX10_leastTogether_80 rfl rfl rfl ?_
  obtain ⟨v24, μ25, hc26, h⟩ := bd_i h
  refine V_cV1 (q := 84) (v := vC v24) (kX10_lawThatHolds (d - 1) (by omega) hc26) (by omega) mv_X10_231 rfl rfl rfl rfl rfl rfl dX10_leastTogether_81 rfl ?_
  refine V_aload_n (q := 85) dX10_leastTogether_84 rfl rfl rfl ?_
  refine V_getO (q := 88) (t := 5) fl_X10_37 rfl rfl rfl rfl dX10_leastTogether_85 rfl ?_
  refine V_getI (q := 91) fl_X10_223 rfl rfl rfl dX10_leastTogether_88 rfl ?_
  refine V_aload_n (q := 92) dX10_leastTogether_91 rfl rfl rfl ?_
  refine V_getO (q := 95) (t := 48) fl_X10_74 rfl rfl rfl rfl dX10_leastTogether_92 rfl ?_
  refine V_getO (q := 98) (t := 50) fl_X10_235 rfl rfl rfl rfl dX10_leastTogether_95 rfl ?_
  obtain ⟨v27, μ28, hc29, h⟩ := bd_i h
  refine V_cV0 (q := 101) (kX2_fillTimes (d - 1) (by omega) (kA17 hi23) rfl hc29) (by omega) mv_X10_239 rfl rfl rfl rfl rfl rfl dX10_leastTogether_98 rfl ?_
  refine V_aload_n (q := 102) dX10_leastTogether_101 rfl rfl rfl ?_
  obtain ⟨v30, μ31, hc32, h⟩ := bd_i h
  refine V_cV1 (q := 105) (v := vI v30) (kX10_leastLates (d - 1) (by omega) hc32) (by omega) mv_X10_344 rfl rfl rfl rfl rfl rfl dX10_leastTogether_102 rfl ?_
  refine V_istore (q := 107) dX10_leastTogether_105 (Nat.le_of_ble_eq_true rfl) trivial rfl ?_
  refine V_iload_n (q := 108) dX10_leastTogether_107 rfl rfl rfl ?_
  refine V_iconst (q := 109) dX10_leastTogether_108 rfl rfl ?_
  refine V_icmpeq (q := 118) (q2 := 112) dX10_leastTogether_109 (by decide) rfl (fun hc33 => ?_) (fun hc33 => ?_)
  · have h := ifT hc33 h
    refine V_iconst (q := 119) dX10_leastTogether_118 rfl rfl ?_
    refine V_goto (q := 126) dX10_leastTogether_119 (by decide) ?_
    exact V_iret rfl h dX10_leastTogether_126
  · have h := ifF hc33 h
    refine V_iload (q := 114) dX10_leastTogether_112 rfl rfl ?_
    refine V_iconst (q := 115) dX10_leastTogether_114 rfl rfl ?_
    refine V_icmpne (q := 122) (q2 := 118) dX10_leastTogether_115 (by decide) rfl (fun hc34 => ?_) (fun hc34 => ?_)
    · have h := ifF hc34 h
      refine V_iload_n (q := 123) dX10_leastTogether_122 rfl rfl rfl ?_
      refine V_iload (q := 125) dX10_leastTogether_123 rfl rfl ?_
      refine V_iadd (q := 126) dX10_leastTogether_125 rfl ?_
      exact V_iret rfl h dX10_leastTogether_126
    · have h := ifT hc34 h
      refine V_iconst (q := 119) dX10_leastTogether_118 rfl rfl ?_
      refine V_goto (q := 126) dX10_leastTogether_119 (by decide) ?_
      exact V_iret rfl h dX10_leastTogether_126
abbrev mX10_exchange : Mth := (yX10_exchange, cX10_exchange, 10, some .int)
set_option maxRecDepth 100000 in
theorem mi_X10_exchange : Cond.instanceMethod yX10_exchange ∈ tG ∧ Cond.selects yX10_exchange.cls yX10_exchange yX10_exchange ∈ tG ∧ Cond.initialized yX10_exchange.cls ∈ tG ∧ Cond.code yX10_exchange cX10_exchange 10 (some .int) ∈ tG ∧ (yX10_exchange.cls ≠ "java/lang/invoke/MethodHandle" ∧ yX10_exchange.cls ≠ "java/lang/invoke/VarHandle" ∧ (parseMethodDescriptor yX10_exchange.desc).map (fun d => d.parameters.length) = some 3) ∧ 10 ≤ 60 := ⟨(tG_of (tb4 (List.mem_of_getElem? (i := 168) rfl)) (by decide +kernel)), (tG_of (tb4 (List.mem_of_getElem? (i := 169) rfl)) (by decide +kernel)), (tG_of (tb1 (List.mem_of_getElem? (i := 1) rfl)) (by decide +kernel)), (tG_of (tb4 (List.mem_of_getElem? (i := 170) rfl)) (by decide +kernel)), ⟨by decide, by decide, by decide +kernel⟩, by decide⟩
theorem dX10_exchange_0 : decode cX10_exchange 0 = .ok (.iload_n 3, 1) := dc_29 (byA eNcX10_exchange (p := 0) (v := 29) (by decide +kernel))
theorem dX10_exchange_1 : decode cX10_exchange 1 = .ok (.invokestatic 275, 3) := dc_184 (byA eNcX10_exchange (p := 1) (v := 184) (by decide +kernel)) (byA eNcX10_exchange (p := 2) (v := 1) (by decide +kernel)) (byA eNcX10_exchange (p := 3) (v := 19) (by decide +kernel)) rfl
theorem dX10_exchange_4 : decode cX10_exchange 4 = .ok (.ifCond .eq 24, 3) := dc_153 (byA eNcX10_exchange (p := 4) (v := 153) (by decide +kernel)) (byA eNcX10_exchange (p := 5) (v := 0) (by decide +kernel)) (byA eNcX10_exchange (p := 6) (v := 24) (by decide +kernel)) (by decide +kernel)
theorem dX10_exchange_7 : decode cX10_exchange 7 = .ok (.iload_n 1, 1) := dc_27 (byA eNcX10_exchange (p := 7) (v := 27) (by decide +kernel))
theorem dX10_exchange_8 : decode cX10_exchange 8 = .ok (.iload_n 2, 1) := dc_28 (byA eNcX10_exchange (p := 8) (v := 28) (by decide +kernel))
theorem dX10_exchange_9 : decode cX10_exchange 9 = .ok (.if_icmp .eq 19, 3) := dc_159 (byA eNcX10_exchange (p := 9) (v := 159) (by decide +kernel)) (byA eNcX10_exchange (p := 10) (v := 0) (by decide +kernel)) (byA eNcX10_exchange (p := 11) (v := 19) (by decide +kernel)) (by decide +kernel)
theorem dX10_exchange_12 : decode cX10_exchange 12 = .ok (.aload_n 0, 1) := dc_42 (byA eNcX10_exchange (p := 12) (v := 42) (by decide +kernel))
theorem dX10_exchange_13 : decode cX10_exchange 13 = .ok (.iload_n 1, 1) := dc_27 (byA eNcX10_exchange (p := 13) (v := 27) (by decide +kernel))
theorem dX10_exchange_14 : decode cX10_exchange 14 = .ok (.invokevirtual 288, 3) := dc_182 (byA eNcX10_exchange (p := 14) (v := 182) (by decide +kernel)) (byA eNcX10_exchange (p := 15) (v := 1) (by decide +kernel)) (byA eNcX10_exchange (p := 16) (v := 32) (by decide +kernel)) rfl
theorem dX10_exchange_17 : decode cX10_exchange 17 = .ok (.ifCond .eq 11, 3) := dc_153 (byA eNcX10_exchange (p := 17) (v := 153) (by decide +kernel)) (byA eNcX10_exchange (p := 18) (v := 0) (by decide +kernel)) (byA eNcX10_exchange (p := 19) (v := 11) (by decide +kernel)) (by decide +kernel)
theorem dX10_exchange_20 : decode cX10_exchange 20 = .ok (.aload_n 0, 1) := dc_42 (byA eNcX10_exchange (p := 20) (v := 42) (by decide +kernel))
theorem dX10_exchange_21 : decode cX10_exchange 21 = .ok (.iload_n 2, 1) := dc_28 (byA eNcX10_exchange (p := 21) (v := 28) (by decide +kernel))
theorem dX10_exchange_22 : decode cX10_exchange 22 = .ok (.invokevirtual 288, 3) := dc_182 (byA eNcX10_exchange (p := 22) (v := 182) (by decide +kernel)) (byA eNcX10_exchange (p := 23) (v := 1) (by decide +kernel)) (byA eNcX10_exchange (p := 24) (v := 32) (by decide +kernel)) rfl
theorem dX10_exchange_25 : decode cX10_exchange 25 = .ok (.ifCond .ne 5, 3) := dc_154 (byA eNcX10_exchange (p := 25) (v := 154) (by decide +kernel)) (byA eNcX10_exchange (p := 26) (v := 0) (by decide +kernel)) (byA eNcX10_exchange (p := 27) (v := 5) (by decide +kernel)) (by decide +kernel)
theorem dX10_exchange_28 : decode cX10_exchange 28 = .ok (.iconst (-1), 1) := dc_2 (byA eNcX10_exchange (p := 28) (v := 2) (by decide +kernel))
theorem dX10_exchange_29 : decode cX10_exchange 29 = .ok (.ireturn, 1) := dc_172 (byA eNcX10_exchange (p := 29) (v := 172) (by decide +kernel))
theorem dX10_exchange_30 : decode cX10_exchange 30 = .ok (.aload_n 0, 1) := dc_42 (byA eNcX10_exchange (p := 30) (v := 42) (by decide +kernel))
theorem dX10_exchange_31 : decode cX10_exchange 31 = .ok (.getfield 44, 3) := dc_180 (byA eNcX10_exchange (p := 31) (v := 180) (by decide +kernel)) (byA eNcX10_exchange (p := 32) (v := 0) (by decide +kernel)) (byA eNcX10_exchange (p := 33) (v := 44) (by decide +kernel)) rfl
theorem dX10_exchange_34 : decode cX10_exchange 34 = .ok (.aload_n 0, 1) := dc_42 (byA eNcX10_exchange (p := 34) (v := 42) (by decide +kernel))
theorem dX10_exchange_35 : decode cX10_exchange 35 = .ok (.getfield 37, 3) := dc_180 (byA eNcX10_exchange (p := 35) (v := 180) (by decide +kernel)) (byA eNcX10_exchange (p := 36) (v := 0) (by decide +kernel)) (byA eNcX10_exchange (p := 37) (v := 37) (by decide +kernel)) rfl
theorem dX10_exchange_38 : decode cX10_exchange 38 = .ok (.invokevirtual 208, 3) := dc_182 (byA eNcX10_exchange (p := 38) (v := 182) (by decide +kernel)) (byA eNcX10_exchange (p := 39) (v := 0) (by decide +kernel)) (byA eNcX10_exchange (p := 40) (v := 208) (by decide +kernel)) rfl
theorem dX10_exchange_41 : decode cX10_exchange 41 = .ok (.iconst 0, 1) := dc_3 (byA eNcX10_exchange (p := 41) (v := 3) (by decide +kernel))
theorem dX10_exchange_42 : decode cX10_exchange 42 = .ok (.istore 4, 2) := dc_54 (byA eNcX10_exchange (p := 42) (v := 54) (by decide +kernel)) (byA eNcX10_exchange (p := 43) (v := 4) (by decide +kernel))
theorem dX10_exchange_44 : decode cX10_exchange 44 = .ok (.aload_n 0, 1) := dc_42 (byA eNcX10_exchange (p := 44) (v := 42) (by decide +kernel))
theorem dX10_exchange_45 : decode cX10_exchange 45 = .ok (.iload_n 1, 1) := dc_27 (byA eNcX10_exchange (p := 45) (v := 27) (by decide +kernel))
theorem dX10_exchange_46 : decode cX10_exchange 46 = .ok (.iload_n 2, 1) := dc_28 (byA eNcX10_exchange (p := 46) (v := 28) (by decide +kernel))
theorem dX10_exchange_47 : decode cX10_exchange 47 = .ok (.invokevirtual 340, 3) := dc_182 (byA eNcX10_exchange (p := 47) (v := 182) (by decide +kernel)) (byA eNcX10_exchange (p := 48) (v := 1) (by decide +kernel)) (byA eNcX10_exchange (p := 49) (v := 84) (by decide +kernel)) rfl
theorem dX10_exchange_50 : decode cX10_exchange 50 = .ok (.istore 5, 2) := dc_54 (byA eNcX10_exchange (p := 50) (v := 54) (by decide +kernel)) (byA eNcX10_exchange (p := 51) (v := 5) (by decide +kernel))
theorem dX10_exchange_52 : decode cX10_exchange 52 = .ok (.iconst 0, 1) := dc_3 (byA eNcX10_exchange (p := 52) (v := 3) (by decide +kernel))
theorem dX10_exchange_53 : decode cX10_exchange 53 = .ok (.istore 6, 2) := dc_54 (byA eNcX10_exchange (p := 53) (v := 54) (by decide +kernel)) (byA eNcX10_exchange (p := 54) (v := 6) (by decide +kernel))
theorem dX10_exchange_55 : decode cX10_exchange 55 = .ok (.iload 6, 2) := dc_21 (byA eNcX10_exchange (p := 55) (v := 21) (by decide +kernel)) (byA eNcX10_exchange (p := 56) (v := 6) (by decide +kernel))
theorem dX10_exchange_57 : decode cX10_exchange 57 = .ok (.bipush 64, 2) := dc_16 (byA eNcX10_exchange (p := 57) (v := 16) (by decide +kernel)) (byA eNcX10_exchange (p := 58) (v := 64) (by decide +kernel)) (by decide +kernel)
theorem dX10_exchange_59 : decode cX10_exchange 59 = .ok (.if_icmp .ge 100, 3) := dc_162 (byA eNcX10_exchange (p := 59) (v := 162) (by decide +kernel)) (byA eNcX10_exchange (p := 60) (v := 0) (by decide +kernel)) (byA eNcX10_exchange (p := 61) (v := 100) (by decide +kernel)) (by decide +kernel)
theorem dX10_exchange_62 : decode cX10_exchange 62 = .ok (.iload 6, 2) := dc_21 (byA eNcX10_exchange (p := 62) (v := 21) (by decide +kernel)) (byA eNcX10_exchange (p := 63) (v := 6) (by decide +kernel))
theorem dX10_exchange_64 : decode cX10_exchange 64 = .ok (.bipush 8, 2) := dc_16 (byA eNcX10_exchange (p := 64) (v := 16) (by decide +kernel)) (byA eNcX10_exchange (p := 65) (v := 8) (by decide +kernel)) (by decide +kernel)
theorem dX10_exchange_66 : decode cX10_exchange 66 = .ok (.idiv, 1) := dc_108 (byA eNcX10_exchange (p := 66) (v := 108) (by decide +kernel))
theorem dX10_exchange_67 : decode cX10_exchange 67 = .ok (.istore 7, 2) := dc_54 (byA eNcX10_exchange (p := 67) (v := 54) (by decide +kernel)) (byA eNcX10_exchange (p := 68) (v := 7) (by decide +kernel))
theorem dX10_exchange_69 : decode cX10_exchange 69 = .ok (.iload 6, 2) := dc_21 (byA eNcX10_exchange (p := 69) (v := 21) (by decide +kernel)) (byA eNcX10_exchange (p := 70) (v := 6) (by decide +kernel))
theorem dX10_exchange_71 : decode cX10_exchange 71 = .ok (.bipush 8, 2) := dc_16 (byA eNcX10_exchange (p := 71) (v := 16) (by decide +kernel)) (byA eNcX10_exchange (p := 72) (v := 8) (by decide +kernel)) (by decide +kernel)
theorem dX10_exchange_73 : decode cX10_exchange 73 = .ok (.irem, 1) := dc_112 (byA eNcX10_exchange (p := 73) (v := 112) (by decide +kernel))
theorem dX10_exchange_74 : decode cX10_exchange 74 = .ok (.istore 8, 2) := dc_54 (byA eNcX10_exchange (p := 74) (v := 54) (by decide +kernel)) (byA eNcX10_exchange (p := 75) (v := 8) (by decide +kernel))
theorem dX10_exchange_76 : decode cX10_exchange 76 = .ok (.aload_n 0, 1) := dc_42 (byA eNcX10_exchange (p := 76) (v := 42) (by decide +kernel))
theorem dX10_exchange_77 : decode cX10_exchange 77 = .ok (.getfield 44, 3) := dc_180 (byA eNcX10_exchange (p := 77) (v := 180) (by decide +kernel)) (byA eNcX10_exchange (p := 78) (v := 0) (by decide +kernel)) (byA eNcX10_exchange (p := 79) (v := 44) (by decide +kernel)) rfl
theorem dX10_exchange_80 : decode cX10_exchange 80 = .ok (.aload_n 0, 1) := dc_42 (byA eNcX10_exchange (p := 80) (v := 42) (by decide +kernel))
theorem dX10_exchange_81 : decode cX10_exchange 81 = .ok (.getfield 37, 3) := dc_180 (byA eNcX10_exchange (p := 81) (v := 180) (by decide +kernel)) (byA eNcX10_exchange (p := 82) (v := 0) (by decide +kernel)) (byA eNcX10_exchange (p := 83) (v := 37) (by decide +kernel)) rfl
theorem dX10_exchange_84 : decode cX10_exchange 84 = .ok (.invokevirtual 208, 3) := dc_182 (byA eNcX10_exchange (p := 84) (v := 182) (by decide +kernel)) (byA eNcX10_exchange (p := 85) (v := 0) (by decide +kernel)) (byA eNcX10_exchange (p := 86) (v := 208) (by decide +kernel)) rfl
theorem dX10_exchange_87 : decode cX10_exchange 87 = .ok (.iload 7, 2) := dc_21 (byA eNcX10_exchange (p := 87) (v := 21) (by decide +kernel)) (byA eNcX10_exchange (p := 88) (v := 7) (by decide +kernel))
theorem dX10_exchange_89 : decode cX10_exchange 89 = .ok (.iload 8, 2) := dc_21 (byA eNcX10_exchange (p := 89) (v := 21) (by decide +kernel)) (byA eNcX10_exchange (p := 90) (v := 8) (by decide +kernel))
theorem dX10_exchange_91 : decode cX10_exchange 91 = .ok (.if_icmp .ge 26, 3) := dc_162 (byA eNcX10_exchange (p := 91) (v := 162) (by decide +kernel)) (byA eNcX10_exchange (p := 92) (v := 0) (by decide +kernel)) (byA eNcX10_exchange (p := 93) (v := 26) (by decide +kernel)) (by decide +kernel)
theorem dX10_exchange_94 : decode cX10_exchange 94 = .ok (.aload_n 0, 1) := dc_42 (byA eNcX10_exchange (p := 94) (v := 42) (by decide +kernel))
theorem dX10_exchange_95 : decode cX10_exchange 95 = .ok (.getfield 44, 3) := dc_180 (byA eNcX10_exchange (p := 95) (v := 180) (by decide +kernel)) (byA eNcX10_exchange (p := 96) (v := 0) (by decide +kernel)) (byA eNcX10_exchange (p := 97) (v := 44) (by decide +kernel)) rfl
theorem dX10_exchange_98 : decode cX10_exchange 98 = .ok (.iload 7, 2) := dc_21 (byA eNcX10_exchange (p := 98) (v := 21) (by decide +kernel)) (byA eNcX10_exchange (p := 99) (v := 7) (by decide +kernel))
theorem dX10_exchange_100 : decode cX10_exchange 100 = .ok (.iload 8, 2) := dc_21 (byA eNcX10_exchange (p := 100) (v := 21) (by decide +kernel)) (byA eNcX10_exchange (p := 101) (v := 8) (by decide +kernel))
theorem dX10_exchange_102 : decode cX10_exchange 102 = .ok (.invokevirtual 198, 3) := dc_182 (byA eNcX10_exchange (p := 102) (v := 182) (by decide +kernel)) (byA eNcX10_exchange (p := 103) (v := 0) (by decide +kernel)) (byA eNcX10_exchange (p := 104) (v := 198) (by decide +kernel)) rfl
theorem dX10_exchange_105 : decode cX10_exchange 105 = .ok (.ifCond .eq 12, 3) := dc_153 (byA eNcX10_exchange (p := 105) (v := 153) (by decide +kernel)) (byA eNcX10_exchange (p := 106) (v := 0) (by decide +kernel)) (byA eNcX10_exchange (p := 107) (v := 12) (by decide +kernel)) (by decide +kernel)
theorem dX10_exchange_108 : decode cX10_exchange 108 = .ok (.aload_n 0, 1) := dc_42 (byA eNcX10_exchange (p := 108) (v := 42) (by decide +kernel))
theorem dX10_exchange_109 : decode cX10_exchange 109 = .ok (.iload_n 1, 1) := dc_27 (byA eNcX10_exchange (p := 109) (v := 27) (by decide +kernel))
theorem dX10_exchange_110 : decode cX10_exchange 110 = .ok (.iload_n 2, 1) := dc_28 (byA eNcX10_exchange (p := 110) (v := 28) (by decide +kernel))
theorem dX10_exchange_111 : decode cX10_exchange 111 = .ok (.invokevirtual 340, 3) := dc_182 (byA eNcX10_exchange (p := 111) (v := 182) (by decide +kernel)) (byA eNcX10_exchange (p := 112) (v := 1) (by decide +kernel)) (byA eNcX10_exchange (p := 113) (v := 84) (by decide +kernel)) rfl
theorem dX10_exchange_114 : decode cX10_exchange 114 = .ok (.goto 4, 3) := dc_167 (byA eNcX10_exchange (p := 114) (v := 167) (by decide +kernel)) (byA eNcX10_exchange (p := 115) (v := 0) (by decide +kernel)) (byA eNcX10_exchange (p := 116) (v := 4) (by decide +kernel)) (by decide +kernel)
theorem dX10_exchange_117 : decode cX10_exchange 117 = .ok (.iconst (-1), 1) := dc_2 (byA eNcX10_exchange (p := 117) (v := 2) (by decide +kernel))
theorem dX10_exchange_118 : decode cX10_exchange 118 = .ok (.istore 9, 2) := dc_54 (byA eNcX10_exchange (p := 118) (v := 54) (by decide +kernel)) (byA eNcX10_exchange (p := 119) (v := 9) (by decide +kernel))
theorem dX10_exchange_120 : decode cX10_exchange 120 = .ok (.iload 9, 2) := dc_21 (byA eNcX10_exchange (p := 120) (v := 21) (by decide +kernel)) (byA eNcX10_exchange (p := 121) (v := 9) (by decide +kernel))
theorem dX10_exchange_122 : decode cX10_exchange 122 = .ok (.iconst (-1), 1) := dc_2 (byA eNcX10_exchange (p := 122) (v := 2) (by decide +kernel))
theorem dX10_exchange_123 : decode cX10_exchange 123 = .ok (.if_icmp .eq 30, 3) := dc_159 (byA eNcX10_exchange (p := 123) (v := 159) (by decide +kernel)) (byA eNcX10_exchange (p := 124) (v := 0) (by decide +kernel)) (byA eNcX10_exchange (p := 125) (v := 30) (by decide +kernel)) (by decide +kernel)
theorem dX10_exchange_126 : decode cX10_exchange 126 = .ok (.iload 5, 2) := dc_21 (byA eNcX10_exchange (p := 126) (v := 21) (by decide +kernel)) (byA eNcX10_exchange (p := 127) (v := 5) (by decide +kernel))
theorem dX10_exchange_128 : decode cX10_exchange 128 = .ok (.iconst (-1), 1) := dc_2 (byA eNcX10_exchange (p := 128) (v := 2) (by decide +kernel))
theorem dX10_exchange_129 : decode cX10_exchange 129 = .ok (.if_icmp .eq 10, 3) := dc_159 (byA eNcX10_exchange (p := 129) (v := 159) (by decide +kernel)) (byA eNcX10_exchange (p := 130) (v := 0) (by decide +kernel)) (byA eNcX10_exchange (p := 131) (v := 10) (by decide +kernel)) (by decide +kernel)
theorem dX10_exchange_132 : decode cX10_exchange 132 = .ok (.iload 9, 2) := dc_21 (byA eNcX10_exchange (p := 132) (v := 21) (by decide +kernel)) (byA eNcX10_exchange (p := 133) (v := 9) (by decide +kernel))
theorem dX10_exchange_134 : decode cX10_exchange 134 = .ok (.iload 5, 2) := dc_21 (byA eNcX10_exchange (p := 134) (v := 21) (by decide +kernel)) (byA eNcX10_exchange (p := 135) (v := 5) (by decide +kernel))
theorem dX10_exchange_136 : decode cX10_exchange 136 = .ok (.if_icmp .ge 17, 3) := dc_162 (byA eNcX10_exchange (p := 136) (v := 162) (by decide +kernel)) (byA eNcX10_exchange (p := 137) (v := 0) (by decide +kernel)) (byA eNcX10_exchange (p := 138) (v := 17) (by decide +kernel)) (by decide +kernel)
theorem dX10_exchange_139 : decode cX10_exchange 139 = .ok (.iload 9, 2) := dc_21 (byA eNcX10_exchange (p := 139) (v := 21) (by decide +kernel)) (byA eNcX10_exchange (p := 140) (v := 9) (by decide +kernel))
theorem dX10_exchange_141 : decode cX10_exchange 141 = .ok (.istore 5, 2) := dc_54 (byA eNcX10_exchange (p := 141) (v := 54) (by decide +kernel)) (byA eNcX10_exchange (p := 142) (v := 5) (by decide +kernel))
theorem dX10_exchange_143 : decode cX10_exchange 143 = .ok (.bipush 10, 2) := dc_16 (byA eNcX10_exchange (p := 143) (v := 16) (by decide +kernel)) (byA eNcX10_exchange (p := 144) (v := 10) (by decide +kernel)) (by decide +kernel)
theorem dX10_exchange_145 : decode cX10_exchange 145 = .ok (.iload 7, 2) := dc_21 (byA eNcX10_exchange (p := 145) (v := 21) (by decide +kernel)) (byA eNcX10_exchange (p := 146) (v := 7) (by decide +kernel))
theorem dX10_exchange_147 : decode cX10_exchange 147 = .ok (.imul, 1) := dc_104 (byA eNcX10_exchange (p := 147) (v := 104) (by decide +kernel))
theorem dX10_exchange_148 : decode cX10_exchange 148 = .ok (.iload 8, 2) := dc_21 (byA eNcX10_exchange (p := 148) (v := 21) (by decide +kernel)) (byA eNcX10_exchange (p := 149) (v := 8) (by decide +kernel))
theorem dX10_exchange_150 : decode cX10_exchange 150 = .ok (.iadd, 1) := dc_96 (byA eNcX10_exchange (p := 150) (v := 96) (by decide +kernel))
theorem dX10_exchange_151 : decode cX10_exchange 151 = .ok (.istore 4, 2) := dc_54 (byA eNcX10_exchange (p := 151) (v := 54) (by decide +kernel)) (byA eNcX10_exchange (p := 152) (v := 4) (by decide +kernel))
theorem dX10_exchange_153 : decode cX10_exchange 153 = .ok (.iinc 6 1, 3) := dc_132 (byA eNcX10_exchange (p := 153) (v := 132) (by decide +kernel)) (byA eNcX10_exchange (p := 154) (v := 6) (by decide +kernel)) (byA eNcX10_exchange (p := 155) (v := 1) (by decide +kernel)) (by decide +kernel)
theorem dX10_exchange_156 : decode cX10_exchange 156 = .ok (.goto (-101), 3) := dc_167 (byA eNcX10_exchange (p := 156) (v := 167) (by decide +kernel)) (byA eNcX10_exchange (p := 157) (v := 255) (by decide +kernel)) (byA eNcX10_exchange (p := 158) (v := 155) (by decide +kernel)) (by decide +kernel)
theorem dX10_exchange_159 : decode cX10_exchange 159 = .ok (.iload_n 3, 1) := dc_29 (byA eNcX10_exchange (p := 159) (v := 29) (by decide +kernel))
theorem dX10_exchange_160 : decode cX10_exchange 160 = .ok (.iconst 1, 1) := dc_4 (byA eNcX10_exchange (p := 160) (v := 4) (by decide +kernel))
theorem dX10_exchange_161 : decode cX10_exchange 161 = .ok (.if_icmp .eq 9, 3) := dc_159 (byA eNcX10_exchange (p := 161) (v := 159) (by decide +kernel)) (byA eNcX10_exchange (p := 162) (v := 0) (by decide +kernel)) (byA eNcX10_exchange (p := 163) (v := 9) (by decide +kernel)) (by decide +kernel)
theorem dX10_exchange_164 : decode cX10_exchange 164 = .ok (.iload 5, 2) := dc_21 (byA eNcX10_exchange (p := 164) (v := 21) (by decide +kernel)) (byA eNcX10_exchange (p := 165) (v := 5) (by decide +kernel))
theorem dX10_exchange_166 : decode cX10_exchange 166 = .ok (.iconst (-1), 1) := dc_2 (byA eNcX10_exchange (p := 166) (v := 2) (by decide +kernel))
theorem dX10_exchange_167 : decode cX10_exchange 167 = .ok (.if_icmp .ne 8, 3) := dc_160 (byA eNcX10_exchange (p := 167) (v := 160) (by decide +kernel)) (byA eNcX10_exchange (p := 168) (v := 0) (by decide +kernel)) (byA eNcX10_exchange (p := 169) (v := 8) (by decide +kernel)) (by decide +kernel)
theorem dX10_exchange_170 : decode cX10_exchange 170 = .ok (.iload 5, 2) := dc_21 (byA eNcX10_exchange (p := 170) (v := 21) (by decide +kernel)) (byA eNcX10_exchange (p := 171) (v := 5) (by decide +kernel))
theorem dX10_exchange_172 : decode cX10_exchange 172 = .ok (.goto 5, 3) := dc_167 (byA eNcX10_exchange (p := 172) (v := 167) (by decide +kernel)) (byA eNcX10_exchange (p := 173) (v := 0) (by decide +kernel)) (byA eNcX10_exchange (p := 174) (v := 5) (by decide +kernel)) (by decide +kernel)
theorem dX10_exchange_175 : decode cX10_exchange 175 = .ok (.iload 4, 2) := dc_21 (byA eNcX10_exchange (p := 175) (v := 21) (by decide +kernel)) (byA eNcX10_exchange (p := 176) (v := 4) (by decide +kernel))
theorem dX10_exchange_177 : decode cX10_exchange 177 = .ok (.ireturn, 1) := dc_172 (byA eNcX10_exchange (p := 177) (v := 172) (by decide +kernel))
def X10_exchange_J139 (k55 : Int → Int → Int → Mm → Rs) (l1 : Int) (l2 : Int) (l3 : Int) (l6 : Int) (l7 : Int) (l8 : Int) (l9 : Int) (μ : Mm) : Rs := lt_ (iA (iM 10 l7) l8) fun v27 => k55 v27 l9 (iA l6 1) μ
def X10_exchange_J118 (k55 : Int → Int → Int → Mm → Rs) (l1 : Int) (l2 : Int) (l3 : Int) (l4 : Int) (l5 : Int) (l6 : Int) (l7 : Int) (l8 : Int) (s0 : Int) (μ : Mm) : Rs := if s0 = (-1) then (k55 l4 l5 (iA l6 1) μ) else (if l5 = (-1) then (X10_exchange_J139 (fun w4 w5 w6 μq => k55 w4 w5 w6 μq) l1 l2 l3 l6 l7 l8 s0 μ) else (if l5 ≤ s0 then (k55 l4 l5 (iA l6 1) μ) else (X10_exchange_J139 (fun w4 w5 w6 μq => k55 w4 w5 w6 μq) l1 l2 l3 l6 l7 l8 s0 μ)))
def X10_exchange_J117 (k55 : Int → Int → Int → Mm → Rs) (l1 : Int) (l2 : Int) (l3 : Int) (l4 : Int) (l5 : Int) (l6 : Int) (l7 : Int) (l8 : Int) (μ : Mm) : Rs := X10_exchange_J118 (fun w4 w5 w6 μq => k55 w4 w5 w6 μq) l1 l2 l3 l4 l5 l6 l7 l8 (-1) μ
def X10_exchange_L55 (l1 : Int) (l2 : Int) (l3 : Int) (k159 : Int → Int → Mm → Rs) : Nat → Int → Int → Int → Mm → Rs
  | 0, _, _, _, _ => none
  | n + 1, l4, l5, l6, μ => if 64 ≤ l6 then (k159 l4 l5 μ) else (bd (X0_copy 13 5 μ) fun v21 μ22 => if (iR l6 8) ≤ (iD l6 8) then (X10_exchange_J117 (fun w4 w5 w6 μq => X10_exchange_L55 l1 l2 l3 k159 n w4 w5 w6 μq) l1 l2 l3 l4 l5 l6 (iD l6 8) (iR l6 8) μ22) else (bd (X0_exchangeCranks 13 (iD l6 8) (iR l6 8) μ22) fun v29 μ30 => if v29 = 0 then (X10_exchange_J117 (fun w4 w5 w6 μq => X10_exchange_L55 l1 l2 l3 k159 n w4 w5 w6 μq) l1 l2 l3 l4 l5 l6 (iD l6 8) (iR l6 8) μ30) else (bd (X10_leastTogether l1 l2 μ30) fun v33 μ34 => X10_exchange_J118 (fun w4 w5 w6 μq => X10_exchange_L55 l1 l2 l3 k159 n w4 w5 w6 μq) l1 l2 l3 l4 l5 l6 (iD l6 8) (iR l6 8) v33 μ34)))
def X10_exchange (l1 : Int) (l2 : Int) (l3 : Int) (μ : Mm) : Rs := bd (X10_isHalf l3 μ) fun v1 μ2 => if v1 = 0 then (some ((-1), μ2)) else (if l1 = l2 then (some ((-1), μ2)) else (bd (X10_lay l1 μ2) fun v6 μ7 => if v6 = 0 then (some ((-1), μ7)) else (bd (X10_lay l2 μ7) fun v10 μ11 => if v10 = 0 then (some ((-1), μ11)) else (bd (X0_copy 13 5 μ11) fun v14 μ15 => bd (X10_leastTogether l1 l2 μ15) fun v17 μ18 => X10_exchange_L55 l1 l2 l3 (fun v36 v37 μ38 => if l3 = 1 then (some (v37, μ38)) else (if v37 = (-1) then (some (v37, μ38)) else (some (v36, μ38)))) FU 0 v17 0 μ18))))
set_option maxHeartbeats 4000000 in
set_option maxRecDepth 100000 in
theorem kX10_exchange_J139 (d : Nat) (hd : 272 ≤ d) {k55 : Int → Int → Int → Mm → Rs} {l1 : Int} {l2 : Int} {l3 : Int} {l6 : Int} {l7 : Int} {l8 : Int} {l9 : Int} {μ : Mm} {r : Int} {μ' : Mm} (hk_55 : ∀ (v4 v5 v6 : Int) (μ1 : Mm), k55 v4 v5 v6 μ1 = some (r, μ') → VV d mX10_exchange 55 [some (vR 0), some (vI l1), some (vI l2), some (vI l3), some (vI v4), some (vI v5), some (vI v6), none, none, none] [] μ1 r μ') (h : X10_exchange_J139 k55 l1 l2 l3 l6 l7 l8 l9 μ = some (r, μ')) : VV d mX10_exchange 139 [some (vR 0), some (vI l1), some (vI l2), some (vI l3), none, none, some (vI l6), some (vI l7), some (vI l8), some (vI l9)] [] μ r μ' := by
  unfold X10_exchange_J139 at h
  refine V_iload (q := 141) dX10_exchange_139 rfl rfl ?_
  refine V_istore (q := 143) dX10_exchange_141 (Nat.le_of_ble_eq_true rfl) trivial rfl ?_
  refine V_bipush (q := 145) dX10_exchange_143 rfl rfl rfl ?_
  refine V_iload (q := 147) dX10_exchange_145 rfl rfl ?_
  refine V_imul (q := 148) dX10_exchange_147 rfl ?_
  refine V_iload (q := 150) dX10_exchange_148 rfl rfl ?_
  refine V_iadd (q := 151) dX10_exchange_150 rfl ?_
  have h := lt_i h
  refine V_istore (q := 153) dX10_exchange_151 (Nat.le_of_ble_eq_true rfl) trivial rfl ?_
  refine V_iinc (q := 156) dX10_exchange_153 rfl (Nat.le_of_ble_eq_true rfl) trivial rfl ?_
  refine V_goto (q := 55) dX10_exchange_156 (by decide) ?_
  exact V_weak (hk_55 _ _ _ _ h) (sb_s rfl (sb_s rfl (sb_s rfl (sb_s rfl (sb_s rfl (sb_s rfl (sb_s rfl (sb_n (sb_n (sb_n sb_0))))))))))
set_option maxHeartbeats 4000000 in
set_option maxRecDepth 100000 in
theorem kX10_exchange_J118 (d : Nat) (hd : 272 ≤ d) {k55 : Int → Int → Int → Mm → Rs} {l1 : Int} {l2 : Int} {l3 : Int} {l4 : Int} {l5 : Int} {l6 : Int} {l7 : Int} {l8 : Int} {s0 : Int} {μ : Mm} {r : Int} {μ' : Mm} (hk_55 : ∀ (v4 v5 v6 : Int) (μ1 : Mm), k55 v4 v5 v6 μ1 = some (r, μ') → VV d mX10_exchange 55 [some (vR 0), some (vI l1), some (vI l2), some (vI l3), some (vI v4), some (vI v5), some (vI v6), none, none, none] [] μ1 r μ') (h : X10_exchange_J118 k55 l1 l2 l3 l4 l5 l6 l7 l8 s0 μ = some (r, μ')) : VV d mX10_exchange 118 [some (vR 0), some (vI l1), some (vI l2), some (vI l3), some (vI l4), some (vI l5), some (vI l6), some (vI l7), some (vI l8), none] [vI s0] μ r μ' := by
  unfold X10_exchange_J118 at h
  refine V_istore (q := 120) dX10_exchange_118 (Nat.le_of_ble_eq_true rfl) trivial rfl ?_
  refine V_iload (q := 122) dX10_exchange_120 rfl rfl ?_
  refine V_iconst (q := 123) dX10_exchange_122 rfl rfl ?_
  refine V_icmpeq (q := 153) (q2 := 126) dX10_exchange_123 (by decide) rfl (fun hc25 => ?_) (fun hc25 => ?_)
  · have h := ifT hc25 h
    refine V_iinc (q := 156) dX10_exchange_153 rfl (Nat.le_of_ble_eq_true rfl) trivial rfl ?_
    refine V_goto (q := 55) dX10_exchange_156 (by decide) ?_
    exact V_weak (hk_55 _ _ _ _ h) (sb_s rfl (sb_s rfl (sb_s rfl (sb_s rfl (sb_s rfl (sb_s rfl (sb_s rfl (sb_n (sb_n (sb_n sb_0))))))))))
  · have h := ifF hc25 h
    refine V_iload (q := 128) dX10_exchange_126 rfl rfl ?_
    refine V_iconst (q := 129) dX10_exchange_128 rfl rfl ?_
    refine V_icmpeq (q := 139) (q2 := 132) dX10_exchange_129 (by decide) rfl (fun hc26 => ?_) (fun hc26 => ?_)
    · have h := ifT hc26 h
      exact V_weak (kX10_exchange_J139 d hd (fun _ _ _ _ h => hk_55 _ _ _ _ h) h) (sb_s rfl (sb_s rfl (sb_s rfl (sb_s rfl (sb_n (sb_n (sb_s rfl (sb_s rfl (sb_s rfl (sb_s rfl sb_0))))))))))
    · have h := ifF hc26 h
      refine V_iload (q := 134) dX10_exchange_132 rfl rfl ?_
      refine V_iload (q := 136) dX10_exchange_134 rfl rfl ?_
      refine V_icmpge (q := 153) (q2 := 139) dX10_exchange_136 (by decide) rfl (fun hc28 => ?_) (fun hc28 => ?_)
      · have h := ifT hc28 h
        refine V_iinc (q := 156) dX10_exchange_153 rfl (Nat.le_of_ble_eq_true rfl) trivial rfl ?_
        refine V_goto (q := 55) dX10_exchange_156 (by decide) ?_
        exact V_weak (hk_55 _ _ _ _ h) (sb_s rfl (sb_s rfl (sb_s rfl (sb_s rfl (sb_s rfl (sb_s rfl (sb_s rfl (sb_n (sb_n (sb_n sb_0))))))))))
      · have h := ifF hc28 h
        exact V_weak (kX10_exchange_J139 d hd (fun _ _ _ _ h => hk_55 _ _ _ _ h) h) (sb_s rfl (sb_s rfl (sb_s rfl (sb_s rfl (sb_n (sb_n (sb_s rfl (sb_s rfl (sb_s rfl (sb_s rfl sb_0))))))))))
set_option maxHeartbeats 4000000 in
set_option maxRecDepth 100000 in
theorem kX10_exchange_J117 (d : Nat) (hd : 272 ≤ d) {k55 : Int → Int → Int → Mm → Rs} {l1 : Int} {l2 : Int} {l3 : Int} {l4 : Int} {l5 : Int} {l6 : Int} {l7 : Int} {l8 : Int} {μ : Mm} {r : Int} {μ' : Mm} (hk_55 : ∀ (v4 v5 v6 : Int) (μ1 : Mm), k55 v4 v5 v6 μ1 = some (r, μ') → VV d mX10_exchange 55 [some (vR 0), some (vI l1), some (vI l2), some (vI l3), some (vI v4), some (vI v5), some (vI v6), none, none, none] [] μ1 r μ') (h : X10_exchange_J117 k55 l1 l2 l3 l4 l5 l6 l7 l8 μ = some (r, μ')) : VV d mX10_exchange 117 [some (vR 0), some (vI l1), some (vI l2), some (vI l3), some (vI l4), some (vI l5), some (vI l6), some (vI l7), some (vI l8), none] [] μ r μ' := by
  unfold X10_exchange_J117 at h
  refine V_iconst (q := 118) dX10_exchange_117 rfl rfl ?_
  exact V_weak (kX10_exchange_J118 d hd (fun _ _ _ _ h => hk_55 _ _ _ _ h) h) (sb_s rfl (sb_s rfl (sb_s rfl (sb_s rfl (sb_s rfl (sb_s rfl (sb_s rfl (sb_s rfl (sb_s rfl (sb_n sb_0))))))))))
set_option maxHeartbeats 4000000 in
set_option maxRecDepth 100000 in
theorem kX10_exchange_L55 (d : Nat) (hd : 272 ≤ d) {l1 : Int} {l2 : Int} {l3 : Int} {k159 : Int → Int → Mm → Rs} {r : Int} {μ' : Mm} (hk_159 : ∀ (v4 v5 : Int) (μ1 : Mm), k159 v4 v5 μ1 = some (r, μ') → VV d mX10_exchange 159 [none, none, none, some (vI l3), some (vI v4), some (vI v5), none, none, none, none] [] μ1 r μ') : ∀ (n : Nat) {l4 l5 l6 : Int} {μ : Mm}, X10_exchange_L55 l1 l2 l3 k159 n l4 l5 l6 μ = some (r, μ') → VV d mX10_exchange 55 [some (vR 0), some (vI l1), some (vI l2), some (vI l3), some (vI l4), some (vI l5), some (vI l6), none, none, none] [] μ r μ' := by
  intro n
  induction n with
  | zero => intro l4 l5 l6 μ h; rw [X10_exchange_L55] at h; cases h
  | succ n ih =>
    intro l4 l5 l6 μ h
    rw [X10_exchange_L55] at h
    refine V_iload (q := 57) dX10_exchange_55 rfl rfl ?_
    refine V_bipush (q := 59) dX10_exchange_57 rfl rfl rfl ?_
    refine V_icmpge (q := 159) (q2 := 62) dX10_exchange_59 (by decide) rfl (fun hc20 => ?_) (fun hc20 => ?_)
    · have h := ifT hc20 h
      exact V_weak (hk_159 _ _ _ h) (sb_n (sb_n (sb_n (sb_s rfl (sb_s rfl (sb_s rfl (sb_n (sb_n (sb_n (sb_n sb_0))))))))))
    · have h := ifF hc20 h
      refine V_iload (q := 64) dX10_exchange_62 rfl rfl ?_
      refine V_bipush (q := 66) dX10_exchange_64 rfl rfl rfl ?_
      refine V_idiv (q := 67) dX10_exchange_66 (by decide) rfl ?_
      refine V_istore (q := 69) dX10_exchange_67 (Nat.le_of_ble_eq_true rfl) trivial rfl ?_
      refine V_iload (q := 71) dX10_exchange_69 rfl rfl ?_
      refine V_bipush (q := 73) dX10_exchange_71 rfl rfl rfl ?_
      refine V_irem (q := 74) dX10_exchange_73 (by decide) rfl ?_
      refine V_istore (q := 76) dX10_exchange_74 (Nat.le_of_ble_eq_true rfl) trivial rfl ?_
      refine V_aload_n (q := 77) dX10_exchange_76 rfl rfl rfl ?_
      refine V_getO (q := 80) (t := 13) fl_X10_44 rfl rfl rfl rfl dX10_exchange_77 rfl ?_
      refine V_aload_n (q := 81) dX10_exchange_80 rfl rfl rfl ?_
      refine V_getO (q := 84) (t := 5) fl_X10_37 rfl rfl rfl rfl dX10_exchange_81 rfl ?_
      obtain ⟨v21, μ22, hc23, h⟩ := bd_i h
      refine V_cV0 (q := 87) (kX0_copy (d - 1) (by omega) rfl rfl hc23) (by omega) mv_X10_208 rfl rfl rfl rfl rfl rfl dX10_exchange_84 rfl ?_
      refine V_iload (q := 89) dX10_exchange_87 rfl rfl ?_
      refine V_iload (q := 91) dX10_exchange_89 rfl rfl ?_
      refine V_icmpge (q := 117) (q2 := 94) dX10_exchange_91 (by decide) rfl (fun hc24 => ?_) (fun hc24 => ?_)
      · have h := ifT hc24 h
        exact V_weak (kX10_exchange_J117 d hd (fun _ _ _ _ h => ih h) h) (sb_s rfl (sb_s rfl (sb_s rfl (sb_s rfl (sb_s rfl (sb_s rfl (sb_s rfl (sb_s rfl (sb_s rfl (sb_n sb_0))))))))))
      · have h := ifF hc24 h
        refine V_aload_n (q := 95) dX10_exchange_94 rfl rfl rfl ?_
        refine V_getO (q := 98) (t := 13) fl_X10_44 rfl rfl rfl rfl dX10_exchange_95 rfl ?_
        refine V_iload (q := 100) dX10_exchange_98 rfl rfl ?_
        refine V_iload (q := 102) dX10_exchange_100 rfl rfl ?_
        obtain ⟨v29, μ30, hc31, h⟩ := bd_i h
        refine V_cV1 (q := 105) (v := vI v29) (kX0_exchangeCranks (d - 1) (by omega) rfl hc31) (by omega) mv_X10_198 rfl rfl rfl rfl rfl rfl dX10_exchange_102 rfl ?_
        refine V_ifeq (q := 117) (q2 := 108) dX10_exchange_105 (by decide) rfl (fun hc32 => ?_) (fun hc32 => ?_)
        · have h := ifT hc32 h
          exact V_weak (kX10_exchange_J117 d hd (fun _ _ _ _ h => ih h) h) (sb_s rfl (sb_s rfl (sb_s rfl (sb_s rfl (sb_s rfl (sb_s rfl (sb_s rfl (sb_s rfl (sb_s rfl (sb_n sb_0))))))))))
        · have h := ifF hc32 h
          refine V_aload_n (q := 109) dX10_exchange_108 rfl rfl rfl ?_
          refine V_iload_n (q := 110) dX10_exchange_109 rfl rfl rfl ?_
          refine V_iload_n (q := 111) dX10_exchange_110 rfl rfl rfl ?_
          obtain ⟨v33, μ34, hc35, h⟩ := bd_i h
          refine V_cV1 (q := 114) (v := vI v33) (kX10_leastTogether (d - 1) (by omega) hc35) (by omega) mv_X10_340 rfl rfl rfl rfl rfl rfl dX10_exchange_111 rfl ?_
          refine V_goto (q := 118) dX10_exchange_114 (by decide) ?_
          exact V_weak (kX10_exchange_J118 d hd (fun _ _ _ _ h => ih h) h) (sb_s rfl (sb_s rfl (sb_s rfl (sb_s rfl (sb_s rfl (sb_s rfl (sb_s rfl (sb_s rfl (sb_s rfl (sb_n sb_0))))))))))
set_option maxHeartbeats 4000000 in
set_option maxRecDepth 100000 in
theorem kX10_exchange (d : Nat) (hd : 272 ≤ d) {l1 : Int} {l2 : Int} {l3 : Int} {μ : Mm} {r : Int} {μ' : Mm} (h : X10_exchange l1 l2 l3 μ = some (r, μ')) : CC d mX10_exchange [vR 0, vI l1, vI l2, vI l3] μ r μ' := by
  unfold X10_exchange at h
  refine V_enter (by decide) (Nat.le_of_ble_eq_true rfl) ?_
  show VV d mX10_exchange 0 [some (vR 0), some (vI l1), some (vI l2), some (vI l3), none, none, none, none, none, none] [] μ r μ'
  refine V_iload_n (q := 1) dX10_exchange_0 rfl rfl rfl ?_
  obtain ⟨v1, μ2, hc3, h⟩ := bd_i h
  refine V_cS1 (q := 4) (v := vI v1) (kX10_isHalf (d - 1) (by omega) hc3) (by omega) mv_X10_275 rfl rfl rfl rfl dX10_exchange_1 rfl ?_
  refine V_ifeq (q := 28) (q2 := 7) dX10_exchange_4 (by decide) rfl (fun hc4 => ?_) (fun hc4 => ?_)
  · have h := ifT hc4 h
    refine V_iconst (q := 29) dX10_exchange_28 rfl rfl ?_
    exact V_iret rfl h dX10_exchange_29
  · have h := ifF hc4 h
    refine V_iload_n (q := 8) dX10_exchange_7 rfl rfl rfl ?_
    refine V_iload_n (q := 9) dX10_exchange_8 rfl rfl rfl ?_
    refine V_icmpeq (q := 28) (q2 := 12) dX10_exchange_9 (by decide) rfl (fun hc5 => ?_) (fun hc5 => ?_)
    · have h := ifT hc5 h
      refine V_iconst (q := 29) dX10_exchange_28 rfl rfl ?_
      exact V_iret rfl h dX10_exchange_29
    · have h := ifF hc5 h
      refine V_aload_n (q := 13) dX10_exchange_12 rfl rfl rfl ?_
      refine V_iload_n (q := 14) dX10_exchange_13 rfl rfl rfl ?_
      obtain ⟨v6, μ7, hc8, h⟩ := bd_i h
      refine V_cV1 (q := 17) (v := vI v6) (kX10_lay (d - 1) (by omega) hc8) (by omega) mv_X10_288 rfl rfl rfl rfl rfl rfl dX10_exchange_14 rfl ?_
      refine V_ifeq (q := 28) (q2 := 20) dX10_exchange_17 (by decide) rfl (fun hc9 => ?_) (fun hc9 => ?_)
      · have h := ifT hc9 h
        refine V_iconst (q := 29) dX10_exchange_28 rfl rfl ?_
        exact V_iret rfl h dX10_exchange_29
      · have h := ifF hc9 h
        refine V_aload_n (q := 21) dX10_exchange_20 rfl rfl rfl ?_
        refine V_iload_n (q := 22) dX10_exchange_21 rfl rfl rfl ?_
        obtain ⟨v10, μ11, hc12, h⟩ := bd_i h
        refine V_cV1 (q := 25) (v := vI v10) (kX10_lay (d - 1) (by omega) hc12) (by omega) mv_X10_288 rfl rfl rfl rfl rfl rfl dX10_exchange_22 rfl ?_
        refine V_ifne (q := 30) (q2 := 28) dX10_exchange_25 (by decide) rfl (fun hc13 => ?_) (fun hc13 => ?_)
        · have h := ifF hc13 h
          refine V_aload_n (q := 31) dX10_exchange_30 rfl rfl rfl ?_
          refine V_getO (q := 34) (t := 13) fl_X10_44 rfl rfl rfl rfl dX10_exchange_31 rfl ?_
          refine V_aload_n (q := 35) dX10_exchange_34 rfl rfl rfl ?_
          refine V_getO (q := 38) (t := 5) fl_X10_37 rfl rfl rfl rfl dX10_exchange_35 rfl ?_
          obtain ⟨v14, μ15, hc16, h⟩ := bd_i h
          refine V_cV0 (q := 41) (kX0_copy (d - 1) (by omega) rfl rfl hc16) (by omega) mv_X10_208 rfl rfl rfl rfl rfl rfl dX10_exchange_38 rfl ?_
          refine V_iconst (q := 42) dX10_exchange_41 rfl rfl ?_
          refine V_istore (q := 44) dX10_exchange_42 (Nat.le_of_ble_eq_true rfl) trivial rfl ?_
          refine V_aload_n (q := 45) dX10_exchange_44 rfl rfl rfl ?_
          refine V_iload_n (q := 46) dX10_exchange_45 rfl rfl rfl ?_
          refine V_iload_n (q := 47) dX10_exchange_46 rfl rfl rfl ?_
          obtain ⟨v17, μ18, hc19, h⟩ := bd_i h
          refine V_cV1 (q := 50) (v := vI v17) (kX10_leastTogether (d - 1) (by omega) hc19) (by omega) mv_X10_340 rfl rfl rfl rfl rfl rfl dX10_exchange_47 rfl ?_
          refine V_istore (q := 52) dX10_exchange_50 (Nat.le_of_ble_eq_true rfl) trivial rfl ?_
          refine V_iconst (q := 53) dX10_exchange_52 rfl rfl ?_
          refine V_istore (q := 55) dX10_exchange_53 (Nat.le_of_ble_eq_true rfl) trivial rfl ?_
          refine V_weak (kX10_exchange_L55 d hd (fun v36 v37 μ38 h => ?_) FU h) (sb_s rfl (sb_s rfl (sb_s rfl (sb_s rfl (sb_s rfl (sb_s rfl (sb_s rfl (sb_n (sb_n (sb_n sb_0))))))))))
          refine V_iload_n (q := 160) dX10_exchange_159 rfl rfl rfl ?_
          refine V_iconst (q := 161) dX10_exchange_160 rfl rfl ?_
          refine V_icmpeq (q := 170) (q2 := 164) dX10_exchange_161 (by decide) rfl (fun hc39 => ?_) (fun hc39 => ?_)
          · have h := ifT hc39 h
            refine V_iload (q := 172) dX10_exchange_170 rfl rfl ?_
            refine V_goto (q := 177) dX10_exchange_172 (by decide) ?_
            exact V_iret rfl h dX10_exchange_177
          · have h := ifF hc39 h
            refine V_iload (q := 166) dX10_exchange_164 rfl rfl ?_
            refine V_iconst (q := 167) dX10_exchange_166 rfl rfl ?_
            refine V_icmpne (q := 175) (q2 := 170) dX10_exchange_167 (by decide) rfl (fun hc40 => ?_) (fun hc40 => ?_)
            · have h := ifF hc40 h
              refine V_iload (q := 177) dX10_exchange_175 rfl rfl ?_
              exact V_iret rfl h dX10_exchange_177
            · have h := ifT hc40 h
              refine V_iload (q := 172) dX10_exchange_170 rfl rfl ?_
              refine V_goto (q := 177) dX10_exchange_172 (by decide) ?_
              exact V_iret rfl h dX10_exchange_177
        · have h := ifT hc13 h
          refine V_iconst (q := 29) dX10_exchange_28 rfl rfl ?_
          exact V_iret rfl h dX10_exchange_29
abbrev mX10_pillar : Mth := (yX10_pillar, cX10_pillar, 7, some .int)
set_option maxRecDepth 100000 in
theorem mi_X10_pillar : Cond.instanceMethod yX10_pillar ∈ tG ∧ Cond.selects yX10_pillar.cls yX10_pillar yX10_pillar ∈ tG ∧ Cond.initialized yX10_pillar.cls ∈ tG ∧ Cond.code yX10_pillar cX10_pillar 7 (some .int) ∈ tG ∧ (yX10_pillar.cls ≠ "java/lang/invoke/MethodHandle" ∧ yX10_pillar.cls ≠ "java/lang/invoke/VarHandle" ∧ (parseMethodDescriptor yX10_pillar.desc).map (fun d => d.parameters.length) = some 2) ∧ 7 ≤ 60 := ⟨(tG_of (tb4 (List.mem_of_getElem? (i := 176) rfl)) (by decide +kernel)), (tG_of (tb4 (List.mem_of_getElem? (i := 177) rfl)) (by decide +kernel)), (tG_of (tb1 (List.mem_of_getElem? (i := 1) rfl)) (by decide +kernel)), (tG_of (tb4 (List.mem_of_getElem? (i := 178) rfl)) (by decide +kernel)), ⟨by decide, by decide, by decide +kernel⟩, by decide⟩
theorem dX10_pillar_0 : decode cX10_pillar 0 = .ok (.iload_n 2, 1) := dc_28 (byA eNcX10_pillar (p := 0) (v := 28) (by decide +kernel))
theorem dX10_pillar_1 : decode cX10_pillar 1 = .ok (.invokestatic 275, 3) := dc_184 (byA eNcX10_pillar (p := 1) (v := 184) (by decide +kernel)) (byA eNcX10_pillar (p := 2) (v := 1) (by decide +kernel)) (byA eNcX10_pillar (p := 3) (v := 19) (by decide +kernel)) rfl
theorem dX10_pillar_4 : decode cX10_pillar 4 = .ok (.ifCond .eq 19, 3) := dc_153 (byA eNcX10_pillar (p := 4) (v := 153) (by decide +kernel)) (byA eNcX10_pillar (p := 5) (v := 0) (by decide +kernel)) (byA eNcX10_pillar (p := 6) (v := 19) (by decide +kernel)) (by decide +kernel)
theorem dX10_pillar_7 : decode cX10_pillar 7 = .ok (.aload_n 0, 1) := dc_42 (byA eNcX10_pillar (p := 7) (v := 42) (by decide +kernel))
theorem dX10_pillar_8 : decode cX10_pillar 8 = .ok (.iload_n 1, 1) := dc_27 (byA eNcX10_pillar (p := 8) (v := 27) (by decide +kernel))
theorem dX10_pillar_9 : decode cX10_pillar 9 = .ok (.invokevirtual 288, 3) := dc_182 (byA eNcX10_pillar (p := 9) (v := 182) (by decide +kernel)) (byA eNcX10_pillar (p := 10) (v := 1) (by decide +kernel)) (byA eNcX10_pillar (p := 11) (v := 32) (by decide +kernel)) rfl
theorem dX10_pillar_12 : decode cX10_pillar 12 = .ok (.ifCond .eq 11, 3) := dc_153 (byA eNcX10_pillar (p := 12) (v := 153) (by decide +kernel)) (byA eNcX10_pillar (p := 13) (v := 0) (by decide +kernel)) (byA eNcX10_pillar (p := 14) (v := 11) (by decide +kernel)) (by decide +kernel)
theorem dX10_pillar_15 : decode cX10_pillar 15 = .ok (.aload_n 0, 1) := dc_42 (byA eNcX10_pillar (p := 15) (v := 42) (by decide +kernel))
theorem dX10_pillar_16 : decode cX10_pillar 16 = .ok (.invokevirtual 344, 3) := dc_182 (byA eNcX10_pillar (p := 16) (v := 182) (by decide +kernel)) (byA eNcX10_pillar (p := 17) (v := 1) (by decide +kernel)) (byA eNcX10_pillar (p := 18) (v := 88) (by decide +kernel)) rfl
theorem dX10_pillar_19 : decode cX10_pillar 19 = .ok (.iconst (-1), 1) := dc_2 (byA eNcX10_pillar (p := 19) (v := 2) (by decide +kernel))
theorem dX10_pillar_20 : decode cX10_pillar 20 = .ok (.if_icmp .ne 5, 3) := dc_160 (byA eNcX10_pillar (p := 20) (v := 160) (by decide +kernel)) (byA eNcX10_pillar (p := 21) (v := 0) (by decide +kernel)) (byA eNcX10_pillar (p := 22) (v := 5) (by decide +kernel)) (by decide +kernel)
theorem dX10_pillar_23 : decode cX10_pillar 23 = .ok (.iconst (-1), 1) := dc_2 (byA eNcX10_pillar (p := 23) (v := 2) (by decide +kernel))
theorem dX10_pillar_24 : decode cX10_pillar 24 = .ok (.ireturn, 1) := dc_172 (byA eNcX10_pillar (p := 24) (v := 172) (by decide +kernel))
theorem dX10_pillar_25 : decode cX10_pillar 25 = .ok (.iconst (-1), 1) := dc_2 (byA eNcX10_pillar (p := 25) (v := 2) (by decide +kernel))
theorem dX10_pillar_26 : decode cX10_pillar 26 = .ok (.istore_n 3, 1) := dc_62 (byA eNcX10_pillar (p := 26) (v := 62) (by decide +kernel))
theorem dX10_pillar_27 : decode cX10_pillar 27 = .ok (.iconst (-1), 1) := dc_2 (byA eNcX10_pillar (p := 27) (v := 2) (by decide +kernel))
theorem dX10_pillar_28 : decode cX10_pillar 28 = .ok (.istore 4, 2) := dc_54 (byA eNcX10_pillar (p := 28) (v := 54) (by decide +kernel)) (byA eNcX10_pillar (p := 29) (v := 4) (by decide +kernel))
theorem dX10_pillar_30 : decode cX10_pillar 30 = .ok (.iconst 0, 1) := dc_3 (byA eNcX10_pillar (p := 30) (v := 3) (by decide +kernel))
theorem dX10_pillar_31 : decode cX10_pillar 31 = .ok (.istore 5, 2) := dc_54 (byA eNcX10_pillar (p := 31) (v := 54) (by decide +kernel)) (byA eNcX10_pillar (p := 32) (v := 5) (by decide +kernel))
theorem dX10_pillar_33 : decode cX10_pillar 33 = .ok (.iload 5, 2) := dc_21 (byA eNcX10_pillar (p := 33) (v := 21) (by decide +kernel)) (byA eNcX10_pillar (p := 34) (v := 5) (by decide +kernel))
theorem dX10_pillar_35 : decode cX10_pillar 35 = .ok (.bipush 60, 2) := dc_16 (byA eNcX10_pillar (p := 35) (v := 16) (by decide +kernel)) (byA eNcX10_pillar (p := 36) (v := 60) (by decide +kernel)) (by decide +kernel)
theorem dX10_pillar_37 : decode cX10_pillar 37 = .ok (.if_icmp .ge 80, 3) := dc_162 (byA eNcX10_pillar (p := 37) (v := 162) (by decide +kernel)) (byA eNcX10_pillar (p := 38) (v := 0) (by decide +kernel)) (byA eNcX10_pillar (p := 39) (v := 80) (by decide +kernel)) (by decide +kernel)
theorem dX10_pillar_40 : decode cX10_pillar 40 = .ok (.iload 4, 2) := dc_21 (byA eNcX10_pillar (p := 40) (v := 21) (by decide +kernel)) (byA eNcX10_pillar (p := 41) (v := 4) (by decide +kernel))
theorem dX10_pillar_42 : decode cX10_pillar 42 = .ok (.ldc 226, 2) := dc_18 (byA eNcX10_pillar (p := 42) (v := 18) (by decide +kernel)) (byA eNcX10_pillar (p := 43) (v := 226) (by decide +kernel))
theorem dX10_pillar_44 : decode cX10_pillar 44 = .ok (.if_icmp .eq 73, 3) := dc_159 (byA eNcX10_pillar (p := 44) (v := 159) (by decide +kernel)) (byA eNcX10_pillar (p := 45) (v := 0) (by decide +kernel)) (byA eNcX10_pillar (p := 46) (v := 73) (by decide +kernel)) (by decide +kernel)
theorem dX10_pillar_47 : decode cX10_pillar 47 = .ok (.aload_n 0, 1) := dc_42 (byA eNcX10_pillar (p := 47) (v := 42) (by decide +kernel))
theorem dX10_pillar_48 : decode cX10_pillar 48 = .ok (.getfield 44, 3) := dc_180 (byA eNcX10_pillar (p := 48) (v := 180) (by decide +kernel)) (byA eNcX10_pillar (p := 49) (v := 0) (by decide +kernel)) (byA eNcX10_pillar (p := 50) (v := 44) (by decide +kernel)) rfl
theorem dX10_pillar_51 : decode cX10_pillar 51 = .ok (.aload_n 0, 1) := dc_42 (byA eNcX10_pillar (p := 51) (v := 42) (by decide +kernel))
theorem dX10_pillar_52 : decode cX10_pillar 52 = .ok (.getfield 37, 3) := dc_180 (byA eNcX10_pillar (p := 52) (v := 180) (by decide +kernel)) (byA eNcX10_pillar (p := 53) (v := 0) (by decide +kernel)) (byA eNcX10_pillar (p := 54) (v := 37) (by decide +kernel)) rfl
theorem dX10_pillar_55 : decode cX10_pillar 55 = .ok (.invokevirtual 208, 3) := dc_182 (byA eNcX10_pillar (p := 55) (v := 182) (by decide +kernel)) (byA eNcX10_pillar (p := 56) (v := 0) (by decide +kernel)) (byA eNcX10_pillar (p := 57) (v := 208) (by decide +kernel)) rfl
theorem dX10_pillar_58 : decode cX10_pillar 58 = .ok (.aload_n 0, 1) := dc_42 (byA eNcX10_pillar (p := 58) (v := 42) (by decide +kernel))
theorem dX10_pillar_59 : decode cX10_pillar 59 = .ok (.getfield 44, 3) := dc_180 (byA eNcX10_pillar (p := 59) (v := 180) (by decide +kernel)) (byA eNcX10_pillar (p := 60) (v := 0) (by decide +kernel)) (byA eNcX10_pillar (p := 61) (v := 44) (by decide +kernel)) rfl
theorem dX10_pillar_62 : decode cX10_pillar 62 = .ok (.iload 5, 2) := dc_21 (byA eNcX10_pillar (p := 62) (v := 21) (by decide +kernel)) (byA eNcX10_pillar (p := 63) (v := 5) (by decide +kernel))
theorem dX10_pillar_64 : decode cX10_pillar 64 = .ok (.invokevirtual 347, 3) := dc_182 (byA eNcX10_pillar (p := 64) (v := 182) (by decide +kernel)) (byA eNcX10_pillar (p := 65) (v := 1) (by decide +kernel)) (byA eNcX10_pillar (p := 66) (v := 91) (by decide +kernel)) rfl
theorem dX10_pillar_67 : decode cX10_pillar 67 = .ok (.ifCond .ne 6, 3) := dc_154 (byA eNcX10_pillar (p := 67) (v := 154) (by decide +kernel)) (byA eNcX10_pillar (p := 68) (v := 0) (by decide +kernel)) (byA eNcX10_pillar (p := 69) (v := 6) (by decide +kernel)) (by decide +kernel)
theorem dX10_pillar_70 : decode cX10_pillar 70 = .ok (.goto 41, 3) := dc_167 (byA eNcX10_pillar (p := 70) (v := 167) (by decide +kernel)) (byA eNcX10_pillar (p := 71) (v := 0) (by decide +kernel)) (byA eNcX10_pillar (p := 72) (v := 41) (by decide +kernel)) (by decide +kernel)
theorem dX10_pillar_73 : decode cX10_pillar 73 = .ok (.aload_n 0, 1) := dc_42 (byA eNcX10_pillar (p := 73) (v := 42) (by decide +kernel))
theorem dX10_pillar_74 : decode cX10_pillar 74 = .ok (.iload_n 1, 1) := dc_27 (byA eNcX10_pillar (p := 74) (v := 27) (by decide +kernel))
theorem dX10_pillar_75 : decode cX10_pillar 75 = .ok (.invokevirtual 334, 3) := dc_182 (byA eNcX10_pillar (p := 75) (v := 182) (by decide +kernel)) (byA eNcX10_pillar (p := 76) (v := 1) (by decide +kernel)) (byA eNcX10_pillar (p := 77) (v := 78) (by decide +kernel)) rfl
theorem dX10_pillar_78 : decode cX10_pillar 78 = .ok (.istore 6, 2) := dc_54 (byA eNcX10_pillar (p := 78) (v := 54) (by decide +kernel)) (byA eNcX10_pillar (p := 79) (v := 6) (by decide +kernel))
theorem dX10_pillar_80 : decode cX10_pillar 80 = .ok (.iload 6, 2) := dc_21 (byA eNcX10_pillar (p := 80) (v := 21) (by decide +kernel)) (byA eNcX10_pillar (p := 81) (v := 6) (by decide +kernel))
theorem dX10_pillar_82 : decode cX10_pillar 82 = .ok (.iconst (-1), 1) := dc_2 (byA eNcX10_pillar (p := 82) (v := 2) (by decide +kernel))
theorem dX10_pillar_83 : decode cX10_pillar 83 = .ok (.if_icmp .eq 10, 3) := dc_159 (byA eNcX10_pillar (p := 83) (v := 159) (by decide +kernel)) (byA eNcX10_pillar (p := 84) (v := 0) (by decide +kernel)) (byA eNcX10_pillar (p := 85) (v := 10) (by decide +kernel)) (by decide +kernel)
theorem dX10_pillar_86 : decode cX10_pillar 86 = .ok (.iload 6, 2) := dc_21 (byA eNcX10_pillar (p := 86) (v := 21) (by decide +kernel)) (byA eNcX10_pillar (p := 87) (v := 6) (by decide +kernel))
theorem dX10_pillar_88 : decode cX10_pillar 88 = .ok (.iload 4, 2) := dc_21 (byA eNcX10_pillar (p := 88) (v := 21) (by decide +kernel)) (byA eNcX10_pillar (p := 89) (v := 4) (by decide +kernel))
theorem dX10_pillar_90 : decode cX10_pillar 90 = .ok (.if_icmp .le 21, 3) := dc_164 (byA eNcX10_pillar (p := 90) (v := 164) (by decide +kernel)) (byA eNcX10_pillar (p := 91) (v := 0) (by decide +kernel)) (byA eNcX10_pillar (p := 92) (v := 21) (by decide +kernel)) (by decide +kernel)
theorem dX10_pillar_93 : decode cX10_pillar 93 = .ok (.iload 6, 2) := dc_21 (byA eNcX10_pillar (p := 93) (v := 21) (by decide +kernel)) (byA eNcX10_pillar (p := 94) (v := 6) (by decide +kernel))
theorem dX10_pillar_95 : decode cX10_pillar 95 = .ok (.iconst (-1), 1) := dc_2 (byA eNcX10_pillar (p := 95) (v := 2) (by decide +kernel))
theorem dX10_pillar_96 : decode cX10_pillar 96 = .ok (.if_icmp .ne 8, 3) := dc_160 (byA eNcX10_pillar (p := 96) (v := 160) (by decide +kernel)) (byA eNcX10_pillar (p := 97) (v := 0) (by decide +kernel)) (byA eNcX10_pillar (p := 98) (v := 8) (by decide +kernel)) (by decide +kernel)
theorem dX10_pillar_99 : decode cX10_pillar 99 = .ok (.ldc 226, 2) := dc_18 (byA eNcX10_pillar (p := 99) (v := 18) (by decide +kernel)) (byA eNcX10_pillar (p := 100) (v := 226) (by decide +kernel))
theorem dX10_pillar_101 : decode cX10_pillar 101 = .ok (.goto 5, 3) := dc_167 (byA eNcX10_pillar (p := 101) (v := 167) (by decide +kernel)) (byA eNcX10_pillar (p := 102) (v := 0) (by decide +kernel)) (byA eNcX10_pillar (p := 103) (v := 5) (by decide +kernel)) (by decide +kernel)
theorem dX10_pillar_104 : decode cX10_pillar 104 = .ok (.iload 6, 2) := dc_21 (byA eNcX10_pillar (p := 104) (v := 21) (by decide +kernel)) (byA eNcX10_pillar (p := 105) (v := 6) (by decide +kernel))
theorem dX10_pillar_106 : decode cX10_pillar 106 = .ok (.istore 4, 2) := dc_54 (byA eNcX10_pillar (p := 106) (v := 54) (by decide +kernel)) (byA eNcX10_pillar (p := 107) (v := 4) (by decide +kernel))
theorem dX10_pillar_108 : decode cX10_pillar 108 = .ok (.iload 5, 2) := dc_21 (byA eNcX10_pillar (p := 108) (v := 21) (by decide +kernel)) (byA eNcX10_pillar (p := 109) (v := 5) (by decide +kernel))
theorem dX10_pillar_110 : decode cX10_pillar 110 = .ok (.istore_n 3, 1) := dc_62 (byA eNcX10_pillar (p := 110) (v := 62) (by decide +kernel))
theorem dX10_pillar_111 : decode cX10_pillar 111 = .ok (.iinc 5 1, 3) := dc_132 (byA eNcX10_pillar (p := 111) (v := 132) (by decide +kernel)) (byA eNcX10_pillar (p := 112) (v := 5) (by decide +kernel)) (byA eNcX10_pillar (p := 113) (v := 1) (by decide +kernel)) (by decide +kernel)
theorem dX10_pillar_114 : decode cX10_pillar 114 = .ok (.goto (-81), 3) := dc_167 (byA eNcX10_pillar (p := 114) (v := 167) (by decide +kernel)) (byA eNcX10_pillar (p := 115) (v := 255) (by decide +kernel)) (byA eNcX10_pillar (p := 116) (v := 175) (by decide +kernel)) (by decide +kernel)
theorem dX10_pillar_117 : decode cX10_pillar 117 = .ok (.iload_n 2, 1) := dc_28 (byA eNcX10_pillar (p := 117) (v := 28) (by decide +kernel))
theorem dX10_pillar_118 : decode cX10_pillar 118 = .ok (.ifCond .ne 7, 3) := dc_154 (byA eNcX10_pillar (p := 118) (v := 154) (by decide +kernel)) (byA eNcX10_pillar (p := 119) (v := 0) (by decide +kernel)) (byA eNcX10_pillar (p := 120) (v := 7) (by decide +kernel)) (by decide +kernel)
theorem dX10_pillar_121 : decode cX10_pillar 121 = .ok (.iload_n 3, 1) := dc_29 (byA eNcX10_pillar (p := 121) (v := 29) (by decide +kernel))
theorem dX10_pillar_122 : decode cX10_pillar 122 = .ok (.goto 5, 3) := dc_167 (byA eNcX10_pillar (p := 122) (v := 167) (by decide +kernel)) (byA eNcX10_pillar (p := 123) (v := 0) (by decide +kernel)) (byA eNcX10_pillar (p := 124) (v := 5) (by decide +kernel)) (by decide +kernel)
theorem dX10_pillar_125 : decode cX10_pillar 125 = .ok (.iload 4, 2) := dc_21 (byA eNcX10_pillar (p := 125) (v := 21) (by decide +kernel)) (byA eNcX10_pillar (p := 126) (v := 4) (by decide +kernel))
theorem dX10_pillar_127 : decode cX10_pillar 127 = .ok (.ireturn, 1) := dc_172 (byA eNcX10_pillar (p := 127) (v := 172) (by decide +kernel))
def X10_pillar_J93 (k33 : Int → Int → Int → Mm → Rs) (l1 : Int) (l2 : Int) (l5 : Int) (l6 : Int) (μ : Mm) : Rs := if l6 = (-1) then (k33 l5 (-1000000) (iA l5 1) μ) else (k33 l5 l6 (iA l5 1) μ)
def X10_pillar_L33 (l1 : Int) (l2 : Int) (k117 : Int → Int → Mm → Rs) : Nat → Int → Int → Int → Mm → Rs
  | 0, _, _, _, _ => none
  | n + 1, l3, l4, l5, μ => if 60 ≤ l5 then (k117 l3 l4 μ) else (if l4 = (-1000000) then (k117 l3 l4 μ) else (bd (X0_copy 13 5 μ) fun v15 μ16 => bd (X0_putPost 13 l5 μ16) fun v18 μ19 => if v18 = 0 then (X10_pillar_L33 l1 l2 k117 n l3 l4 (iA l5 1) μ19) else (bd (X10_leastInTrial l1 μ19) fun v22 μ23 => if v22 = (-1) then (X10_pillar_J93 (fun w3 w4 w5 μq => X10_pillar_L33 l1 l2 k117 n w3 w4 w5 μq) l1 l2 l5 v22 μ23) else (if v22 ≤ l4 then (X10_pillar_L33 l1 l2 k117 n l3 l4 (iA l5 1) μ23) else (X10_pillar_J93 (fun w3 w4 w5 μq => X10_pillar_L33 l1 l2 k117 n w3 w4 w5 μq) l1 l2 l5 v22 μ23)))))
def X10_pillar (l1 : Int) (l2 : Int) (μ : Mm) : Rs := bd (X10_isHalf l2 μ) fun v1 μ2 => if v1 = 0 then (some ((-1), μ2)) else (bd (X10_lay l1 μ2) fun v5 μ6 => if v5 = 0 then (some ((-1), μ6)) else (bd (X10_leastLates μ6) fun v9 μ10 => if v9 = (-1) then (some ((-1), μ10)) else (X10_pillar_L33 l1 l2 (fun v28 v29 μ30 => if l2 = 0 then (some (v28, μ30)) else (some (v29, μ30))) FU (-1) (-1) 0 μ10)))
set_option maxHeartbeats 4000000 in
set_option maxRecDepth 100000 in
theorem kX10_pillar_J93 (d : Nat) (hd : 272 ≤ d) {k33 : Int → Int → Int → Mm → Rs} {l1 : Int} {l2 : Int} {l5 : Int} {l6 : Int} {μ : Mm} {r : Int} {μ' : Mm} (hk_33 : ∀ (v3 v4 v5 : Int) (μ1 : Mm), k33 v3 v4 v5 μ1 = some (r, μ') → VV d mX10_pillar 33 [some (vR 0), some (vI l1), some (vI l2), some (vI v3), some (vI v4), some (vI v5), none] [] μ1 r μ') (h : X10_pillar_J93 k33 l1 l2 l5 l6 μ = some (r, μ')) : VV d mX10_pillar 93 [some (vR 0), some (vI l1), some (vI l2), none, none, some (vI l5), some (vI l6)] [] μ r μ' := by
  unfold X10_pillar_J93 at h
  refine V_iload (q := 95) dX10_pillar_93 rfl rfl ?_
  refine V_iconst (q := 96) dX10_pillar_95 rfl rfl ?_
  refine V_icmpne (q := 104) (q2 := 99) dX10_pillar_96 (by decide) rfl (fun hc26 => ?_) (fun hc26 => ?_)
  · have h := ifF hc26 h
    refine V_iload (q := 106) dX10_pillar_104 rfl rfl ?_
    refine V_istore (q := 108) dX10_pillar_106 (Nat.le_of_ble_eq_true rfl) trivial rfl ?_
    refine V_iload (q := 110) dX10_pillar_108 rfl rfl ?_
    refine V_istore_n (q := 111) dX10_pillar_110 rfl (Nat.le_of_ble_eq_true rfl) trivial rfl ?_
    refine V_iinc (q := 114) dX10_pillar_111 rfl (Nat.le_of_ble_eq_true rfl) trivial rfl ?_
    refine V_goto (q := 33) dX10_pillar_114 (by decide) ?_
    exact V_weak (hk_33 _ _ _ _ h) (sb_s rfl (sb_s rfl (sb_s rfl (sb_s rfl (sb_s rfl (sb_s rfl (sb_n sb_0)))))))
  · have h := ifT hc26 h
    refine V_ldc (q := 101) (n := -1000000) dX10_pillar_99 (by unfold rI; omega) kc_X10_226 rfl ?_
    refine V_goto (q := 106) dX10_pillar_101 (by decide) ?_
    refine V_istore (q := 108) dX10_pillar_106 (Nat.le_of_ble_eq_true rfl) trivial rfl ?_
    refine V_iload (q := 110) dX10_pillar_108 rfl rfl ?_
    refine V_istore_n (q := 111) dX10_pillar_110 rfl (Nat.le_of_ble_eq_true rfl) trivial rfl ?_
    refine V_iinc (q := 114) dX10_pillar_111 rfl (Nat.le_of_ble_eq_true rfl) trivial rfl ?_
    refine V_goto (q := 33) dX10_pillar_114 (by decide) ?_
    exact V_weak (hk_33 _ _ _ _ h) (sb_s rfl (sb_s rfl (sb_s rfl (sb_s rfl (sb_s rfl (sb_s rfl (sb_n sb_0)))))))
set_option maxHeartbeats 4000000 in
set_option maxRecDepth 100000 in
theorem kX10_pillar_L33 (d : Nat) (hd : 272 ≤ d) {l1 : Int} {l2 : Int} {k117 : Int → Int → Mm → Rs} {r : Int} {μ' : Mm} (hk_117 : ∀ (v3 v4 : Int) (μ1 : Mm), k117 v3 v4 μ1 = some (r, μ') → VV d mX10_pillar 117 [none, none, some (vI l2), some (vI v3), some (vI v4), none, none] [] μ1 r μ') : ∀ (n : Nat) {l3 l4 l5 : Int} {μ : Mm}, X10_pillar_L33 l1 l2 k117 n l3 l4 l5 μ = some (r, μ') → VV d mX10_pillar 33 [some (vR 0), some (vI l1), some (vI l2), some (vI l3), some (vI l4), some (vI l5), none] [] μ r μ' := by
  intro n
  induction n with
  | zero => intro l3 l4 l5 μ h; rw [X10_pillar_L33] at h; cases h
  | succ n ih =>
    intro l3 l4 l5 μ h
    rw [X10_pillar_L33] at h
    refine V_iload (q := 35) dX10_pillar_33 rfl rfl ?_
    refine V_bipush (q := 37) dX10_pillar_35 rfl rfl rfl ?_
    refine V_icmpge (q := 117) (q2 := 40) dX10_pillar_37 (by decide) rfl (fun hc13 => ?_) (fun hc13 => ?_)
    · have h := ifT hc13 h
      exact V_weak (hk_117 _ _ _ h) (sb_n (sb_n (sb_s rfl (sb_s rfl (sb_s rfl (sb_n (sb_n sb_0)))))))
    · have h := ifF hc13 h
      refine V_iload (q := 42) dX10_pillar_40 rfl rfl ?_
      refine V_ldc (q := 44) (n := -1000000) dX10_pillar_42 (by unfold rI; omega) kc_X10_226 rfl ?_
      refine V_icmpeq (q := 117) (q2 := 47) dX10_pillar_44 (by decide) rfl (fun hc14 => ?_) (fun hc14 => ?_)
      · have h := ifT hc14 h
        exact V_weak (hk_117 _ _ _ h) (sb_n (sb_n (sb_s rfl (sb_s rfl (sb_s rfl (sb_n (sb_n sb_0)))))))
      · have h := ifF hc14 h
        refine V_aload_n (q := 48) dX10_pillar_47 rfl rfl rfl ?_
        refine V_getO (q := 51) (t := 13) fl_X10_44 rfl rfl rfl rfl dX10_pillar_48 rfl ?_
        refine V_aload_n (q := 52) dX10_pillar_51 rfl rfl rfl ?_
        refine V_getO (q := 55) (t := 5) fl_X10_37 rfl rfl rfl rfl dX10_pillar_52 rfl ?_
        obtain ⟨v15, μ16, hc17, h⟩ := bd_i h
        refine V_cV0 (q := 58) (kX0_copy (d - 1) (by omega) rfl rfl hc17) (by omega) mv_X10_208 rfl rfl rfl rfl rfl rfl dX10_pillar_55 rfl ?_
        refine V_aload_n (q := 59) dX10_pillar_58 rfl rfl rfl ?_
        refine V_getO (q := 62) (t := 13) fl_X10_44 rfl rfl rfl rfl dX10_pillar_59 rfl ?_
        refine V_iload (q := 64) dX10_pillar_62 rfl rfl ?_
        obtain ⟨v18, μ19, hc20, h⟩ := bd_i h
        refine V_cV1 (q := 67) (v := vI v18) (kX0_putPost (d - 1) (by omega) rfl hc20) (by omega) mv_X10_347 rfl rfl rfl rfl rfl rfl dX10_pillar_64 rfl ?_
        refine V_ifne (q := 73) (q2 := 70) dX10_pillar_67 (by decide) rfl (fun hc21 => ?_) (fun hc21 => ?_)
        · have h := ifF hc21 h
          refine V_aload_n (q := 74) dX10_pillar_73 rfl rfl rfl ?_
          refine V_iload_n (q := 75) dX10_pillar_74 rfl rfl rfl ?_
          obtain ⟨v22, μ23, hc24, h⟩ := bd_i h
          refine V_cV1 (q := 78) (v := vI v22) (kX10_leastInTrial (d - 1) (by omega) hc24) (by omega) mv_X10_334 rfl rfl rfl rfl rfl rfl dX10_pillar_75 rfl ?_
          refine V_istore (q := 80) dX10_pillar_78 (Nat.le_of_ble_eq_true rfl) trivial rfl ?_
          refine V_iload (q := 82) dX10_pillar_80 rfl rfl ?_
          refine V_iconst (q := 83) dX10_pillar_82 rfl rfl ?_
          refine V_icmpeq (q := 93) (q2 := 86) dX10_pillar_83 (by decide) rfl (fun hc25 => ?_) (fun hc25 => ?_)
          · have h := ifT hc25 h
            exact V_weak (kX10_pillar_J93 d hd (fun _ _ _ _ h => ih h) h) (sb_s rfl (sb_s rfl (sb_s rfl (sb_n (sb_n (sb_s rfl (sb_s rfl sb_0)))))))
          · have h := ifF hc25 h
            refine V_iload (q := 88) dX10_pillar_86 rfl rfl ?_
            refine V_iload (q := 90) dX10_pillar_88 rfl rfl ?_
            refine V_icmple (q := 111) (q2 := 93) dX10_pillar_90 (by decide) rfl (fun hc27 => ?_) (fun hc27 => ?_)
            · have h := ifT hc27 h
              refine V_iinc (q := 114) dX10_pillar_111 rfl (Nat.le_of_ble_eq_true rfl) trivial rfl ?_
              refine V_goto (q := 33) dX10_pillar_114 (by decide) ?_
              exact V_weak (ih h) (sb_s rfl (sb_s rfl (sb_s rfl (sb_s rfl (sb_s rfl (sb_s rfl (sb_n sb_0)))))))
            · have h := ifF hc27 h
              exact V_weak (kX10_pillar_J93 d hd (fun _ _ _ _ h => ih h) h) (sb_s rfl (sb_s rfl (sb_s rfl (sb_n (sb_n (sb_s rfl (sb_s rfl sb_0)))))))
        · have h := ifT hc21 h
          refine V_goto (q := 111) dX10_pillar_70 (by decide) ?_
          refine V_iinc (q := 114) dX10_pillar_111 rfl (Nat.le_of_ble_eq_true rfl) trivial rfl ?_
          refine V_goto (q := 33) dX10_pillar_114 (by decide) ?_
          exact V_weak (ih h) (sb_s rfl (sb_s rfl (sb_s rfl (sb_s rfl (sb_s rfl (sb_s rfl (sb_n sb_0)))))))
set_option maxHeartbeats 4000000 in
set_option maxRecDepth 100000 in
theorem kX10_pillar (d : Nat) (hd : 272 ≤ d) {l1 : Int} {l2 : Int} {μ : Mm} {r : Int} {μ' : Mm} (h : X10_pillar l1 l2 μ = some (r, μ')) : CC d mX10_pillar [vR 0, vI l1, vI l2] μ r μ' := by
  unfold X10_pillar at h
  refine V_enter (by decide) (Nat.le_of_ble_eq_true rfl) ?_
  show VV d mX10_pillar 0 [some (vR 0), some (vI l1), some (vI l2), none, none, none, none] [] μ r μ'
  refine V_iload_n (q := 1) dX10_pillar_0 rfl rfl rfl ?_
  obtain ⟨v1, μ2, hc3, h⟩ := bd_i h
  refine V_cS1 (q := 4) (v := vI v1) (kX10_isHalf (d - 1) (by omega) hc3) (by omega) mv_X10_275 rfl rfl rfl rfl dX10_pillar_1 rfl ?_
  refine V_ifeq (q := 23) (q2 := 7) dX10_pillar_4 (by decide) rfl (fun hc4 => ?_) (fun hc4 => ?_)
  · have h := ifT hc4 h
    refine V_iconst (q := 24) dX10_pillar_23 rfl rfl ?_
    exact V_iret rfl h dX10_pillar_24
  · have h := ifF hc4 h
    refine V_aload_n (q := 8) dX10_pillar_7 rfl rfl rfl ?_
    refine V_iload_n (q := 9) dX10_pillar_8 rfl rfl rfl ?_
    obtain ⟨v5, μ6, hc7, h⟩ := bd_i h
    refine V_cV1 (q := 12) (v := vI v5) (kX10_lay (d - 1) (by omega) hc7) (by omega) mv_X10_288 rfl rfl rfl rfl rfl rfl dX10_pillar_9 rfl ?_
    refine V_ifeq (q := 23) (q2 := 15) dX10_pillar_12 (by decide) rfl (fun hc8 => ?_) (fun hc8 => ?_)
    · have h := ifT hc8 h
      refine V_iconst (q := 24) dX10_pillar_23 rfl rfl ?_
      exact V_iret rfl h dX10_pillar_24
    · have h := ifF hc8 h
      refine V_aload_n (q := 16) dX10_pillar_15 rfl rfl rfl ?_
      obtain ⟨v9, μ10, hc11, h⟩ := bd_i h
      refine V_cV1 (q := 19) (v := vI v9) (kX10_leastLates (d - 1) (by omega) hc11) (by omega) mv_X10_344 rfl rfl rfl rfl rfl rfl dX10_pillar_16 rfl ?_
      refine V_iconst (q := 20) dX10_pillar_19 rfl rfl ?_
      refine V_icmpne (q := 25) (q2 := 23) dX10_pillar_20 (by decide) rfl (fun hc12 => ?_) (fun hc12 => ?_)
      · have h := ifF hc12 h
        refine V_iconst (q := 26) dX10_pillar_25 rfl rfl ?_
        refine V_istore_n (q := 27) dX10_pillar_26 rfl (Nat.le_of_ble_eq_true rfl) trivial rfl ?_
        refine V_iconst (q := 28) dX10_pillar_27 rfl rfl ?_
        refine V_istore (q := 30) dX10_pillar_28 (Nat.le_of_ble_eq_true rfl) trivial rfl ?_
        refine V_iconst (q := 31) dX10_pillar_30 rfl rfl ?_
        refine V_istore (q := 33) dX10_pillar_31 (Nat.le_of_ble_eq_true rfl) trivial rfl ?_
        refine V_weak (kX10_pillar_L33 d hd (fun v28 v29 μ30 h => ?_) FU h) (sb_s rfl (sb_s rfl (sb_s rfl (sb_s rfl (sb_s rfl (sb_s rfl (sb_n sb_0)))))))
        refine V_iload_n (q := 118) dX10_pillar_117 rfl rfl rfl ?_
        refine V_ifne (q := 125) (q2 := 121) dX10_pillar_118 (by decide) rfl (fun hc31 => ?_) (fun hc31 => ?_)
        · have h := ifF hc31 h
          refine V_iload (q := 127) dX10_pillar_125 rfl rfl ?_
          exact V_iret rfl h dX10_pillar_127
        · have h := ifT hc31 h
          refine V_iload_n (q := 122) dX10_pillar_121 rfl rfl rfl ?_
          refine V_goto (q := 127) dX10_pillar_122 (by decide) ?_
          exact V_iret rfl h dX10_pillar_127
      · have h := ifT hc12 h
        refine V_iconst (q := 24) dX10_pillar_23 rfl rfl ?_
        exact V_iret rfl h dX10_pillar_24
abbrev mX10_urgent : Mth := (yX10_urgent, cX10_urgent, 5, some .int)
set_option maxRecDepth 100000 in
theorem mi_X10_urgent : Cond.instanceMethod yX10_urgent ∈ tG ∧ Cond.selects yX10_urgent.cls yX10_urgent yX10_urgent ∈ tG ∧ Cond.initialized yX10_urgent.cls ∈ tG ∧ Cond.code yX10_urgent cX10_urgent 5 (some .int) ∈ tG ∧ (yX10_urgent.cls ≠ "java/lang/invoke/MethodHandle" ∧ yX10_urgent.cls ≠ "java/lang/invoke/VarHandle" ∧ (parseMethodDescriptor yX10_urgent.desc).map (fun d => d.parameters.length) = some 1) ∧ 5 ≤ 60 := ⟨(tG_of (tb4 (List.mem_of_getElem? (i := 184) rfl)) (by decide +kernel)), (tG_of (tb4 (List.mem_of_getElem? (i := 185) rfl)) (by decide +kernel)), (tG_of (tb1 (List.mem_of_getElem? (i := 1) rfl)) (by decide +kernel)), (tG_of (tb4 (List.mem_of_getElem? (i := 186) rfl)) (by decide +kernel)), ⟨by decide, by decide, by decide +kernel⟩, by decide⟩
theorem dX10_urgent_0 : decode cX10_urgent 0 = .ok (.aload_n 0, 1) := dc_42 (byA eNcX10_urgent (p := 0) (v := 42) (by decide +kernel))
theorem dX10_urgent_1 : decode cX10_urgent 1 = .ok (.iload_n 1, 1) := dc_27 (byA eNcX10_urgent (p := 1) (v := 27) (by decide +kernel))
theorem dX10_urgent_2 : decode cX10_urgent 2 = .ok (.invokevirtual 288, 3) := dc_182 (byA eNcX10_urgent (p := 2) (v := 182) (by decide +kernel)) (byA eNcX10_urgent (p := 3) (v := 1) (by decide +kernel)) (byA eNcX10_urgent (p := 4) (v := 32) (by decide +kernel)) rfl
theorem dX10_urgent_5 : decode cX10_urgent 5 = .ok (.ifCond .ne 5, 3) := dc_154 (byA eNcX10_urgent (p := 5) (v := 154) (by decide +kernel)) (byA eNcX10_urgent (p := 6) (v := 0) (by decide +kernel)) (byA eNcX10_urgent (p := 7) (v := 5) (by decide +kernel)) (by decide +kernel)
theorem dX10_urgent_8 : decode cX10_urgent 8 = .ok (.iconst (-1), 1) := dc_2 (byA eNcX10_urgent (p := 8) (v := 2) (by decide +kernel))
theorem dX10_urgent_9 : decode cX10_urgent 9 = .ok (.ireturn, 1) := dc_172 (byA eNcX10_urgent (p := 9) (v := 172) (by decide +kernel))
theorem dX10_urgent_10 : decode cX10_urgent 10 = .ok (.aload_n 0, 1) := dc_42 (byA eNcX10_urgent (p := 10) (v := 42) (by decide +kernel))
theorem dX10_urgent_11 : decode cX10_urgent 11 = .ok (.invokevirtual 344, 3) := dc_182 (byA eNcX10_urgent (p := 11) (v := 182) (by decide +kernel)) (byA eNcX10_urgent (p := 12) (v := 1) (by decide +kernel)) (byA eNcX10_urgent (p := 13) (v := 88) (by decide +kernel)) rfl
theorem dX10_urgent_14 : decode cX10_urgent 14 = .ok (.istore_n 2, 1) := dc_61 (byA eNcX10_urgent (p := 14) (v := 61) (by decide +kernel))
theorem dX10_urgent_15 : decode cX10_urgent 15 = .ok (.iload_n 2, 1) := dc_28 (byA eNcX10_urgent (p := 15) (v := 28) (by decide +kernel))
theorem dX10_urgent_16 : decode cX10_urgent 16 = .ok (.iconst (-1), 1) := dc_2 (byA eNcX10_urgent (p := 16) (v := 2) (by decide +kernel))
theorem dX10_urgent_17 : decode cX10_urgent 17 = .ok (.if_icmp .ne 5, 3) := dc_160 (byA eNcX10_urgent (p := 17) (v := 160) (by decide +kernel)) (byA eNcX10_urgent (p := 18) (v := 0) (by decide +kernel)) (byA eNcX10_urgent (p := 19) (v := 5) (by decide +kernel)) (by decide +kernel)
theorem dX10_urgent_20 : decode cX10_urgent 20 = .ok (.iconst (-1), 1) := dc_2 (byA eNcX10_urgent (p := 20) (v := 2) (by decide +kernel))
theorem dX10_urgent_21 : decode cX10_urgent 21 = .ok (.ireturn, 1) := dc_172 (byA eNcX10_urgent (p := 21) (v := 172) (by decide +kernel))
theorem dX10_urgent_22 : decode cX10_urgent 22 = .ok (.iconst 0, 1) := dc_3 (byA eNcX10_urgent (p := 22) (v := 3) (by decide +kernel))
theorem dX10_urgent_23 : decode cX10_urgent 23 = .ok (.istore_n 3, 1) := dc_62 (byA eNcX10_urgent (p := 23) (v := 62) (by decide +kernel))
theorem dX10_urgent_24 : decode cX10_urgent 24 = .ok (.iconst 0, 1) := dc_3 (byA eNcX10_urgent (p := 24) (v := 3) (by decide +kernel))
theorem dX10_urgent_25 : decode cX10_urgent 25 = .ok (.istore 4, 2) := dc_54 (byA eNcX10_urgent (p := 25) (v := 54) (by decide +kernel)) (byA eNcX10_urgent (p := 26) (v := 4) (by decide +kernel))
theorem dX10_urgent_27 : decode cX10_urgent 27 = .ok (.iload 4, 2) := dc_21 (byA eNcX10_urgent (p := 27) (v := 21) (by decide +kernel)) (byA eNcX10_urgent (p := 28) (v := 4) (by decide +kernel))
theorem dX10_urgent_29 : decode cX10_urgent 29 = .ok (.aload_n 0, 1) := dc_42 (byA eNcX10_urgent (p := 29) (v := 42) (by decide +kernel))
theorem dX10_urgent_30 : decode cX10_urgent 30 = .ok (.getfield 74, 3) := dc_180 (byA eNcX10_urgent (p := 30) (v := 180) (by decide +kernel)) (byA eNcX10_urgent (p := 31) (v := 0) (by decide +kernel)) (byA eNcX10_urgent (p := 32) (v := 74) (by decide +kernel)) rfl
theorem dX10_urgent_33 : decode cX10_urgent 33 = .ok (.getfield 264, 3) := dc_180 (byA eNcX10_urgent (p := 33) (v := 180) (by decide +kernel)) (byA eNcX10_urgent (p := 34) (v := 1) (by decide +kernel)) (byA eNcX10_urgent (p := 35) (v := 8) (by decide +kernel)) rfl
theorem dX10_urgent_36 : decode cX10_urgent 36 = .ok (.if_icmp .ge 52, 3) := dc_162 (byA eNcX10_urgent (p := 36) (v := 162) (by decide +kernel)) (byA eNcX10_urgent (p := 37) (v := 0) (by decide +kernel)) (byA eNcX10_urgent (p := 38) (v := 52) (by decide +kernel)) (by decide +kernel)
theorem dX10_urgent_39 : decode cX10_urgent 39 = .ok (.aload_n 0, 1) := dc_42 (byA eNcX10_urgent (p := 39) (v := 42) (by decide +kernel))
theorem dX10_urgent_40 : decode cX10_urgent 40 = .ok (.getfield 74, 3) := dc_180 (byA eNcX10_urgent (p := 40) (v := 180) (by decide +kernel)) (byA eNcX10_urgent (p := 41) (v := 0) (by decide +kernel)) (byA eNcX10_urgent (p := 42) (v := 74) (by decide +kernel)) rfl
theorem dX10_urgent_43 : decode cX10_urgent 43 = .ok (.getfield 235, 3) := dc_180 (byA eNcX10_urgent (p := 43) (v := 180) (by decide +kernel)) (byA eNcX10_urgent (p := 44) (v := 0) (by decide +kernel)) (byA eNcX10_urgent (p := 45) (v := 235) (by decide +kernel)) rfl
theorem dX10_urgent_46 : decode cX10_urgent 46 = .ok (.iload 4, 2) := dc_21 (byA eNcX10_urgent (p := 46) (v := 21) (by decide +kernel)) (byA eNcX10_urgent (p := 47) (v := 4) (by decide +kernel))
theorem dX10_urgent_48 : decode cX10_urgent 48 = .ok (.dup2, 1) := dc_92 (byA eNcX10_urgent (p := 48) (v := 92) (by decide +kernel))
theorem dX10_urgent_49 : decode cX10_urgent 49 = .ok (.iaload, 1) := dc_46 (byA eNcX10_urgent (p := 49) (v := 46) (by decide +kernel))
theorem dX10_urgent_50 : decode cX10_urgent 50 = .ok (.iconst 1, 1) := dc_4 (byA eNcX10_urgent (p := 50) (v := 4) (by decide +kernel))
theorem dX10_urgent_51 : decode cX10_urgent 51 = .ok (.iadd, 1) := dc_96 (byA eNcX10_urgent (p := 51) (v := 96) (by decide +kernel))
theorem dX10_urgent_52 : decode cX10_urgent 52 = .ok (.iastore, 1) := dc_79 (byA eNcX10_urgent (p := 52) (v := 79) (by decide +kernel))
theorem dX10_urgent_53 : decode cX10_urgent 53 = .ok (.aload_n 0, 1) := dc_42 (byA eNcX10_urgent (p := 53) (v := 42) (by decide +kernel))
theorem dX10_urgent_54 : decode cX10_urgent 54 = .ok (.invokevirtual 344, 3) := dc_182 (byA eNcX10_urgent (p := 54) (v := 182) (by decide +kernel)) (byA eNcX10_urgent (p := 55) (v := 1) (by decide +kernel)) (byA eNcX10_urgent (p := 56) (v := 88) (by decide +kernel)) rfl
theorem dX10_urgent_57 : decode cX10_urgent 57 = .ok (.iload_n 2, 1) := dc_28 (byA eNcX10_urgent (p := 57) (v := 28) (by decide +kernel))
theorem dX10_urgent_58 : decode cX10_urgent 58 = .ok (.if_icmp .ge 10, 3) := dc_162 (byA eNcX10_urgent (p := 58) (v := 162) (by decide +kernel)) (byA eNcX10_urgent (p := 59) (v := 0) (by decide +kernel)) (byA eNcX10_urgent (p := 60) (v := 10) (by decide +kernel)) (by decide +kernel)
theorem dX10_urgent_61 : decode cX10_urgent 61 = .ok (.iload_n 3, 1) := dc_29 (byA eNcX10_urgent (p := 61) (v := 29) (by decide +kernel))
theorem dX10_urgent_62 : decode cX10_urgent 62 = .ok (.iconst 1, 1) := dc_4 (byA eNcX10_urgent (p := 62) (v := 4) (by decide +kernel))
theorem dX10_urgent_63 : decode cX10_urgent 63 = .ok (.iload 4, 2) := dc_21 (byA eNcX10_urgent (p := 63) (v := 21) (by decide +kernel)) (byA eNcX10_urgent (p := 64) (v := 4) (by decide +kernel))
theorem dX10_urgent_65 : decode cX10_urgent 65 = .ok (.ishl, 1) := dc_120 (byA eNcX10_urgent (p := 65) (v := 120) (by decide +kernel))
theorem dX10_urgent_66 : decode cX10_urgent 66 = .ok (.ior, 1) := dc_128 (byA eNcX10_urgent (p := 66) (v := 128) (by decide +kernel))
theorem dX10_urgent_67 : decode cX10_urgent 67 = .ok (.istore_n 3, 1) := dc_62 (byA eNcX10_urgent (p := 67) (v := 62) (by decide +kernel))
theorem dX10_urgent_68 : decode cX10_urgent 68 = .ok (.aload_n 0, 1) := dc_42 (byA eNcX10_urgent (p := 68) (v := 42) (by decide +kernel))
theorem dX10_urgent_69 : decode cX10_urgent 69 = .ok (.getfield 74, 3) := dc_180 (byA eNcX10_urgent (p := 69) (v := 180) (by decide +kernel)) (byA eNcX10_urgent (p := 70) (v := 0) (by decide +kernel)) (byA eNcX10_urgent (p := 71) (v := 74) (by decide +kernel)) rfl
theorem dX10_urgent_72 : decode cX10_urgent 72 = .ok (.getfield 235, 3) := dc_180 (byA eNcX10_urgent (p := 72) (v := 180) (by decide +kernel)) (byA eNcX10_urgent (p := 73) (v := 0) (by decide +kernel)) (byA eNcX10_urgent (p := 74) (v := 235) (by decide +kernel)) rfl
theorem dX10_urgent_75 : decode cX10_urgent 75 = .ok (.iload 4, 2) := dc_21 (byA eNcX10_urgent (p := 75) (v := 21) (by decide +kernel)) (byA eNcX10_urgent (p := 76) (v := 4) (by decide +kernel))
theorem dX10_urgent_77 : decode cX10_urgent 77 = .ok (.dup2, 1) := dc_92 (byA eNcX10_urgent (p := 77) (v := 92) (by decide +kernel))
theorem dX10_urgent_78 : decode cX10_urgent 78 = .ok (.iaload, 1) := dc_46 (byA eNcX10_urgent (p := 78) (v := 46) (by decide +kernel))
theorem dX10_urgent_79 : decode cX10_urgent 79 = .ok (.iconst 1, 1) := dc_4 (byA eNcX10_urgent (p := 79) (v := 4) (by decide +kernel))
theorem dX10_urgent_80 : decode cX10_urgent 80 = .ok (.isub, 1) := dc_100 (byA eNcX10_urgent (p := 80) (v := 100) (by decide +kernel))
theorem dX10_urgent_81 : decode cX10_urgent 81 = .ok (.iastore, 1) := dc_79 (byA eNcX10_urgent (p := 81) (v := 79) (by decide +kernel))
theorem dX10_urgent_82 : decode cX10_urgent 82 = .ok (.iinc 4 1, 3) := dc_132 (byA eNcX10_urgent (p := 82) (v := 132) (by decide +kernel)) (byA eNcX10_urgent (p := 83) (v := 4) (by decide +kernel)) (byA eNcX10_urgent (p := 84) (v := 1) (by decide +kernel)) (by decide +kernel)
theorem dX10_urgent_85 : decode cX10_urgent 85 = .ok (.goto (-58), 3) := dc_167 (byA eNcX10_urgent (p := 85) (v := 167) (by decide +kernel)) (byA eNcX10_urgent (p := 86) (v := 255) (by decide +kernel)) (byA eNcX10_urgent (p := 87) (v := 198) (by decide +kernel)) (by decide +kernel)
theorem dX10_urgent_88 : decode cX10_urgent 88 = .ok (.iload_n 3, 1) := dc_29 (byA eNcX10_urgent (p := 88) (v := 29) (by decide +kernel))
theorem dX10_urgent_89 : decode cX10_urgent 89 = .ok (.ireturn, 1) := dc_172 (byA eNcX10_urgent (p := 89) (v := 172) (by decide +kernel))
def X10_urgent_J68 (k27 : Int → Int → Mm → Rs) (l2 : Int) (l3 : Int) (l4 : Int) (μ : Mm) : Rs := ldA μ 50 l4 fun v18 => stA μ 50 l4 (iS v18 1) fun μ20 => k27 l3 (iA l4 1) μ20
def X10_urgent_L27 (l2 : Int) : Nat → Int → Int → Mm → Rs
  | 0, _, _, _ => none
  | n + 1, l3, l4, μ => if (μ 48 5) ≤ l4 then (some (l3, μ)) else (ldA μ 50 l4 fun v10 => stA μ 50 l4 (iA v10 1) fun μ12 => bd (X10_leastLates μ12) fun v14 μ15 => if l2 ≤ v14 then (X10_urgent_J68 (fun w3 w4 μq => X10_urgent_L27 l2 n w3 w4 μq) l2 l3 l4 μ15) else (lt_ (bO l3 (bL 1 l4)) fun v22 => X10_urgent_J68 (fun w3 w4 μq => X10_urgent_L27 l2 n w3 w4 μq) l2 v22 l4 μ15))
def X10_urgent (l1 : Int) (μ : Mm) : Rs := bd (X10_lay l1 μ) fun v1 μ2 => if v1 = 0 then (some ((-1), μ2)) else (bd (X10_leastLates μ2) fun v5 μ6 => if v5 = (-1) then (some ((-1), μ6)) else (X10_urgent_L27 v5 FU 0 0 μ6))
set_option maxHeartbeats 4000000 in
set_option maxRecDepth 100000 in
theorem kX10_urgent_J68 (d : Nat) (hd : 272 ≤ d) {k27 : Int → Int → Mm → Rs} {l2 : Int} {l3 : Int} {l4 : Int} {μ : Mm} {r : Int} {μ' : Mm} (hk_27 : ∀ (v3 v4 : Int) (μ1 : Mm), k27 v3 v4 μ1 = some (r, μ') → VV d mX10_urgent 27 [some (vR 0), none, some (vI l2), some (vI v3), some (vI v4)] [] μ1 r μ') (h : X10_urgent_J68 k27 l2 l3 l4 μ = some (r, μ')) : VV d mX10_urgent 68 [some (vR 0), none, some (vI l2), some (vI l3), some (vI l4)] [] μ r μ' := by
  unfold X10_urgent_J68 at h
  refine V_aload_n (q := 69) dX10_urgent_68 rfl rfl rfl ?_
  refine V_getO (q := 72) (t := 48) fl_X10_74 rfl rfl rfl rfl dX10_urgent_69 rfl ?_
  refine V_getO (q := 75) (t := 50) fl_X10_235 rfl rfl rfl rfl dX10_urgent_72 rfl ?_
  refine V_iload (q := 77) dX10_urgent_75 rfl rfl ?_
  refine V_dup2 (q := 78) dX10_urgent_77 trivial trivial rfl ?_
  obtain ⟨hi19, h⟩ := ldA_i h
  refine V_iaload (q := 79) rfl hi19 dX10_urgent_78 rfl ?_
  refine V_iconst (q := 80) dX10_urgent_79 rfl rfl ?_
  refine V_isub (q := 81) dX10_urgent_80 rfl ?_
  obtain ⟨hi21, h⟩ := stA_i h
  refine V_iastore (q := 82) rfl hi21 dX10_urgent_81 rfl ?_
  refine V_iinc (q := 85) dX10_urgent_82 rfl (Nat.le_of_ble_eq_true rfl) trivial rfl ?_
  refine V_goto (q := 27) dX10_urgent_85 (by decide) ?_
  exact V_weak (hk_27 _ _ _ h) (sb_s rfl (sb_n (sb_s rfl (sb_s rfl (sb_s rfl sb_0)))))
set_option maxHeartbeats 4000000 in
set_option maxRecDepth 100000 in
theorem kX10_urgent_L27 (d : Nat) (hd : 272 ≤ d) {l2 : Int} {r : Int} {μ' : Mm} : ∀ (n : Nat) {l3 l4 : Int} {μ : Mm}, X10_urgent_L27 l2 n l3 l4 μ = some (r, μ') → VV d mX10_urgent 27 [some (vR 0), none, some (vI l2), some (vI l3), some (vI l4)] [] μ r μ' := by
  intro n
  induction n with
  | zero => intro l3 l4 μ h; rw [X10_urgent_L27] at h; cases h
  | succ n ih =>
    intro l3 l4 μ h
    rw [X10_urgent_L27] at h
    refine V_iload (q := 29) dX10_urgent_27 rfl rfl ?_
    refine V_aload_n (q := 30) dX10_urgent_29 rfl rfl rfl ?_
    refine V_getO (q := 33) (t := 48) fl_X10_74 rfl rfl rfl rfl dX10_urgent_30 rfl ?_
    refine V_getI (q := 36) fl_X10_264 rfl rfl rfl dX10_urgent_33 rfl ?_
    refine V_icmpge (q := 88) (q2 := 39) dX10_urgent_36 (by decide) rfl (fun hc9 => ?_) (fun hc9 => ?_)
    · have h := ifT hc9 h
      refine V_iload_n (q := 89) dX10_urgent_88 rfl rfl rfl ?_
      exact V_iret rfl h dX10_urgent_89
    · have h := ifF hc9 h
      refine V_aload_n (q := 40) dX10_urgent_39 rfl rfl rfl ?_
      refine V_getO (q := 43) (t := 48) fl_X10_74 rfl rfl rfl rfl dX10_urgent_40 rfl ?_
      refine V_getO (q := 46) (t := 50) fl_X10_235 rfl rfl rfl rfl dX10_urgent_43 rfl ?_
      refine V_iload (q := 48) dX10_urgent_46 rfl rfl ?_
      refine V_dup2 (q := 49) dX10_urgent_48 trivial trivial rfl ?_
      obtain ⟨hi11, h⟩ := ldA_i h
      refine V_iaload (q := 50) rfl hi11 dX10_urgent_49 rfl ?_
      refine V_iconst (q := 51) dX10_urgent_50 rfl rfl ?_
      refine V_iadd (q := 52) dX10_urgent_51 rfl ?_
      obtain ⟨hi13, h⟩ := stA_i h
      refine V_iastore (q := 53) rfl hi13 dX10_urgent_52 rfl ?_
      refine V_aload_n (q := 54) dX10_urgent_53 rfl rfl rfl ?_
      obtain ⟨v14, μ15, hc16, h⟩ := bd_i h
      refine V_cV1 (q := 57) (v := vI v14) (kX10_leastLates (d - 1) (by omega) hc16) (by omega) mv_X10_344 rfl rfl rfl rfl rfl rfl dX10_urgent_54 rfl ?_
      refine V_iload_n (q := 58) dX10_urgent_57 rfl rfl rfl ?_
      refine V_icmpge (q := 68) (q2 := 61) dX10_urgent_58 (by decide) rfl (fun hc17 => ?_) (fun hc17 => ?_)
      · have h := ifT hc17 h
        exact V_weak (kX10_urgent_J68 d hd (fun _ _ _ h => ih h) h) (sb_s rfl (sb_n (sb_s rfl (sb_s rfl (sb_s rfl sb_0)))))
      · have h := ifF hc17 h
        refine V_iload_n (q := 62) dX10_urgent_61 rfl rfl rfl ?_
        refine V_iconst (q := 63) dX10_urgent_62 rfl rfl ?_
        refine V_iload (q := 65) dX10_urgent_63 rfl rfl ?_
        refine V_ishl (q := 66) dX10_urgent_65 rfl ?_
        refine V_ior (q := 67) dX10_urgent_66 rfl ?_
        have h := lt_i h
        refine V_istore_n (q := 68) dX10_urgent_67 rfl (Nat.le_of_ble_eq_true rfl) trivial rfl ?_
        exact V_weak (kX10_urgent_J68 d hd (fun _ _ _ h => ih h) h) (sb_s rfl (sb_n (sb_s rfl (sb_s rfl (sb_s rfl sb_0)))))
set_option maxHeartbeats 4000000 in
set_option maxRecDepth 100000 in
theorem kX10_urgent (d : Nat) (hd : 272 ≤ d) {l1 : Int} {μ : Mm} {r : Int} {μ' : Mm} (h : X10_urgent l1 μ = some (r, μ')) : CC d mX10_urgent [vR 0, vI l1] μ r μ' := by
  unfold X10_urgent at h
  refine V_enter (by decide) (Nat.le_of_ble_eq_true rfl) ?_
  show VV d mX10_urgent 0 [some (vR 0), some (vI l1), none, none, none] [] μ r μ'
  refine V_aload_n (q := 1) dX10_urgent_0 rfl rfl rfl ?_
  refine V_iload_n (q := 2) dX10_urgent_1 rfl rfl rfl ?_
  obtain ⟨v1, μ2, hc3, h⟩ := bd_i h
  refine V_cV1 (q := 5) (v := vI v1) (kX10_lay (d - 1) (by omega) hc3) (by omega) mv_X10_288 rfl rfl rfl rfl rfl rfl dX10_urgent_2 rfl ?_
  refine V_ifne (q := 10) (q2 := 8) dX10_urgent_5 (by decide) rfl (fun hc4 => ?_) (fun hc4 => ?_)
  · have h := ifF hc4 h
    refine V_aload_n (q := 11) dX10_urgent_10 rfl rfl rfl ?_
    obtain ⟨v5, μ6, hc7, h⟩ := bd_i h
    refine V_cV1 (q := 14) (v := vI v5) (kX10_leastLates (d - 1) (by omega) hc7) (by omega) mv_X10_344 rfl rfl rfl rfl rfl rfl dX10_urgent_11 rfl ?_
    refine V_istore_n (q := 15) dX10_urgent_14 rfl (Nat.le_of_ble_eq_true rfl) trivial rfl ?_
    refine V_iload_n (q := 16) dX10_urgent_15 rfl rfl rfl ?_
    refine V_iconst (q := 17) dX10_urgent_16 rfl rfl ?_
    refine V_icmpne (q := 22) (q2 := 20) dX10_urgent_17 (by decide) rfl (fun hc8 => ?_) (fun hc8 => ?_)
    · have h := ifF hc8 h
      refine V_iconst (q := 23) dX10_urgent_22 rfl rfl ?_
      refine V_istore_n (q := 24) dX10_urgent_23 rfl (Nat.le_of_ble_eq_true rfl) trivial rfl ?_
      refine V_iconst (q := 25) dX10_urgent_24 rfl rfl ?_
      refine V_istore (q := 27) dX10_urgent_25 (Nat.le_of_ble_eq_true rfl) trivial rfl ?_
      exact V_weak (kX10_urgent_L27 d hd  FU h) (sb_s rfl (sb_n (sb_s rfl (sb_s rfl (sb_s rfl sb_0)))))
    · have h := ifT hc8 h
      refine V_iconst (q := 21) dX10_urgent_20 rfl rfl ?_
      exact V_iret rfl h dX10_urgent_21
  · have h := ifT hc4 h
    refine V_iconst (q := 9) dX10_urgent_8 rfl rfl ?_
    exact V_iret rfl h dX10_urgent_9
abbrev mX10_skip : Mth := (yX10_skip, cX10_skip, 7, some .int)
set_option maxRecDepth 100000 in
theorem mi_X10_skip : Cond.instanceMethod yX10_skip ∈ tG ∧ Cond.selects yX10_skip.cls yX10_skip yX10_skip ∈ tG ∧ Cond.initialized yX10_skip.cls ∈ tG ∧ Cond.code yX10_skip cX10_skip 7 (some .int) ∈ tG ∧ (yX10_skip.cls ≠ "java/lang/invoke/MethodHandle" ∧ yX10_skip.cls ≠ "java/lang/invoke/VarHandle" ∧ (parseMethodDescriptor yX10_skip.desc).map (fun d => d.parameters.length) = some 3) ∧ 7 ≤ 60 := ⟨(tG_of (tb4 (List.mem_of_getElem? (i := 188) rfl)) (by decide +kernel)), (tG_of (tb4 (List.mem_of_getElem? (i := 189) rfl)) (by decide +kernel)), (tG_of (tb1 (List.mem_of_getElem? (i := 1) rfl)) (by decide +kernel)), (tG_of (tb4 (List.mem_of_getElem? (i := 190) rfl)) (by decide +kernel)), ⟨by decide, by decide, by decide +kernel⟩, by decide⟩
theorem dX10_skip_0 : decode cX10_skip 0 = .ok (.aload_n 0, 1) := dc_42 (byA eNcX10_skip (p := 0) (v := 42) (by decide +kernel))
theorem dX10_skip_1 : decode cX10_skip 1 = .ok (.iload_n 1, 1) := dc_27 (byA eNcX10_skip (p := 1) (v := 27) (by decide +kernel))
theorem dX10_skip_2 : decode cX10_skip 2 = .ok (.invokevirtual 288, 3) := dc_182 (byA eNcX10_skip (p := 2) (v := 182) (by decide +kernel)) (byA eNcX10_skip (p := 3) (v := 1) (by decide +kernel)) (byA eNcX10_skip (p := 4) (v := 32) (by decide +kernel)) rfl
theorem dX10_skip_5 : decode cX10_skip 5 = .ok (.ifCond .eq 23, 3) := dc_153 (byA eNcX10_skip (p := 5) (v := 153) (by decide +kernel)) (byA eNcX10_skip (p := 6) (v := 0) (by decide +kernel)) (byA eNcX10_skip (p := 7) (v := 23) (by decide +kernel)) (by decide +kernel)
theorem dX10_skip_8 : decode cX10_skip 8 = .ok (.iload_n 2, 1) := dc_28 (byA eNcX10_skip (p := 8) (v := 28) (by decide +kernel))
theorem dX10_skip_9 : decode cX10_skip 9 = .ok (.ifCond .le 19, 3) := dc_158 (byA eNcX10_skip (p := 9) (v := 158) (by decide +kernel)) (byA eNcX10_skip (p := 10) (v := 0) (by decide +kernel)) (byA eNcX10_skip (p := 11) (v := 19) (by decide +kernel)) (by decide +kernel)
theorem dX10_skip_12 : decode cX10_skip 12 = .ok (.iload_n 3, 1) := dc_29 (byA eNcX10_skip (p := 12) (v := 29) (by decide +kernel))
theorem dX10_skip_13 : decode cX10_skip 13 = .ok (.iload_n 2, 1) := dc_28 (byA eNcX10_skip (p := 13) (v := 28) (by decide +kernel))
theorem dX10_skip_14 : decode cX10_skip 14 = .ok (.if_icmp .lt 14, 3) := dc_161 (byA eNcX10_skip (p := 14) (v := 161) (by decide +kernel)) (byA eNcX10_skip (p := 15) (v := 0) (by decide +kernel)) (byA eNcX10_skip (p := 16) (v := 14) (by decide +kernel)) (by decide +kernel)
theorem dX10_skip_17 : decode cX10_skip 17 = .ok (.iload_n 3, 1) := dc_29 (byA eNcX10_skip (p := 17) (v := 29) (by decide +kernel))
theorem dX10_skip_18 : decode cX10_skip 18 = .ok (.aload_n 0, 1) := dc_42 (byA eNcX10_skip (p := 18) (v := 42) (by decide +kernel))
theorem dX10_skip_19 : decode cX10_skip 19 = .ok (.getfield 74, 3) := dc_180 (byA eNcX10_skip (p := 19) (v := 180) (by decide +kernel)) (byA eNcX10_skip (p := 20) (v := 0) (by decide +kernel)) (byA eNcX10_skip (p := 21) (v := 74) (by decide +kernel)) rfl
theorem dX10_skip_22 : decode cX10_skip 22 = .ok (.getfield 264, 3) := dc_180 (byA eNcX10_skip (p := 22) (v := 180) (by decide +kernel)) (byA eNcX10_skip (p := 23) (v := 1) (by decide +kernel)) (byA eNcX10_skip (p := 24) (v := 8) (by decide +kernel)) rfl
theorem dX10_skip_25 : decode cX10_skip 25 = .ok (.if_icmp .lt 5, 3) := dc_161 (byA eNcX10_skip (p := 25) (v := 161) (by decide +kernel)) (byA eNcX10_skip (p := 26) (v := 0) (by decide +kernel)) (byA eNcX10_skip (p := 27) (v := 5) (by decide +kernel)) (by decide +kernel)
theorem dX10_skip_28 : decode cX10_skip 28 = .ok (.iconst (-1), 1) := dc_2 (byA eNcX10_skip (p := 28) (v := 2) (by decide +kernel))
theorem dX10_skip_29 : decode cX10_skip 29 = .ok (.ireturn, 1) := dc_172 (byA eNcX10_skip (p := 29) (v := 172) (by decide +kernel))
theorem dX10_skip_30 : decode cX10_skip 30 = .ok (.aload_n 0, 1) := dc_42 (byA eNcX10_skip (p := 30) (v := 42) (by decide +kernel))
theorem dX10_skip_31 : decode cX10_skip 31 = .ok (.getfield 74, 3) := dc_180 (byA eNcX10_skip (p := 31) (v := 180) (by decide +kernel)) (byA eNcX10_skip (p := 32) (v := 0) (by decide +kernel)) (byA eNcX10_skip (p := 33) (v := 74) (by decide +kernel)) rfl
theorem dX10_skip_34 : decode cX10_skip 34 = .ok (.getfield 235, 3) := dc_180 (byA eNcX10_skip (p := 34) (v := 180) (by decide +kernel)) (byA eNcX10_skip (p := 35) (v := 0) (by decide +kernel)) (byA eNcX10_skip (p := 36) (v := 235) (by decide +kernel)) rfl
theorem dX10_skip_37 : decode cX10_skip 37 = .ok (.iload_n 3, 1) := dc_29 (byA eNcX10_skip (p := 37) (v := 29) (by decide +kernel))
theorem dX10_skip_38 : decode cX10_skip 38 = .ok (.iaload, 1) := dc_46 (byA eNcX10_skip (p := 38) (v := 46) (by decide +kernel))
theorem dX10_skip_39 : decode cX10_skip 39 = .ok (.aload_n 0, 1) := dc_42 (byA eNcX10_skip (p := 39) (v := 42) (by decide +kernel))
theorem dX10_skip_40 : decode cX10_skip 40 = .ok (.getfield 74, 3) := dc_180 (byA eNcX10_skip (p := 40) (v := 180) (by decide +kernel)) (byA eNcX10_skip (p := 41) (v := 0) (by decide +kernel)) (byA eNcX10_skip (p := 42) (v := 74) (by decide +kernel)) rfl
theorem dX10_skip_43 : decode cX10_skip 43 = .ok (.getfield 235, 3) := dc_180 (byA eNcX10_skip (p := 43) (v := 180) (by decide +kernel)) (byA eNcX10_skip (p := 44) (v := 0) (by decide +kernel)) (byA eNcX10_skip (p := 45) (v := 235) (by decide +kernel)) rfl
theorem dX10_skip_46 : decode cX10_skip 46 = .ok (.iload_n 2, 1) := dc_28 (byA eNcX10_skip (p := 46) (v := 28) (by decide +kernel))
theorem dX10_skip_47 : decode cX10_skip 47 = .ok (.iconst 1, 1) := dc_4 (byA eNcX10_skip (p := 47) (v := 4) (by decide +kernel))
theorem dX10_skip_48 : decode cX10_skip 48 = .ok (.isub, 1) := dc_100 (byA eNcX10_skip (p := 48) (v := 100) (by decide +kernel))
theorem dX10_skip_49 : decode cX10_skip 49 = .ok (.iaload, 1) := dc_46 (byA eNcX10_skip (p := 49) (v := 46) (by decide +kernel))
theorem dX10_skip_50 : decode cX10_skip 50 = .ok (.isub, 1) := dc_100 (byA eNcX10_skip (p := 50) (v := 100) (by decide +kernel))
theorem dX10_skip_51 : decode cX10_skip 51 = .ok (.istore 4, 2) := dc_54 (byA eNcX10_skip (p := 51) (v := 54) (by decide +kernel)) (byA eNcX10_skip (p := 52) (v := 4) (by decide +kernel))
theorem dX10_skip_53 : decode cX10_skip 53 = .ok (.aload_n 0, 1) := dc_42 (byA eNcX10_skip (p := 53) (v := 42) (by decide +kernel))
theorem dX10_skip_54 : decode cX10_skip 54 = .ok (.getfield 74, 3) := dc_180 (byA eNcX10_skip (p := 54) (v := 180) (by decide +kernel)) (byA eNcX10_skip (p := 55) (v := 0) (by decide +kernel)) (byA eNcX10_skip (p := 56) (v := 74) (by decide +kernel)) rfl
theorem dX10_skip_57 : decode cX10_skip 57 = .ok (.invokevirtual 316, 3) := dc_182 (byA eNcX10_skip (p := 57) (v := 182) (by decide +kernel)) (byA eNcX10_skip (p := 58) (v := 1) (by decide +kernel)) (byA eNcX10_skip (p := 59) (v := 60) (by decide +kernel)) rfl
theorem dX10_skip_60 : decode cX10_skip 60 = .ok (.istore 5, 2) := dc_54 (byA eNcX10_skip (p := 60) (v := 54) (by decide +kernel)) (byA eNcX10_skip (p := 61) (v := 5) (by decide +kernel))
theorem dX10_skip_62 : decode cX10_skip 62 = .ok (.iload_n 2, 1) := dc_28 (byA eNcX10_skip (p := 62) (v := 28) (by decide +kernel))
theorem dX10_skip_63 : decode cX10_skip 63 = .ok (.istore 6, 2) := dc_54 (byA eNcX10_skip (p := 63) (v := 54) (by decide +kernel)) (byA eNcX10_skip (p := 64) (v := 6) (by decide +kernel))
theorem dX10_skip_65 : decode cX10_skip 65 = .ok (.iload 6, 2) := dc_21 (byA eNcX10_skip (p := 65) (v := 21) (by decide +kernel)) (byA eNcX10_skip (p := 66) (v := 6) (by decide +kernel))
theorem dX10_skip_67 : decode cX10_skip 67 = .ok (.aload_n 0, 1) := dc_42 (byA eNcX10_skip (p := 67) (v := 42) (by decide +kernel))
theorem dX10_skip_68 : decode cX10_skip 68 = .ok (.getfield 74, 3) := dc_180 (byA eNcX10_skip (p := 68) (v := 180) (by decide +kernel)) (byA eNcX10_skip (p := 69) (v := 0) (by decide +kernel)) (byA eNcX10_skip (p := 70) (v := 74) (by decide +kernel)) rfl
theorem dX10_skip_71 : decode cX10_skip 71 = .ok (.getfield 264, 3) := dc_180 (byA eNcX10_skip (p := 71) (v := 180) (by decide +kernel)) (byA eNcX10_skip (p := 72) (v := 1) (by decide +kernel)) (byA eNcX10_skip (p := 73) (v := 8) (by decide +kernel)) rfl
theorem dX10_skip_74 : decode cX10_skip 74 = .ok (.if_icmp .ge 44, 3) := dc_162 (byA eNcX10_skip (p := 74) (v := 162) (by decide +kernel)) (byA eNcX10_skip (p := 75) (v := 0) (by decide +kernel)) (byA eNcX10_skip (p := 76) (v := 44) (by decide +kernel)) (by decide +kernel)
theorem dX10_skip_77 : decode cX10_skip 77 = .ok (.iload 6, 2) := dc_21 (byA eNcX10_skip (p := 77) (v := 21) (by decide +kernel)) (byA eNcX10_skip (p := 78) (v := 6) (by decide +kernel))
theorem dX10_skip_79 : decode cX10_skip 79 = .ok (.iload_n 3, 1) := dc_29 (byA eNcX10_skip (p := 79) (v := 29) (by decide +kernel))
theorem dX10_skip_80 : decode cX10_skip 80 = .ok (.if_icmp .gt 17, 3) := dc_163 (byA eNcX10_skip (p := 80) (v := 163) (by decide +kernel)) (byA eNcX10_skip (p := 81) (v := 0) (by decide +kernel)) (byA eNcX10_skip (p := 82) (v := 17) (by decide +kernel)) (by decide +kernel)
theorem dX10_skip_83 : decode cX10_skip 83 = .ok (.iload 5, 2) := dc_21 (byA eNcX10_skip (p := 83) (v := 21) (by decide +kernel)) (byA eNcX10_skip (p := 84) (v := 5) (by decide +kernel))
theorem dX10_skip_85 : decode cX10_skip 85 = .ok (.iconst 1, 1) := dc_4 (byA eNcX10_skip (p := 85) (v := 4) (by decide +kernel))
theorem dX10_skip_86 : decode cX10_skip 86 = .ok (.iload 6, 2) := dc_21 (byA eNcX10_skip (p := 86) (v := 21) (by decide +kernel)) (byA eNcX10_skip (p := 87) (v := 6) (by decide +kernel))
theorem dX10_skip_88 : decode cX10_skip 88 = .ok (.ishl, 1) := dc_120 (byA eNcX10_skip (p := 88) (v := 120) (by decide +kernel))
theorem dX10_skip_89 : decode cX10_skip 89 = .ok (.iconst (-1), 1) := dc_2 (byA eNcX10_skip (p := 89) (v := 2) (by decide +kernel))
theorem dX10_skip_90 : decode cX10_skip 90 = .ok (.ixor, 1) := dc_130 (byA eNcX10_skip (p := 90) (v := 130) (by decide +kernel))
theorem dX10_skip_91 : decode cX10_skip 91 = .ok (.iand, 1) := dc_126 (byA eNcX10_skip (p := 91) (v := 126) (by decide +kernel))
theorem dX10_skip_92 : decode cX10_skip 92 = .ok (.istore 5, 2) := dc_54 (byA eNcX10_skip (p := 92) (v := 54) (by decide +kernel)) (byA eNcX10_skip (p := 93) (v := 5) (by decide +kernel))
theorem dX10_skip_94 : decode cX10_skip 94 = .ok (.goto 18, 3) := dc_167 (byA eNcX10_skip (p := 94) (v := 167) (by decide +kernel)) (byA eNcX10_skip (p := 95) (v := 0) (by decide +kernel)) (byA eNcX10_skip (p := 96) (v := 18) (by decide +kernel)) (by decide +kernel)
theorem dX10_skip_97 : decode cX10_skip 97 = .ok (.aload_n 0, 1) := dc_42 (byA eNcX10_skip (p := 97) (v := 42) (by decide +kernel))
theorem dX10_skip_98 : decode cX10_skip 98 = .ok (.getfield 74, 3) := dc_180 (byA eNcX10_skip (p := 98) (v := 180) (by decide +kernel)) (byA eNcX10_skip (p := 99) (v := 0) (by decide +kernel)) (byA eNcX10_skip (p := 100) (v := 74) (by decide +kernel)) rfl
theorem dX10_skip_101 : decode cX10_skip 101 = .ok (.getfield 235, 3) := dc_180 (byA eNcX10_skip (p := 101) (v := 180) (by decide +kernel)) (byA eNcX10_skip (p := 102) (v := 0) (by decide +kernel)) (byA eNcX10_skip (p := 103) (v := 235) (by decide +kernel)) rfl
theorem dX10_skip_104 : decode cX10_skip 104 = .ok (.iload 6, 2) := dc_21 (byA eNcX10_skip (p := 104) (v := 21) (by decide +kernel)) (byA eNcX10_skip (p := 105) (v := 6) (by decide +kernel))
theorem dX10_skip_106 : decode cX10_skip 106 = .ok (.dup2, 1) := dc_92 (byA eNcX10_skip (p := 106) (v := 92) (by decide +kernel))
theorem dX10_skip_107 : decode cX10_skip 107 = .ok (.iaload, 1) := dc_46 (byA eNcX10_skip (p := 107) (v := 46) (by decide +kernel))
theorem dX10_skip_108 : decode cX10_skip 108 = .ok (.iload 4, 2) := dc_21 (byA eNcX10_skip (p := 108) (v := 21) (by decide +kernel)) (byA eNcX10_skip (p := 109) (v := 4) (by decide +kernel))
theorem dX10_skip_110 : decode cX10_skip 110 = .ok (.isub, 1) := dc_100 (byA eNcX10_skip (p := 110) (v := 100) (by decide +kernel))
theorem dX10_skip_111 : decode cX10_skip 111 = .ok (.iastore, 1) := dc_79 (byA eNcX10_skip (p := 111) (v := 79) (by decide +kernel))
theorem dX10_skip_112 : decode cX10_skip 112 = .ok (.iinc 6 1, 3) := dc_132 (byA eNcX10_skip (p := 112) (v := 132) (by decide +kernel)) (byA eNcX10_skip (p := 113) (v := 6) (by decide +kernel)) (byA eNcX10_skip (p := 114) (v := 1) (by decide +kernel)) (by decide +kernel)
theorem dX10_skip_115 : decode cX10_skip 115 = .ok (.goto (-50), 3) := dc_167 (byA eNcX10_skip (p := 115) (v := 167) (by decide +kernel)) (byA eNcX10_skip (p := 116) (v := 255) (by decide +kernel)) (byA eNcX10_skip (p := 117) (v := 206) (by decide +kernel)) (by decide +kernel)
theorem dX10_skip_118 : decode cX10_skip 118 = .ok (.aload_n 0, 1) := dc_42 (byA eNcX10_skip (p := 118) (v := 42) (by decide +kernel))
theorem dX10_skip_119 : decode cX10_skip 119 = .ok (.iload 5, 2) := dc_21 (byA eNcX10_skip (p := 119) (v := 21) (by decide +kernel)) (byA eNcX10_skip (p := 120) (v := 5) (by decide +kernel))
theorem dX10_skip_121 : decode cX10_skip 121 = .ok (.invokevirtual 322, 3) := dc_182 (byA eNcX10_skip (p := 121) (v := 182) (by decide +kernel)) (byA eNcX10_skip (p := 122) (v := 1) (by decide +kernel)) (byA eNcX10_skip (p := 123) (v := 66) (by decide +kernel)) rfl
theorem dX10_skip_124 : decode cX10_skip 124 = .ok (.ireturn, 1) := dc_172 (byA eNcX10_skip (p := 124) (v := 172) (by decide +kernel))
def X10_skip_L65 (l3 : Int) (l4 : Int) (k118 : Int → Mm → Rs) : Nat → Int → Int → Mm → Rs
  | 0, _, _, _ => none
  | n + 1, l5, l6, μ => if (μ 48 5) ≤ l6 then (k118 l5 μ) else (if l3 < l6 then (ldA μ 50 l6 fun v17 => stA μ 50 l6 (iS v17 l4) fun μ19 => X10_skip_L65 l3 l4 k118 n l5 (iA l6 1) μ19) else (lt_ (bA l5 (bX (bL 1 l6) (-1))) fun v21 => X10_skip_L65 l3 l4 k118 n v21 (iA l6 1) μ))
def X10_skip (l1 : Int) (l2 : Int) (l3 : Int) (μ : Mm) : Rs := bd (X10_lay l1 μ) fun v1 μ2 => if v1 = 0 then (some ((-1), μ2)) else (if l2 ≤ 0 then (some ((-1), μ2)) else (if l3 < l2 then (some ((-1), μ2)) else (if l3 < (μ2 48 5) then (ldA μ2 50 l3 fun v8 => ldA μ2 50 (iS l2 1) fun v10 => bd (X1_allCues 48 μ2) fun v12 μ13 => X10_skip_L65 l3 (iS v8 v10) (fun v22 μ23 => bd (X10_latesByBook v22 μ23) fun v24 μ25 => some (v24, μ25)) FU v12 l2 μ13) else (some ((-1), μ2)))))
set_option maxHeartbeats 4000000 in
set_option maxRecDepth 100000 in
theorem kX10_skip_L65 (d : Nat) (hd : 272 ≤ d) {l3 : Int} {l4 : Int} {k118 : Int → Mm → Rs} {r : Int} {μ' : Mm} (hk_118 : ∀ (v5 : Int) (μ1 : Mm), k118 v5 μ1 = some (r, μ') → VV d mX10_skip 118 [some (vR 0), none, none, none, none, some (vI v5), none] [] μ1 r μ') : ∀ (n : Nat) {l5 l6 : Int} {μ : Mm}, X10_skip_L65 l3 l4 k118 n l5 l6 μ = some (r, μ') → VV d mX10_skip 65 [some (vR 0), none, none, some (vI l3), some (vI l4), some (vI l5), some (vI l6)] [] μ r μ' := by
  intro n
  induction n with
  | zero => intro l5 l6 μ h; rw [X10_skip_L65] at h; cases h
  | succ n ih =>
    intro l5 l6 μ h
    rw [X10_skip_L65] at h
    refine V_iload (q := 67) dX10_skip_65 rfl rfl ?_
    refine V_aload_n (q := 68) dX10_skip_67 rfl rfl rfl ?_
    refine V_getO (q := 71) (t := 48) fl_X10_74 rfl rfl rfl rfl dX10_skip_68 rfl ?_
    refine V_getI (q := 74) fl_X10_264 rfl rfl rfl dX10_skip_71 rfl ?_
    refine V_icmpge (q := 118) (q2 := 77) dX10_skip_74 (by decide) rfl (fun hc15 => ?_) (fun hc15 => ?_)
    · have h := ifT hc15 h
      exact V_weak (hk_118 _ _ h) (sb_s rfl (sb_n (sb_n (sb_n (sb_n (sb_s rfl (sb_n sb_0)))))))
    · have h := ifF hc15 h
      refine V_iload (q := 79) dX10_skip_77 rfl rfl ?_
      refine V_iload_n (q := 80) dX10_skip_79 rfl rfl rfl ?_
      refine V_icmpgt (q := 97) (q2 := 83) dX10_skip_80 (by decide) rfl (fun hc16 => ?_) (fun hc16 => ?_)
      · have h := ifT hc16 h
        refine V_aload_n (q := 98) dX10_skip_97 rfl rfl rfl ?_
        refine V_getO (q := 101) (t := 48) fl_X10_74 rfl rfl rfl rfl dX10_skip_98 rfl ?_
        refine V_getO (q := 104) (t := 50) fl_X10_235 rfl rfl rfl rfl dX10_skip_101 rfl ?_
        refine V_iload (q := 106) dX10_skip_104 rfl rfl ?_
        refine V_dup2 (q := 107) dX10_skip_106 trivial trivial rfl ?_
        obtain ⟨hi18, h⟩ := ldA_i h
        refine V_iaload (q := 108) rfl hi18 dX10_skip_107 rfl ?_
        refine V_iload (q := 110) dX10_skip_108 rfl rfl ?_
        refine V_isub (q := 111) dX10_skip_110 rfl ?_
        obtain ⟨hi20, h⟩ := stA_i h
        refine V_iastore (q := 112) rfl hi20 dX10_skip_111 rfl ?_
        refine V_iinc (q := 115) dX10_skip_112 rfl (Nat.le_of_ble_eq_true rfl) trivial rfl ?_
        refine V_goto (q := 65) dX10_skip_115 (by decide) ?_
        exact V_weak (ih h) (sb_s rfl (sb_n (sb_n (sb_s rfl (sb_s rfl (sb_s rfl (sb_s rfl sb_0)))))))
      · have h := ifF hc16 h
        refine V_iload (q := 85) dX10_skip_83 rfl rfl ?_
        refine V_iconst (q := 86) dX10_skip_85 rfl rfl ?_
        refine V_iload (q := 88) dX10_skip_86 rfl rfl ?_
        refine V_ishl (q := 89) dX10_skip_88 rfl ?_
        refine V_iconst (q := 90) dX10_skip_89 rfl rfl ?_
        refine V_ixor (q := 91) dX10_skip_90 rfl ?_
        refine V_iand (q := 92) dX10_skip_91 rfl ?_
        have h := lt_i h
        refine V_istore (q := 94) dX10_skip_92 (Nat.le_of_ble_eq_true rfl) trivial rfl ?_
        refine V_goto (q := 112) dX10_skip_94 (by decide) ?_
        refine V_iinc (q := 115) dX10_skip_112 rfl (Nat.le_of_ble_eq_true rfl) trivial rfl ?_
        refine V_goto (q := 65) dX10_skip_115 (by decide) ?_
        exact V_weak (ih h) (sb_s rfl (sb_n (sb_n (sb_s rfl (sb_s rfl (sb_s rfl (sb_s rfl sb_0)))))))
set_option maxHeartbeats 4000000 in
set_option maxRecDepth 100000 in
theorem kX10_skip (d : Nat) (hd : 272 ≤ d) {l1 : Int} {l2 : Int} {l3 : Int} {μ : Mm} {r : Int} {μ' : Mm} (h : X10_skip l1 l2 l3 μ = some (r, μ')) : CC d mX10_skip [vR 0, vI l1, vI l2, vI l3] μ r μ' := by
  unfold X10_skip at h
  refine V_enter (by decide) (Nat.le_of_ble_eq_true rfl) ?_
  show VV d mX10_skip 0 [some (vR 0), some (vI l1), some (vI l2), some (vI l3), none, none, none] [] μ r μ'
  refine V_aload_n (q := 1) dX10_skip_0 rfl rfl rfl ?_
  refine V_iload_n (q := 2) dX10_skip_1 rfl rfl rfl ?_
  obtain ⟨v1, μ2, hc3, h⟩ := bd_i h
  refine V_cV1 (q := 5) (v := vI v1) (kX10_lay (d - 1) (by omega) hc3) (by omega) mv_X10_288 rfl rfl rfl rfl rfl rfl dX10_skip_2 rfl ?_
  refine V_ifeq (q := 28) (q2 := 8) dX10_skip_5 (by decide) rfl (fun hc4 => ?_) (fun hc4 => ?_)
  · have h := ifT hc4 h
    refine V_iconst (q := 29) dX10_skip_28 rfl rfl ?_
    exact V_iret rfl h dX10_skip_29
  · have h := ifF hc4 h
    refine V_iload_n (q := 9) dX10_skip_8 rfl rfl rfl ?_
    refine V_ifle (q := 28) (q2 := 12) dX10_skip_9 (by decide) rfl (fun hc5 => ?_) (fun hc5 => ?_)
    · have h := ifT hc5 h
      refine V_iconst (q := 29) dX10_skip_28 rfl rfl ?_
      exact V_iret rfl h dX10_skip_29
    · have h := ifF hc5 h
      refine V_iload_n (q := 13) dX10_skip_12 rfl rfl rfl ?_
      refine V_iload_n (q := 14) dX10_skip_13 rfl rfl rfl ?_
      refine V_icmplt (q := 28) (q2 := 17) dX10_skip_14 (by decide) rfl (fun hc6 => ?_) (fun hc6 => ?_)
      · have h := ifT hc6 h
        refine V_iconst (q := 29) dX10_skip_28 rfl rfl ?_
        exact V_iret rfl h dX10_skip_29
      · have h := ifF hc6 h
        refine V_iload_n (q := 18) dX10_skip_17 rfl rfl rfl ?_
        refine V_aload_n (q := 19) dX10_skip_18 rfl rfl rfl ?_
        refine V_getO (q := 22) (t := 48) fl_X10_74 rfl rfl rfl rfl dX10_skip_19 rfl ?_
        refine V_getI (q := 25) fl_X10_264 rfl rfl rfl dX10_skip_22 rfl ?_
        refine V_icmplt (q := 30) (q2 := 28) dX10_skip_25 (by decide) rfl (fun hc7 => ?_) (fun hc7 => ?_)
        · have h := ifT hc7 h
          refine V_aload_n (q := 31) dX10_skip_30 rfl rfl rfl ?_
          refine V_getO (q := 34) (t := 48) fl_X10_74 rfl rfl rfl rfl dX10_skip_31 rfl ?_
          refine V_getO (q := 37) (t := 50) fl_X10_235 rfl rfl rfl rfl dX10_skip_34 rfl ?_
          refine V_iload_n (q := 38) dX10_skip_37 rfl rfl rfl ?_
          obtain ⟨hi9, h⟩ := ldA_i h
          refine V_iaload (q := 39) rfl hi9 dX10_skip_38 rfl ?_
          refine V_aload_n (q := 40) dX10_skip_39 rfl rfl rfl ?_
          refine V_getO (q := 43) (t := 48) fl_X10_74 rfl rfl rfl rfl dX10_skip_40 rfl ?_
          refine V_getO (q := 46) (t := 50) fl_X10_235 rfl rfl rfl rfl dX10_skip_43 rfl ?_
          refine V_iload_n (q := 47) dX10_skip_46 rfl rfl rfl ?_
          refine V_iconst (q := 48) dX10_skip_47 rfl rfl ?_
          refine V_isub (q := 49) dX10_skip_48 rfl ?_
          obtain ⟨hi11, h⟩ := ldA_i h
          refine V_iaload (q := 50) rfl hi11 dX10_skip_49 rfl ?_
          refine V_isub (q := 51) dX10_skip_50 rfl ?_
          refine V_istore (q := 53) dX10_skip_51 (Nat.le_of_ble_eq_true rfl) trivial rfl ?_
          refine V_aload_n (q := 54) dX10_skip_53 rfl rfl rfl ?_
          refine V_getO (q := 57) (t := 48) fl_X10_74 rfl rfl rfl rfl dX10_skip_54 rfl ?_
          obtain ⟨v12, μ13, hc14, h⟩ := bd_i h
          refine V_cV1 (q := 60) (v := vI v12) (kX1_allCues (d - 1) (by omega) rfl hc14) (by omega) mv_X10_316 rfl rfl rfl rfl rfl rfl dX10_skip_57 rfl ?_
          refine V_istore (q := 62) dX10_skip_60 (Nat.le_of_ble_eq_true rfl) trivial rfl ?_
          refine V_iload_n (q := 63) dX10_skip_62 rfl rfl rfl ?_
          refine V_istore (q := 65) dX10_skip_63 (Nat.le_of_ble_eq_true rfl) trivial rfl ?_
          refine V_weak (kX10_skip_L65 d hd (fun v22 μ23 h => ?_) FU h) (sb_s rfl (sb_n (sb_n (sb_s rfl (sb_s rfl (sb_s rfl (sb_s rfl sb_0)))))))
          refine V_aload_n (q := 119) dX10_skip_118 rfl rfl rfl ?_
          refine V_iload (q := 121) dX10_skip_119 rfl rfl ?_
          obtain ⟨v24, μ25, hc26, h⟩ := bd_i h
          refine V_cV1 (q := 124) (v := vI v24) (kX10_latesByBook (d - 1) (by omega) hc26) (by omega) mv_X10_322 rfl rfl rfl rfl rfl rfl dX10_skip_121 rfl ?_
          exact V_iret rfl h dX10_skip_124
        · have h := ifF hc7 h
          refine V_iconst (q := 29) dX10_skip_28 rfl rfl ?_
          exact V_iret rfl h dX10_skip_29
abbrev mX10_nights : Mth := (yX10_nights, cX10_nights, 8, some .int)
set_option maxRecDepth 100000 in
theorem mi_X10_nights : Cond.instanceMethod yX10_nights ∈ tG ∧ Cond.selects yX10_nights.cls yX10_nights yX10_nights ∈ tG ∧ Cond.initialized yX10_nights.cls ∈ tG ∧ Cond.code yX10_nights cX10_nights 8 (some .int) ∈ tG ∧ (yX10_nights.cls ≠ "java/lang/invoke/MethodHandle" ∧ yX10_nights.cls ≠ "java/lang/invoke/VarHandle" ∧ (parseMethodDescriptor yX10_nights.desc).map (fun d => d.parameters.length) = some 3) ∧ 8 ≤ 60 := ⟨(tG_of (tb4 (List.mem_of_getElem? (i := 192) rfl)) (by decide +kernel)), (tG_of (tb4 (List.mem_of_getElem? (i := 193) rfl)) (by decide +kernel)), (tG_of (tb1 (List.mem_of_getElem? (i := 1) rfl)) (by decide +kernel)), (tG_of (tb4 (List.mem_of_getElem? (i := 194) rfl)) (by decide +kernel)), ⟨by decide, by decide, by decide +kernel⟩, by decide⟩
theorem dX10_nights_0 : decode cX10_nights 0 = .ok (.iload_n 3, 1) := dc_29 (byA eNcX10_nights (p := 0) (v := 29) (by decide +kernel))
theorem dX10_nights_1 : decode cX10_nights 1 = .ok (.invokestatic 275, 3) := dc_184 (byA eNcX10_nights (p := 1) (v := 184) (by decide +kernel)) (byA eNcX10_nights (p := 2) (v := 1) (by decide +kernel)) (byA eNcX10_nights (p := 3) (v := 19) (by decide +kernel)) rfl
theorem dX10_nights_4 : decode cX10_nights 4 = .ok (.ifCond .eq 22, 3) := dc_153 (byA eNcX10_nights (p := 4) (v := 153) (by decide +kernel)) (byA eNcX10_nights (p := 5) (v := 0) (by decide +kernel)) (byA eNcX10_nights (p := 6) (v := 22) (by decide +kernel)) (by decide +kernel)
theorem dX10_nights_7 : decode cX10_nights 7 = .ok (.iload_n 2, 1) := dc_28 (byA eNcX10_nights (p := 7) (v := 28) (by decide +kernel))
theorem dX10_nights_8 : decode cX10_nights 8 = .ok (.iconst 1, 1) := dc_4 (byA eNcX10_nights (p := 8) (v := 4) (by decide +kernel))
theorem dX10_nights_9 : decode cX10_nights 9 = .ok (.if_icmp .lt 17, 3) := dc_161 (byA eNcX10_nights (p := 9) (v := 161) (by decide +kernel)) (byA eNcX10_nights (p := 10) (v := 0) (by decide +kernel)) (byA eNcX10_nights (p := 11) (v := 17) (by decide +kernel)) (by decide +kernel)
theorem dX10_nights_12 : decode cX10_nights 12 = .ok (.iload_n 2, 1) := dc_28 (byA eNcX10_nights (p := 12) (v := 28) (by decide +kernel))
theorem dX10_nights_13 : decode cX10_nights 13 = .ok (.bipush 30, 2) := dc_16 (byA eNcX10_nights (p := 13) (v := 16) (by decide +kernel)) (byA eNcX10_nights (p := 14) (v := 30) (by decide +kernel)) (by decide +kernel)
theorem dX10_nights_15 : decode cX10_nights 15 = .ok (.if_icmp .gt 11, 3) := dc_163 (byA eNcX10_nights (p := 15) (v := 163) (by decide +kernel)) (byA eNcX10_nights (p := 16) (v := 0) (by decide +kernel)) (byA eNcX10_nights (p := 17) (v := 11) (by decide +kernel)) (by decide +kernel)
theorem dX10_nights_18 : decode cX10_nights 18 = .ok (.aload_n 0, 1) := dc_42 (byA eNcX10_nights (p := 18) (v := 42) (by decide +kernel))
theorem dX10_nights_19 : decode cX10_nights 19 = .ok (.iload_n 1, 1) := dc_27 (byA eNcX10_nights (p := 19) (v := 27) (by decide +kernel))
theorem dX10_nights_20 : decode cX10_nights 20 = .ok (.invokevirtual 288, 3) := dc_182 (byA eNcX10_nights (p := 20) (v := 182) (by decide +kernel)) (byA eNcX10_nights (p := 21) (v := 1) (by decide +kernel)) (byA eNcX10_nights (p := 22) (v := 32) (by decide +kernel)) rfl
theorem dX10_nights_23 : decode cX10_nights 23 = .ok (.ifCond .ne 5, 3) := dc_154 (byA eNcX10_nights (p := 23) (v := 154) (by decide +kernel)) (byA eNcX10_nights (p := 24) (v := 0) (by decide +kernel)) (byA eNcX10_nights (p := 25) (v := 5) (by decide +kernel)) (by decide +kernel)
theorem dX10_nights_26 : decode cX10_nights 26 = .ok (.iconst (-1), 1) := dc_2 (byA eNcX10_nights (p := 26) (v := 2) (by decide +kernel))
theorem dX10_nights_27 : decode cX10_nights 27 = .ok (.ireturn, 1) := dc_172 (byA eNcX10_nights (p := 27) (v := 172) (by decide +kernel))
theorem dX10_nights_28 : decode cX10_nights 28 = .ok (.iconst (-1), 1) := dc_2 (byA eNcX10_nights (p := 28) (v := 2) (by decide +kernel))
theorem dX10_nights_29 : decode cX10_nights 29 = .ok (.istore 4, 2) := dc_54 (byA eNcX10_nights (p := 29) (v := 54) (by decide +kernel)) (byA eNcX10_nights (p := 30) (v := 4) (by decide +kernel))
theorem dX10_nights_31 : decode cX10_nights 31 = .ok (.iconst (-1), 1) := dc_2 (byA eNcX10_nights (p := 31) (v := 2) (by decide +kernel))
theorem dX10_nights_32 : decode cX10_nights 32 = .ok (.istore 5, 2) := dc_54 (byA eNcX10_nights (p := 32) (v := 54) (by decide +kernel)) (byA eNcX10_nights (p := 33) (v := 5) (by decide +kernel))
theorem dX10_nights_34 : decode cX10_nights 34 = .ok (.iconst 0, 1) := dc_3 (byA eNcX10_nights (p := 34) (v := 3) (by decide +kernel))
theorem dX10_nights_35 : decode cX10_nights 35 = .ok (.istore 6, 2) := dc_54 (byA eNcX10_nights (p := 35) (v := 54) (by decide +kernel)) (byA eNcX10_nights (p := 36) (v := 6) (by decide +kernel))
theorem dX10_nights_37 : decode cX10_nights 37 = .ok (.iload 6, 2) := dc_21 (byA eNcX10_nights (p := 37) (v := 21) (by decide +kernel)) (byA eNcX10_nights (p := 38) (v := 6) (by decide +kernel))
theorem dX10_nights_39 : decode cX10_nights 39 = .ok (.iload_n 2, 1) := dc_28 (byA eNcX10_nights (p := 39) (v := 28) (by decide +kernel))
theorem dX10_nights_40 : decode cX10_nights 40 = .ok (.if_icmp .ge 63, 3) := dc_162 (byA eNcX10_nights (p := 40) (v := 162) (by decide +kernel)) (byA eNcX10_nights (p := 41) (v := 0) (by decide +kernel)) (byA eNcX10_nights (p := 42) (v := 63) (by decide +kernel)) (by decide +kernel)
theorem dX10_nights_43 : decode cX10_nights 43 = .ok (.aload_n 0, 1) := dc_42 (byA eNcX10_nights (p := 43) (v := 42) (by decide +kernel))
theorem dX10_nights_44 : decode cX10_nights 44 = .ok (.getfield 30, 3) := dc_180 (byA eNcX10_nights (p := 44) (v := 180) (by decide +kernel)) (byA eNcX10_nights (p := 45) (v := 0) (by decide +kernel)) (byA eNcX10_nights (p := 46) (v := 30) (by decide +kernel)) rfl
theorem dX10_nights_47 : decode cX10_nights 47 = .ok (.aload_n 0, 1) := dc_42 (byA eNcX10_nights (p := 47) (v := 42) (by decide +kernel))
theorem dX10_nights_48 : decode cX10_nights 48 = .ok (.getfield 49, 3) := dc_180 (byA eNcX10_nights (p := 48) (v := 180) (by decide +kernel)) (byA eNcX10_nights (p := 49) (v := 0) (by decide +kernel)) (byA eNcX10_nights (p := 50) (v := 49) (by decide +kernel)) rfl
theorem dX10_nights_51 : decode cX10_nights 51 = .ok (.iload_n 1, 1) := dc_27 (byA eNcX10_nights (p := 51) (v := 27) (by decide +kernel))
theorem dX10_nights_52 : decode cX10_nights 52 = .ok (.aaload, 1) := dc_50 (byA eNcX10_nights (p := 52) (v := 50) (by decide +kernel))
theorem dX10_nights_53 : decode cX10_nights 53 = .ok (.aload_n 0, 1) := dc_42 (byA eNcX10_nights (p := 53) (v := 42) (by decide +kernel))
theorem dX10_nights_54 : decode cX10_nights 54 = .ok (.invokevirtual 231, 3) := dc_182 (byA eNcX10_nights (p := 54) (v := 182) (by decide +kernel)) (byA eNcX10_nights (p := 55) (v := 0) (by decide +kernel)) (byA eNcX10_nights (p := 56) (v := 231) (by decide +kernel)) rfl
theorem dX10_nights_57 : decode cX10_nights 57 = .ok (.iload 6, 2) := dc_21 (byA eNcX10_nights (p := 57) (v := 21) (by decide +kernel)) (byA eNcX10_nights (p := 58) (v := 6) (by decide +kernel))
theorem dX10_nights_59 : decode cX10_nights 59 = .ok (.aload_n 0, 1) := dc_42 (byA eNcX10_nights (p := 59) (v := 42) (by decide +kernel))
theorem dX10_nights_60 : decode cX10_nights 60 = .ok (.getfield 74, 3) := dc_180 (byA eNcX10_nights (p := 60) (v := 180) (by decide +kernel)) (byA eNcX10_nights (p := 61) (v := 0) (by decide +kernel)) (byA eNcX10_nights (p := 62) (v := 74) (by decide +kernel)) rfl
theorem dX10_nights_63 : decode cX10_nights 63 = .ok (.getfield 235, 3) := dc_180 (byA eNcX10_nights (p := 63) (v := 180) (by decide +kernel)) (byA eNcX10_nights (p := 64) (v := 0) (by decide +kernel)) (byA eNcX10_nights (p := 65) (v := 235) (by decide +kernel)) rfl
theorem dX10_nights_66 : decode cX10_nights 66 = .ok (.invokevirtual 239, 3) := dc_182 (byA eNcX10_nights (p := 66) (v := 182) (by decide +kernel)) (byA eNcX10_nights (p := 67) (v := 0) (by decide +kernel)) (byA eNcX10_nights (p := 68) (v := 239) (by decide +kernel)) rfl
theorem dX10_nights_69 : decode cX10_nights 69 = .ok (.aload_n 0, 1) := dc_42 (byA eNcX10_nights (p := 69) (v := 42) (by decide +kernel))
theorem dX10_nights_70 : decode cX10_nights 70 = .ok (.aload_n 0, 1) := dc_42 (byA eNcX10_nights (p := 70) (v := 42) (by decide +kernel))
theorem dX10_nights_71 : decode cX10_nights 71 = .ok (.getfield 74, 3) := dc_180 (byA eNcX10_nights (p := 71) (v := 180) (by decide +kernel)) (byA eNcX10_nights (p := 72) (v := 0) (by decide +kernel)) (byA eNcX10_nights (p := 73) (v := 74) (by decide +kernel)) rfl
theorem dX10_nights_74 : decode cX10_nights 74 = .ok (.invokevirtual 316, 3) := dc_182 (byA eNcX10_nights (p := 74) (v := 182) (by decide +kernel)) (byA eNcX10_nights (p := 75) (v := 1) (by decide +kernel)) (byA eNcX10_nights (p := 76) (v := 60) (by decide +kernel)) rfl
theorem dX10_nights_77 : decode cX10_nights 77 = .ok (.invokevirtual 322, 3) := dc_182 (byA eNcX10_nights (p := 77) (v := 182) (by decide +kernel)) (byA eNcX10_nights (p := 78) (v := 1) (by decide +kernel)) (byA eNcX10_nights (p := 79) (v := 66) (by decide +kernel)) rfl
theorem dX10_nights_80 : decode cX10_nights 80 = .ok (.istore 7, 2) := dc_54 (byA eNcX10_nights (p := 80) (v := 54) (by decide +kernel)) (byA eNcX10_nights (p := 81) (v := 7) (by decide +kernel))
theorem dX10_nights_82 : decode cX10_nights 82 = .ok (.iload 7, 2) := dc_21 (byA eNcX10_nights (p := 82) (v := 21) (by decide +kernel)) (byA eNcX10_nights (p := 83) (v := 7) (by decide +kernel))
theorem dX10_nights_84 : decode cX10_nights 84 = .ok (.iload 5, 2) := dc_21 (byA eNcX10_nights (p := 84) (v := 21) (by decide +kernel)) (byA eNcX10_nights (p := 85) (v := 5) (by decide +kernel))
theorem dX10_nights_86 : decode cX10_nights 86 = .ok (.if_icmp .le 11, 3) := dc_164 (byA eNcX10_nights (p := 86) (v := 164) (by decide +kernel)) (byA eNcX10_nights (p := 87) (v := 0) (by decide +kernel)) (byA eNcX10_nights (p := 88) (v := 11) (by decide +kernel)) (by decide +kernel)
theorem dX10_nights_89 : decode cX10_nights 89 = .ok (.iload 7, 2) := dc_21 (byA eNcX10_nights (p := 89) (v := 21) (by decide +kernel)) (byA eNcX10_nights (p := 90) (v := 7) (by decide +kernel))
theorem dX10_nights_91 : decode cX10_nights 91 = .ok (.istore 5, 2) := dc_54 (byA eNcX10_nights (p := 91) (v := 54) (by decide +kernel)) (byA eNcX10_nights (p := 92) (v := 5) (by decide +kernel))
theorem dX10_nights_93 : decode cX10_nights 93 = .ok (.iload 6, 2) := dc_21 (byA eNcX10_nights (p := 93) (v := 21) (by decide +kernel)) (byA eNcX10_nights (p := 94) (v := 6) (by decide +kernel))
theorem dX10_nights_95 : decode cX10_nights 95 = .ok (.istore 4, 2) := dc_54 (byA eNcX10_nights (p := 95) (v := 54) (by decide +kernel)) (byA eNcX10_nights (p := 96) (v := 4) (by decide +kernel))
theorem dX10_nights_97 : decode cX10_nights 97 = .ok (.iinc 6 1, 3) := dc_132 (byA eNcX10_nights (p := 97) (v := 132) (by decide +kernel)) (byA eNcX10_nights (p := 98) (v := 6) (by decide +kernel)) (byA eNcX10_nights (p := 99) (v := 1) (by decide +kernel)) (by decide +kernel)
theorem dX10_nights_100 : decode cX10_nights 100 = .ok (.goto (-63), 3) := dc_167 (byA eNcX10_nights (p := 100) (v := 167) (by decide +kernel)) (byA eNcX10_nights (p := 101) (v := 255) (by decide +kernel)) (byA eNcX10_nights (p := 102) (v := 193) (by decide +kernel)) (by decide +kernel)
theorem dX10_nights_103 : decode cX10_nights 103 = .ok (.iload_n 3, 1) := dc_29 (byA eNcX10_nights (p := 103) (v := 29) (by decide +kernel))
theorem dX10_nights_104 : decode cX10_nights 104 = .ok (.ifCond .ne 8, 3) := dc_154 (byA eNcX10_nights (p := 104) (v := 154) (by decide +kernel)) (byA eNcX10_nights (p := 105) (v := 0) (by decide +kernel)) (byA eNcX10_nights (p := 106) (v := 8) (by decide +kernel)) (by decide +kernel)
theorem dX10_nights_107 : decode cX10_nights 107 = .ok (.iload 4, 2) := dc_21 (byA eNcX10_nights (p := 107) (v := 21) (by decide +kernel)) (byA eNcX10_nights (p := 108) (v := 4) (by decide +kernel))
theorem dX10_nights_109 : decode cX10_nights 109 = .ok (.goto 5, 3) := dc_167 (byA eNcX10_nights (p := 109) (v := 167) (by decide +kernel)) (byA eNcX10_nights (p := 110) (v := 0) (by decide +kernel)) (byA eNcX10_nights (p := 111) (v := 5) (by decide +kernel)) (by decide +kernel)
theorem dX10_nights_112 : decode cX10_nights 112 = .ok (.iload 5, 2) := dc_21 (byA eNcX10_nights (p := 112) (v := 21) (by decide +kernel)) (byA eNcX10_nights (p := 113) (v := 5) (by decide +kernel))
theorem dX10_nights_114 : decode cX10_nights 114 = .ok (.ireturn, 1) := dc_172 (byA eNcX10_nights (p := 114) (v := 172) (by decide +kernel))
def X10_nights_L37 (l1 : Int) (l2 : Int) (l3 : Int) (k103 : Int → Int → Mm → Rs) : Nat → Int → Int → Int → Mm → Rs
  | 0, _, _, _, _ => none
  | n + 1, l4, l5, l6, μ => if l2 ≤ l6 then (k103 l4 l5 μ) else (aL 17 l1 fun v12 => bd (X10_lawThatHolds μ) fun v14 μ15 => bd (X2_fillTimes v12 v14 l6 50 μ15) fun v17 μ18 => bd (X1_allCues 48 μ18) fun v20 μ21 => bd (X10_latesByBook v20 μ21) fun v23 μ24 => if v23 ≤ l5 then (X10_nights_L37 l1 l2 l3 k103 n l4 l5 (iA l6 1) μ24) else (X10_nights_L37 l1 l2 l3 k103 n l6 v23 (iA l6 1) μ24))
def X10_nights (l1 : Int) (l2 : Int) (l3 : Int) (μ : Mm) : Rs := bd (X10_isHalf l3 μ) fun v1 μ2 => if v1 = 0 then (some ((-1), μ2)) else (if l2 < 1 then (some ((-1), μ2)) else (if 30 < l2 then (some ((-1), μ2)) else (bd (X10_lay l1 μ2) fun v7 μ8 => if v7 = 0 then (some ((-1), μ8)) else (X10_nights_L37 l1 l2 l3 (fun v27 v28 μ29 => if l3 = 0 then (some (v27, μ29)) else (some (v28, μ29))) FU (-1) (-1) 0 μ8))))
set_option maxHeartbeats 4000000 in
set_option maxRecDepth 100000 in
theorem kX10_nights_L37 (d : Nat) (hd : 272 ≤ d) {l1 : Int} {l2 : Int} {l3 : Int} {k103 : Int → Int → Mm → Rs} {r : Int} {μ' : Mm} (hk_103 : ∀ (v4 v5 : Int) (μ1 : Mm), k103 v4 v5 μ1 = some (r, μ') → VV d mX10_nights 103 [none, none, none, some (vI l3), some (vI v4), some (vI v5), none, none] [] μ1 r μ') : ∀ (n : Nat) {l4 l5 l6 : Int} {μ : Mm}, X10_nights_L37 l1 l2 l3 k103 n l4 l5 l6 μ = some (r, μ') → VV d mX10_nights 37 [some (vR 0), some (vI l1), some (vI l2), some (vI l3), some (vI l4), some (vI l5), some (vI l6), none] [] μ r μ' := by
  intro n
  induction n with
  | zero => intro l4 l5 l6 μ h; rw [X10_nights_L37] at h; cases h
  | succ n ih =>
    intro l4 l5 l6 μ h
    rw [X10_nights_L37] at h
    refine V_iload (q := 39) dX10_nights_37 rfl rfl ?_
    refine V_iload_n (q := 40) dX10_nights_39 rfl rfl rfl ?_
    refine V_icmpge (q := 103) (q2 := 43) dX10_nights_40 (by decide) rfl (fun hc11 => ?_) (fun hc11 => ?_)
    · have h := ifT hc11 h
      exact V_weak (hk_103 _ _ _ h) (sb_n (sb_n (sb_n (sb_s rfl (sb_s rfl (sb_s rfl (sb_n (sb_n sb_0))))))))
    · have h := ifF hc11 h
      refine V_aload_n (q := 44) dX10_nights_43 rfl rfl rfl ?_
      refine V_getO (q := 47) (t := 4) fl_X10_30 rfl rfl rfl rfl dX10_nights_44 rfl ?_
      refine V_aload_n (q := 48) dX10_nights_47 rfl rfl rfl ?_
      refine V_getO (q := 51) (t := 17) fl_X10_49 rfl rfl rfl rfl dX10_nights_48 rfl ?_
      refine V_iload_n (q := 52) dX10_nights_51 rfl rfl rfl ?_
      obtain ⟨hi13, h⟩ := aL_i h
      refine V_aaload (q := 53) (c2 := 1) rfl (Or.inl rfl) hi13 dX10_nights_52 rfl ?_
      refine V_aload_n (q := 54) dX10_nights_53 rfl rfl rfl ?_
      obtain ⟨v14, μ15, hc16, h⟩ := bd_i h
      refine V_cV1 (q := 57) (v := vC v14) (kX10_lawThatHolds (d - 1) (by omega) hc16) (by omega) mv_X10_231 rfl rfl rfl rfl rfl rfl dX10_nights_54 rfl ?_
      refine V_iload (q := 59) dX10_nights_57 rfl rfl ?_
      refine V_aload_n (q := 60) dX10_nights_59 rfl rfl rfl ?_
      refine V_getO (q := 63) (t := 48) fl_X10_74 rfl rfl rfl rfl dX10_nights_60 rfl ?_
      refine V_getO (q := 66) (t := 50) fl_X10_235 rfl rfl rfl rfl dX10_nights_63 rfl ?_
      obtain ⟨v17, μ18, hc19, h⟩ := bd_i h
      refine V_cV0 (q := 69) (kX2_fillTimes (d - 1) (by omega) (kA17 hi13) rfl hc19) (by omega) mv_X10_239 rfl rfl rfl rfl rfl rfl dX10_nights_66 rfl ?_
      refine V_aload_n (q := 70) dX10_nights_69 rfl rfl rfl ?_
      refine V_aload_n (q := 71) dX10_nights_70 rfl rfl rfl ?_
      refine V_getO (q := 74) (t := 48) fl_X10_74 rfl rfl rfl rfl dX10_nights_71 rfl ?_
      obtain ⟨v20, μ21, hc22, h⟩ := bd_i h
      refine V_cV1 (q := 77) (v := vI v20) (kX1_allCues (d - 1) (by omega) rfl hc22) (by omega) mv_X10_316 rfl rfl rfl rfl rfl rfl dX10_nights_74 rfl ?_
      obtain ⟨v23, μ24, hc25, h⟩ := bd_i h
      refine V_cV1 (q := 80) (v := vI v23) (kX10_latesByBook (d - 1) (by omega) hc25) (by omega) mv_X10_322 rfl rfl rfl rfl rfl rfl dX10_nights_77 rfl ?_
      refine V_istore (q := 82) dX10_nights_80 (Nat.le_of_ble_eq_true rfl) trivial rfl ?_
      refine V_iload (q := 84) dX10_nights_82 rfl rfl ?_
      refine V_iload (q := 86) dX10_nights_84 rfl rfl ?_
      refine V_icmple (q := 97) (q2 := 89) dX10_nights_86 (by decide) rfl (fun hc26 => ?_) (fun hc26 => ?_)
      · have h := ifT hc26 h
        refine V_iinc (q := 100) dX10_nights_97 rfl (Nat.le_of_ble_eq_true rfl) trivial rfl ?_
        refine V_goto (q := 37) dX10_nights_100 (by decide) ?_
        exact V_weak (ih h) (sb_s rfl (sb_s rfl (sb_s rfl (sb_s rfl (sb_s rfl (sb_s rfl (sb_s rfl (sb_n sb_0))))))))
      · have h := ifF hc26 h
        refine V_iload (q := 91) dX10_nights_89 rfl rfl ?_
        refine V_istore (q := 93) dX10_nights_91 (Nat.le_of_ble_eq_true rfl) trivial rfl ?_
        refine V_iload (q := 95) dX10_nights_93 rfl rfl ?_
        refine V_istore (q := 97) dX10_nights_95 (Nat.le_of_ble_eq_true rfl) trivial rfl ?_
        refine V_iinc (q := 100) dX10_nights_97 rfl (Nat.le_of_ble_eq_true rfl) trivial rfl ?_
        refine V_goto (q := 37) dX10_nights_100 (by decide) ?_
        exact V_weak (ih h) (sb_s rfl (sb_s rfl (sb_s rfl (sb_s rfl (sb_s rfl (sb_s rfl (sb_s rfl (sb_n sb_0))))))))
set_option maxHeartbeats 4000000 in
set_option maxRecDepth 100000 in
theorem kX10_nights (d : Nat) (hd : 272 ≤ d) {l1 : Int} {l2 : Int} {l3 : Int} {μ : Mm} {r : Int} {μ' : Mm} (h : X10_nights l1 l2 l3 μ = some (r, μ')) : CC d mX10_nights [vR 0, vI l1, vI l2, vI l3] μ r μ' := by
  unfold X10_nights at h
  refine V_enter (by decide) (Nat.le_of_ble_eq_true rfl) ?_
  show VV d mX10_nights 0 [some (vR 0), some (vI l1), some (vI l2), some (vI l3), none, none, none, none] [] μ r μ'
  refine V_iload_n (q := 1) dX10_nights_0 rfl rfl rfl ?_
  obtain ⟨v1, μ2, hc3, h⟩ := bd_i h
  refine V_cS1 (q := 4) (v := vI v1) (kX10_isHalf (d - 1) (by omega) hc3) (by omega) mv_X10_275 rfl rfl rfl rfl dX10_nights_1 rfl ?_
  refine V_ifeq (q := 26) (q2 := 7) dX10_nights_4 (by decide) rfl (fun hc4 => ?_) (fun hc4 => ?_)
  · have h := ifT hc4 h
    refine V_iconst (q := 27) dX10_nights_26 rfl rfl ?_
    exact V_iret rfl h dX10_nights_27
  · have h := ifF hc4 h
    refine V_iload_n (q := 8) dX10_nights_7 rfl rfl rfl ?_
    refine V_iconst (q := 9) dX10_nights_8 rfl rfl ?_
    refine V_icmplt (q := 26) (q2 := 12) dX10_nights_9 (by decide) rfl (fun hc5 => ?_) (fun hc5 => ?_)
    · have h := ifT hc5 h
      refine V_iconst (q := 27) dX10_nights_26 rfl rfl ?_
      exact V_iret rfl h dX10_nights_27
    · have h := ifF hc5 h
      refine V_iload_n (q := 13) dX10_nights_12 rfl rfl rfl ?_
      refine V_bipush (q := 15) dX10_nights_13 rfl rfl rfl ?_
      refine V_icmpgt (q := 26) (q2 := 18) dX10_nights_15 (by decide) rfl (fun hc6 => ?_) (fun hc6 => ?_)
      · have h := ifT hc6 h
        refine V_iconst (q := 27) dX10_nights_26 rfl rfl ?_
        exact V_iret rfl h dX10_nights_27
      · have h := ifF hc6 h
        refine V_aload_n (q := 19) dX10_nights_18 rfl rfl rfl ?_
        refine V_iload_n (q := 20) dX10_nights_19 rfl rfl rfl ?_
        obtain ⟨v7, μ8, hc9, h⟩ := bd_i h
        refine V_cV1 (q := 23) (v := vI v7) (kX10_lay (d - 1) (by omega) hc9) (by omega) mv_X10_288 rfl rfl rfl rfl rfl rfl dX10_nights_20 rfl ?_
        refine V_ifne (q := 28) (q2 := 26) dX10_nights_23 (by decide) rfl (fun hc10 => ?_) (fun hc10 => ?_)
        · have h := ifF hc10 h
          refine V_iconst (q := 29) dX10_nights_28 rfl rfl ?_
          refine V_istore (q := 31) dX10_nights_29 (Nat.le_of_ble_eq_true rfl) trivial rfl ?_
          refine V_iconst (q := 32) dX10_nights_31 rfl rfl ?_
          refine V_istore (q := 34) dX10_nights_32 (Nat.le_of_ble_eq_true rfl) trivial rfl ?_
          refine V_iconst (q := 35) dX10_nights_34 rfl rfl ?_
          refine V_istore (q := 37) dX10_nights_35 (Nat.le_of_ble_eq_true rfl) trivial rfl ?_
          refine V_weak (kX10_nights_L37 d hd (fun v27 v28 μ29 h => ?_) FU h) (sb_s rfl (sb_s rfl (sb_s rfl (sb_s rfl (sb_s rfl (sb_s rfl (sb_s rfl (sb_n sb_0))))))))
          refine V_iload_n (q := 104) dX10_nights_103 rfl rfl rfl ?_
          refine V_ifne (q := 112) (q2 := 107) dX10_nights_104 (by decide) rfl (fun hc30 => ?_) (fun hc30 => ?_)
          · have h := ifF hc30 h
            refine V_iload (q := 114) dX10_nights_112 rfl rfl ?_
            exact V_iret rfl h dX10_nights_114
          · have h := ifT hc30 h
            refine V_iload (q := 109) dX10_nights_107 rfl rfl ?_
            refine V_goto (q := 114) dX10_nights_109 (by decide) ?_
            exact V_iret rfl h dX10_nights_114
        · have h := ifT hc10 h
          refine V_iconst (q := 27) dX10_nights_26 rfl rfl ?_
          exact V_iret rfl h dX10_nights_27
