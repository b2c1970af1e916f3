abbrev mX10_takeCellar : Mth := (yX10_takeCellar, cX10_takeCellar, 1, some .int)
set_option maxRecDepth 100000 in
theorem mi_X10_takeCellar : Cond.instanceMethod yX10_takeCellar ∈ tG ∧ Cond.selects yX10_takeCellar.cls yX10_takeCellar yX10_takeCellar ∈ tG ∧ Cond.initialized yX10_takeCellar.cls ∈ tG ∧ Cond.code yX10_takeCellar cX10_takeCellar 1 (some .int) ∈ tG ∧ (yX10_takeCellar.cls ≠ "java/lang/invoke/MethodHandle" ∧ yX10_takeCellar.cls ≠ "java/lang/invoke/VarHandle" ∧ (parseMethodDescriptor yX10_takeCellar.desc).map (fun d => d.parameters.length) = some 0) ∧ 1 ≤ 60 := ⟨(tG_of (tb3 (List.mem_of_getElem? (i := 80) rfl)) (by decide +kernel)), (tG_of (List.mem_of_getElem? (i := 16) (by decide +kernel)) (by decide +kernel)), (tG_of (tb1 (List.mem_of_getElem? (i := 1) rfl)) (by decide +kernel)), (tG_of (tb3 (List.mem_of_getElem? (i := 81) rfl)) (by decide +kernel)), ⟨by decide, by decide, by decide +kernel⟩, by decide⟩
set_option maxRecDepth 100000 in
theorem mv_X10_129 : mV RX10 129 mX10_takeCellar 0 := ⟨(tG_of (tb3 (List.mem_of_getElem? (i := 78) rfl)) (by decide +kernel)), mi_X10_takeCellar⟩
theorem dX10_takeCellar_0 : decode cX10_takeCellar 0 = .ok (.aload_n 0, 1) := dc_42 (byA eNcX10_takeCellar (p := 0) (v := 42) (by decide +kernel))
theorem dX10_takeCellar_1 : decode cX10_takeCellar 1 = .ok (.getfield 21, 3) := dc_180 (byA eNcX10_takeCellar (p := 1) (v := 180) (by decide +kernel)) (byA eNcX10_takeCellar (p := 2) (v := 0) (by decide +kernel)) (byA eNcX10_takeCellar (p := 3) (v := 21) (by decide +kernel)) rfl
theorem dX10_takeCellar_4 : decode cX10_takeCellar 4 = .ok (.aload_n 0, 1) := dc_42 (byA eNcX10_takeCellar (p := 4) (v := 42) (by decide +kernel))
theorem dX10_takeCellar_5 : decode cX10_takeCellar 5 = .ok (.getfield 10, 3) := dc_180 (byA eNcX10_takeCellar (p := 5) (v := 180) (by decide +kernel)) (byA eNcX10_takeCellar (p := 6) (v := 0) (by decide +kernel)) (byA eNcX10_takeCellar (p := 7) (v := 10) (by decide +kernel)) rfl
theorem dX10_takeCellar_8 : decode cX10_takeCellar 8 = .ok (.invokevirtual 139, 3) := dc_182 (byA eNcX10_takeCellar (p := 8) (v := 182) (by decide +kernel)) (byA eNcX10_takeCellar (p := 9) (v := 0) (by decide +kernel)) (byA eNcX10_takeCellar (p := 10) (v := 139) (by decide +kernel)) rfl
theorem dX10_takeCellar_11 : decode cX10_takeCellar 11 = .ok (.aload_n 0, 1) := dc_42 (byA eNcX10_takeCellar (p := 11) (v := 42) (by decide +kernel))
theorem dX10_takeCellar_12 : decode cX10_takeCellar 12 = .ok (.getfield 37, 3) := dc_180 (byA eNcX10_takeCellar (p := 12) (v := 180) (by decide +kernel)) (byA eNcX10_takeCellar (p := 13) (v := 0) (by decide +kernel)) (byA eNcX10_takeCellar (p := 14) (v := 37) (by decide +kernel)) rfl
theorem dX10_takeCellar_15 : decode cX10_takeCellar 15 = .ok (.aload_n 0, 1) := dc_42 (byA eNcX10_takeCellar (p := 15) (v := 42) (by decide +kernel))
theorem dX10_takeCellar_16 : decode cX10_takeCellar 16 = .ok (.getfield 21, 3) := dc_180 (byA eNcX10_takeCellar (p := 16) (v := 180) (by decide +kernel)) (byA eNcX10_takeCellar (p := 17) (v := 0) (by decide +kernel)) (byA eNcX10_takeCellar (p := 18) (v := 21) (by decide +kernel)) rfl
theorem dX10_takeCellar_19 : decode cX10_takeCellar 19 = .ok (.invokevirtual 142, 3) := dc_182 (byA eNcX10_takeCellar (p := 19) (v := 182) (by decide +kernel)) (byA eNcX10_takeCellar (p := 20) (v := 0) (by decide +kernel)) (byA eNcX10_takeCellar (p := 21) (v := 142) (by decide +kernel)) rfl
theorem dX10_takeCellar_22 : decode cX10_takeCellar 22 = .ok (.pop, 1) := dc_87 (byA eNcX10_takeCellar (p := 22) (v := 87) (by decide +kernel))
theorem dX10_takeCellar_23 : decode cX10_takeCellar 23 = .ok (.aload_n 0, 1) := dc_42 (byA eNcX10_takeCellar (p := 23) (v := 42) (by decide +kernel))
theorem dX10_takeCellar_24 : decode cX10_takeCellar 24 = .ok (.getfield 41, 3) := dc_180 (byA eNcX10_takeCellar (p := 24) (v := 180) (by decide +kernel)) (byA eNcX10_takeCellar (p := 25) (v := 0) (by decide +kernel)) (byA eNcX10_takeCellar (p := 26) (v := 41) (by decide +kernel)) rfl
theorem dX10_takeCellar_27 : decode cX10_takeCellar 27 = .ok (.invokevirtual 150, 3) := dc_182 (byA eNcX10_takeCellar (p := 27) (v := 182) (by decide +kernel)) (byA eNcX10_takeCellar (p := 28) (v := 0) (by decide +kernel)) (byA eNcX10_takeCellar (p := 29) (v := 150) (by decide +kernel)) rfl
theorem dX10_takeCellar_30 : decode cX10_takeCellar 30 = .ok (.aload_n 0, 1) := dc_42 (byA eNcX10_takeCellar (p := 30) (v := 42) (by decide +kernel))
theorem dX10_takeCellar_31 : decode cX10_takeCellar 31 = .ok (.getfield 100, 3) := dc_180 (byA eNcX10_takeCellar (p := 31) (v := 180) (by decide +kernel)) (byA eNcX10_takeCellar (p := 32) (v := 0) (by decide +kernel)) (byA eNcX10_takeCellar (p := 33) (v := 100) (by decide +kernel)) rfl
theorem dX10_takeCellar_34 : decode cX10_takeCellar 34 = .ok (.iconst 0, 1) := dc_3 (byA eNcX10_takeCellar (p := 34) (v := 3) (by decide +kernel))
theorem dX10_takeCellar_35 : decode cX10_takeCellar 35 = .ok (.putfield 153, 3) := dc_181 (byA eNcX10_takeCellar (p := 35) (v := 181) (by decide +kernel)) (byA eNcX10_takeCellar (p := 36) (v := 0) (by decide +kernel)) (byA eNcX10_takeCellar (p := 37) (v := 153) (by decide +kernel)) rfl
theorem dX10_takeCellar_38 : decode cX10_takeCellar 38 = .ok (.aload_n 0, 1) := dc_42 (byA eNcX10_takeCellar (p := 38) (v := 42) (by decide +kernel))
theorem dX10_takeCellar_39 : decode cX10_takeCellar 39 = .ok (.getfield 10, 3) := dc_180 (byA eNcX10_takeCellar (p := 39) (v := 180) (by decide +kernel)) (byA eNcX10_takeCellar (p := 40) (v := 0) (by decide +kernel)) (byA eNcX10_takeCellar (p := 41) (v := 10) (by decide +kernel)) rfl
theorem dX10_takeCellar_42 : decode cX10_takeCellar 42 = .ok (.iconst 0, 1) := dc_3 (byA eNcX10_takeCellar (p := 42) (v := 3) (by decide +kernel))
theorem dX10_takeCellar_43 : decode cX10_takeCellar 43 = .ok (.invokevirtual 119, 3) := dc_182 (byA eNcX10_takeCellar (p := 43) (v := 182) (by decide +kernel)) (byA eNcX10_takeCellar (p := 44) (v := 0) (by decide +kernel)) (byA eNcX10_takeCellar (p := 45) (v := 119) (by decide +kernel)) rfl
theorem dX10_takeCellar_46 : decode cX10_takeCellar 46 = .ok (.pop, 1) := dc_87 (byA eNcX10_takeCellar (p := 46) (v := 87) (by decide +kernel))
theorem dX10_takeCellar_47 : decode cX10_takeCellar 47 = .ok (.aload_n 0, 1) := dc_42 (byA eNcX10_takeCellar (p := 47) (v := 42) (by decide +kernel))
theorem dX10_takeCellar_48 : decode cX10_takeCellar 48 = .ok (.getfield 37, 3) := dc_180 (byA eNcX10_takeCellar (p := 48) (v := 180) (by decide +kernel)) (byA eNcX10_takeCellar (p := 49) (v := 0) (by decide +kernel)) (byA eNcX10_takeCellar (p := 50) (v := 37) (by decide +kernel)) rfl
theorem dX10_takeCellar_51 : decode cX10_takeCellar 51 = .ok (.getfield 156, 3) := dc_180 (byA eNcX10_takeCellar (p := 51) (v := 180) (by decide +kernel)) (byA eNcX10_takeCellar (p := 52) (v := 0) (by decide +kernel)) (byA eNcX10_takeCellar (p := 53) (v := 156) (by decide +kernel)) rfl
theorem dX10_takeCellar_54 : decode cX10_takeCellar 54 = .ok (.ireturn, 1) := dc_172 (byA eNcX10_takeCellar (p := 54) (v := 172) (by decide +kernel))
def X10_takeCellar (μ : Mm) : Rs := bd (X4_open 1 μ) fun v1 μ2 => bd (X0_read 5 μ2) fun v4 μ5 => bd (X0_clear 9 μ5) fun v7 μ8 => sF μ8 67 2 0 fun μ10 => bd (X7_cut 1 0 μ10) fun v11 μ12 => some (μ12 5 5, μ12)
set_option maxHeartbeats 4000000 in
set_option maxRecDepth 100000 in
theorem kX10_takeCellar (d : Nat) (hd : 5 ≤ d) {μ : Mm} {r : Int} {μ' : Mm} (h : X10_takeCellar μ = some (r, μ')) : CC d mX10_takeCellar [vR 0] μ r μ' := by
  unfold X10_takeCellar at h
  refine V_enter (by decide) (Nat.le_of_ble_eq_true rfl) ?_
  show VV d mX10_takeCellar 0 [some (vR 0)] [] μ r μ'
  refine V_aload_n (q := 1) dX10_takeCellar_0 rfl rfl rfl ?_
  refine V_getO (q := 4) (t := 3) fl_X10_21 rfl rfl rfl rfl dX10_takeCellar_1 rfl ?_
  refine V_aload_n (q := 5) dX10_takeCellar_4 rfl rfl rfl ?_
  refine V_getO (q := 8) (t := 1) fl_X10_10 rfl rfl rfl rfl dX10_takeCellar_5 rfl ?_
  obtain ⟨v1, μ2, hc3, h⟩ := bd_i h
  refine V_cV0 (q := 11) (kX4_open (d - 1) (by omega) rfl hc3) (by omega) mv_X10_139 rfl rfl rfl rfl rfl rfl dX10_takeCellar_8 rfl ?_
  refine V_aload_n (q := 12) dX10_takeCellar_11 rfl rfl rfl ?_
  refine V_getO (q := 15) (t := 5) fl_X10_37 rfl rfl rfl rfl dX10_takeCellar_12 rfl ?_
  refine V_aload_n (q := 16) dX10_takeCellar_15 rfl rfl rfl ?_
  refine V_getO (q := 19) (t := 3) fl_X10_21 rfl rfl rfl rfl dX10_takeCellar_16 rfl ?_
  obtain ⟨v4, μ5, hc6, h⟩ := bd_i h
  refine V_cV1 (q := 22) (v := vI v4) (kX0_read (d - 1) (by omega) rfl hc6) (by omega) mv_X10_142 rfl rfl rfl rfl rfl rfl dX10_takeCellar_19 rfl ?_
  refine V_pop (q := 23) dX10_takeCellar_22 trivial rfl ?_
  refine V_aload_n (q := 24) dX10_takeCellar_23 rfl rfl rfl ?_
  refine V_getO (q := 27) (t := 9) fl_X10_41 rfl rfl rfl rfl dX10_takeCellar_24 rfl ?_
  obtain ⟨v7, μ8, hc9, h⟩ := bd_i h
  refine V_cV0 (q := 30) (kX0_clear (d - 1) (by omega) rfl hc9) (by omega) mv_X10_150 rfl rfl rfl rfl rfl rfl dX10_takeCellar_27 rfl ?_
  refine V_aload_n (q := 31) dX10_takeCellar_30 rfl rfl rfl ?_
  refine V_getO (q := 34) (t := 67) fl_X10_100 rfl rfl rfl rfl dX10_takeCellar_31 rfl ?_
  refine V_iconst (q := 35) dX10_takeCellar_34 rfl rfl ?_
  have h := sF_i h
  refine V_putI (q := 38) fl_X10_153 rfl rfl rfl dX10_takeCellar_35 rfl ?_
  refine V_aload_n (q := 39) dX10_takeCellar_38 rfl rfl rfl ?_
  refine V_getO (q := 42) (t := 1) fl_X10_10 rfl rfl rfl rfl dX10_takeCellar_39 rfl ?_
  refine V_iconst (q := 43) dX10_takeCellar_42 rfl rfl ?_
  obtain ⟨v11, μ12, hc13, h⟩ := bd_i h
  refine V_cV1 (q := 46) (v := vI v11) (kX7_cut (d - 1) (by omega) rfl hc13) (by omega) mv_X10_119 rfl rfl rfl rfl rfl rfl dX10_takeCellar_43 rfl ?_
  refine V_pop (q := 47) dX10_takeCellar_46 trivial rfl ?_
  refine V_aload_n (q := 48) dX10_takeCellar_47 rfl rfl rfl ?_
  refine V_getO (q := 51) (t := 5) fl_X10_37 rfl rfl rfl rfl dX10_takeCellar_48 rfl ?_
  refine V_getI (q := 54) fl_X10_156 rfl rfl rfl dX10_takeCellar_51 rfl ?_
  exact V_iret rfl h dX10_takeCellar_54
abbrev mX10_takePlay : Mth := (yX10_takePlay, cX10_takePlay, 1, some .int)
set_option maxRecDepth 100000 in
theorem mi_X10_takePlay : Cond.instanceMethod yX10_takePlay ∈ tG ∧ Cond.selects yX10_takePlay.cls yX10_takePlay yX10_takePlay ∈ tG ∧ Cond.initialized yX10_takePlay.cls ∈ tG ∧ Cond.code yX10_takePlay cX10_takePlay 1 (some .int) ∈ tG ∧ (yX10_takePlay.cls ≠ "java/lang/invoke/MethodHandle" ∧ yX10_takePlay.cls ≠ "java/lang/invoke/VarHandle" ∧ (parseMethodDescriptor yX10_takePlay.desc).map (fun d => d.parameters.length) = some 0) ∧ 1 ≤ 60 := ⟨(tG_of (tb3 (List.mem_of_getElem? (i := 85) rfl)) (by decide +kernel)), (tG_of (List.mem_of_getElem? (i := 17) (by decide +kernel)) (by decide +kernel)), (tG_of (tb1 (List.mem_of_getElem? (i := 1) rfl)) (by decide +kernel)), (tG_of (tb3 (List.mem_of_getElem? (i := 86) rfl)) (by decide +kernel)), ⟨by decide, by decide, by decide +kernel⟩, by decide⟩
set_option maxRecDepth 100000 in
theorem mv_X10_133 : mV RX10 133 mX10_takePlay 0 := ⟨(tG_of (tb3 (List.mem_of_getElem? (i := 83) rfl)) (by decide +kernel)), mi_X10_takePlay⟩
theorem dX10_takePlay_0 : decode cX10_takePlay 0 = .ok (.aload_n 0, 1) := dc_42 (byA eNcX10_takePlay (p := 0) (v := 42) (by decide +kernel))
theorem dX10_takePlay_1 : decode cX10_takePlay 1 = .ok (.getfield 159, 3) := dc_180 (byA eNcX10_takePlay (p := 1) (v := 180) (by decide +kernel)) (byA eNcX10_takePlay (p := 2) (v := 0) (by decide +kernel)) (byA eNcX10_takePlay (p := 3) (v := 159) (by decide +kernel)) rfl
theorem dX10_takePlay_4 : decode cX10_takePlay 4 = .ok (.iconst 5, 1) := dc_8 (byA eNcX10_takePlay (p := 4) (v := 8) (by decide +kernel))
theorem dX10_takePlay_5 : decode cX10_takePlay 5 = .ok (.if_icmp .lt 5, 3) := dc_161 (byA eNcX10_takePlay (p := 5) (v := 161) (by decide +kernel)) (byA eNcX10_takePlay (p := 6) (v := 0) (by decide +kernel)) (byA eNcX10_takePlay (p := 7) (v := 5) (by decide +kernel)) (by decide +kernel)
theorem dX10_takePlay_8 : decode cX10_takePlay 8 = .ok (.iconst (-1), 1) := dc_2 (byA eNcX10_takePlay (p := 8) (v := 2) (by decide +kernel))
theorem dX10_takePlay_9 : decode cX10_takePlay 9 = .ok (.ireturn, 1) := dc_172 (byA eNcX10_takePlay (p := 9) (v := 172) (by decide +kernel))
theorem dX10_takePlay_10 : decode cX10_takePlay 10 = .ok (.aload_n 0, 1) := dc_42 (byA eNcX10_takePlay (p := 10) (v := 42) (by decide +kernel))
theorem dX10_takePlay_11 : decode cX10_takePlay 11 = .ok (.getfield 21, 3) := dc_180 (byA eNcX10_takePlay (p := 11) (v := 180) (by decide +kernel)) (byA eNcX10_takePlay (p := 12) (v := 0) (by decide +kernel)) (byA eNcX10_takePlay (p := 13) (v := 21) (by decide +kernel)) rfl
theorem dX10_takePlay_14 : decode cX10_takePlay 14 = .ok (.aload_n 0, 1) := dc_42 (byA eNcX10_takePlay (p := 14) (v := 42) (by decide +kernel))
theorem dX10_takePlay_15 : decode cX10_takePlay 15 = .ok (.getfield 10, 3) := dc_180 (byA eNcX10_takePlay (p := 15) (v := 180) (by decide +kernel)) (byA eNcX10_takePlay (p := 16) (v := 0) (by decide +kernel)) (byA eNcX10_takePlay (p := 17) (v := 10) (by decide +kernel)) rfl
theorem dX10_takePlay_18 : decode cX10_takePlay 18 = .ok (.invokevirtual 139, 3) := dc_182 (byA eNcX10_takePlay (p := 18) (v := 182) (by decide +kernel)) (byA eNcX10_takePlay (p := 19) (v := 0) (by decide +kernel)) (byA eNcX10_takePlay (p := 20) (v := 139) (by decide +kernel)) rfl
theorem dX10_takePlay_21 : decode cX10_takePlay 21 = .ok (.aload_n 0, 1) := dc_42 (byA eNcX10_takePlay (p := 21) (v := 42) (by decide +kernel))
theorem dX10_takePlay_22 : decode cX10_takePlay 22 = .ok (.getfield 49, 3) := dc_180 (byA eNcX10_takePlay (p := 22) (v := 180) (by decide +kernel)) (byA eNcX10_takePlay (p := 23) (v := 0) (by decide +kernel)) (byA eNcX10_takePlay (p := 24) (v := 49) (by decide +kernel)) rfl
theorem dX10_takePlay_25 : decode cX10_takePlay 25 = .ok (.aload_n 0, 1) := dc_42 (byA eNcX10_takePlay (p := 25) (v := 42) (by decide +kernel))
theorem dX10_takePlay_26 : decode cX10_takePlay 26 = .ok (.getfield 159, 3) := dc_180 (byA eNcX10_takePlay (p := 26) (v := 180) (by decide +kernel)) (byA eNcX10_takePlay (p := 27) (v := 0) (by decide +kernel)) (byA eNcX10_takePlay (p := 28) (v := 159) (by decide +kernel)) rfl
theorem dX10_takePlay_29 : decode cX10_takePlay 29 = .ok (.aaload, 1) := dc_50 (byA eNcX10_takePlay (p := 29) (v := 50) (by decide +kernel))
theorem dX10_takePlay_30 : decode cX10_takePlay 30 = .ok (.aload_n 0, 1) := dc_42 (byA eNcX10_takePlay (p := 30) (v := 42) (by decide +kernel))
theorem dX10_takePlay_31 : decode cX10_takePlay 31 = .ok (.getfield 21, 3) := dc_180 (byA eNcX10_takePlay (p := 31) (v := 180) (by decide +kernel)) (byA eNcX10_takePlay (p := 32) (v := 0) (by decide +kernel)) (byA eNcX10_takePlay (p := 33) (v := 21) (by decide +kernel)) rfl
theorem dX10_takePlay_34 : decode cX10_takePlay 34 = .ok (.invokevirtual 146, 3) := dc_182 (byA eNcX10_takePlay (p := 34) (v := 182) (by decide +kernel)) (byA eNcX10_takePlay (p := 35) (v := 0) (by decide +kernel)) (byA eNcX10_takePlay (p := 36) (v := 146) (by decide +kernel)) rfl
theorem dX10_takePlay_37 : decode cX10_takePlay 37 = .ok (.pop, 1) := dc_87 (byA eNcX10_takePlay (p := 37) (v := 87) (by decide +kernel))
theorem dX10_takePlay_38 : decode cX10_takePlay 38 = .ok (.aload_n 0, 1) := dc_42 (byA eNcX10_takePlay (p := 38) (v := 42) (by decide +kernel))
theorem dX10_takePlay_39 : decode cX10_takePlay 39 = .ok (.getfield 10, 3) := dc_180 (byA eNcX10_takePlay (p := 39) (v := 180) (by decide +kernel)) (byA eNcX10_takePlay (p := 40) (v := 0) (by decide +kernel)) (byA eNcX10_takePlay (p := 41) (v := 10) (by decide +kernel)) rfl
theorem dX10_takePlay_42 : decode cX10_takePlay 42 = .ok (.iconst 0, 1) := dc_3 (byA eNcX10_takePlay (p := 42) (v := 3) (by decide +kernel))
theorem dX10_takePlay_43 : decode cX10_takePlay 43 = .ok (.invokevirtual 119, 3) := dc_182 (byA eNcX10_takePlay (p := 43) (v := 182) (by decide +kernel)) (byA eNcX10_takePlay (p := 44) (v := 0) (by decide +kernel)) (byA eNcX10_takePlay (p := 45) (v := 119) (by decide +kernel)) rfl
theorem dX10_takePlay_46 : decode cX10_takePlay 46 = .ok (.pop, 1) := dc_87 (byA eNcX10_takePlay (p := 46) (v := 87) (by decide +kernel))
theorem dX10_takePlay_47 : decode cX10_takePlay 47 = .ok (.aload_n 0, 1) := dc_42 (byA eNcX10_takePlay (p := 47) (v := 42) (by decide +kernel))
theorem dX10_takePlay_48 : decode cX10_takePlay 48 = .ok (.dup, 1) := dc_89 (byA eNcX10_takePlay (p := 48) (v := 89) (by decide +kernel))
theorem dX10_takePlay_49 : decode cX10_takePlay 49 = .ok (.getfield 159, 3) := dc_180 (byA eNcX10_takePlay (p := 49) (v := 180) (by decide +kernel)) (byA eNcX10_takePlay (p := 50) (v := 0) (by decide +kernel)) (byA eNcX10_takePlay (p := 51) (v := 159) (by decide +kernel)) rfl
theorem dX10_takePlay_52 : decode cX10_takePlay 52 = .ok (.iconst 1, 1) := dc_4 (byA eNcX10_takePlay (p := 52) (v := 4) (by decide +kernel))
theorem dX10_takePlay_53 : decode cX10_takePlay 53 = .ok (.iadd, 1) := dc_96 (byA eNcX10_takePlay (p := 53) (v := 96) (by decide +kernel))
theorem dX10_takePlay_54 : decode cX10_takePlay 54 = .ok (.putfield 159, 3) := dc_181 (byA eNcX10_takePlay (p := 54) (v := 181) (by decide +kernel)) (byA eNcX10_takePlay (p := 55) (v := 0) (by decide +kernel)) (byA eNcX10_takePlay (p := 56) (v := 159) (by decide +kernel)) rfl
theorem dX10_takePlay_57 : decode cX10_takePlay 57 = .ok (.aload_n 0, 1) := dc_42 (byA eNcX10_takePlay (p := 57) (v := 42) (by decide +kernel))
theorem dX10_takePlay_58 : decode cX10_takePlay 58 = .ok (.getfield 159, 3) := dc_180 (byA eNcX10_takePlay (p := 58) (v := 180) (by decide +kernel)) (byA eNcX10_takePlay (p := 59) (v := 0) (by decide +kernel)) (byA eNcX10_takePlay (p := 60) (v := 159) (by decide +kernel)) rfl
theorem dX10_takePlay_61 : decode cX10_takePlay 61 = .ok (.iconst 1, 1) := dc_4 (byA eNcX10_takePlay (p := 61) (v := 4) (by decide +kernel))
theorem dX10_takePlay_62 : decode cX10_takePlay 62 = .ok (.isub, 1) := dc_100 (byA eNcX10_takePlay (p := 62) (v := 100) (by decide +kernel))
theorem dX10_takePlay_63 : decode cX10_takePlay 63 = .ok (.ireturn, 1) := dc_172 (byA eNcX10_takePlay (p := 63) (v := 172) (by decide +kernel))
def X10_takePlay (μ : Mm) : Rs := if (μ 0 15) < 5 then (bd (X4_open 1 μ) fun v2 μ3 => aL 17 (μ3 0 15) fun v5 => bd (X3_read v5 μ3) fun v7 μ8 => bd (X7_cut 1 0 μ8) fun v10 μ11 => sF μ11 0 15 (iA (μ11 0 15) 1) fun μ13 => some (iS (μ13 0 15) 1, μ13)) else (some ((-1), μ))
set_option maxHeartbeats 4000000 in
set_option maxRecDepth 100000 in
theorem kX10_takePlay (d : Nat) (hd : 5 ≤ d) {μ : Mm} {r : Int} {μ' : Mm} (h : X10_takePlay μ = some (r, μ')) : CC d mX10_takePlay [vR 0] μ r μ' := by
  unfold X10_takePlay at h
  refine V_enter (by decide) (Nat.le_of_ble_eq_true rfl) ?_
  show VV d mX10_takePlay 0 [some (vR 0)] [] μ r μ'
  refine V_aload_n (q := 1) dX10_takePlay_0 rfl rfl rfl ?_
  refine V_getI (q := 4) fl_X10_159 rfl rfl rfl dX10_takePlay_1 rfl ?_
  refine V_iconst (q := 5) dX10_takePlay_4 rfl rfl ?_
  refine V_icmplt (q := 10) (q2 := 8) dX10_takePlay_5 (by decide) rfl (fun hc1 => ?_) (fun hc1 => ?_)
  · have h := ifT hc1 h
    refine V_aload_n (q := 11) dX10_takePlay_10 rfl rfl rfl ?_
    refine V_getO (q := 14) (t := 3) fl_X10_21 rfl rfl rfl rfl dX10_takePlay_11 rfl ?_
    refine V_aload_n (q := 15) dX10_takePlay_14 rfl rfl rfl ?_
    refine V_getO (q := 18) (t := 1) fl_X10_10 rfl rfl rfl rfl dX10_takePlay_15 rfl ?_
    obtain ⟨v2, μ3, hc4, h⟩ := bd_i h
    refine V_cV0 (q := 21) (kX4_open (d - 1) (by omega) rfl hc4) (by omega) mv_X10_139 rfl rfl rfl rfl rfl rfl dX10_takePlay_18 rfl ?_
    refine V_aload_n (q := 22) dX10_takePlay_21 rfl rfl rfl ?_
    refine V_getO (q := 25) (t := 17) fl_X10_49 rfl rfl rfl rfl dX10_takePlay_22 rfl ?_
    refine V_aload_n (q := 26) dX10_takePlay_25 rfl rfl rfl ?_
    refine V_getI (q := 29) fl_X10_159 rfl rfl rfl dX10_takePlay_26 rfl ?_
    obtain ⟨hi6, h⟩ := aL_i h
    refine V_aaload (q := 30) (c2 := 1) rfl (Or.inl rfl) hi6 dX10_takePlay_29 rfl ?_
    refine V_aload_n (q := 31) dX10_takePlay_30 rfl rfl rfl ?_
    refine V_getO (q := 34) (t := 3) fl_X10_21 rfl rfl rfl rfl dX10_takePlay_31 rfl ?_
    obtain ⟨v7, μ8, hc9, h⟩ := bd_i h
    refine V_cV1 (q := 37) (v := vI v7) (kX3_read (d - 1) (by omega) (kA17 hi6) hc9) (by omega) mv_X10_146 (kA17 hi6) rfl rfl rfl rfl rfl dX10_takePlay_34 rfl ?_
    refine V_pop (q := 38) dX10_takePlay_37 trivial rfl ?_
    refine V_aload_n (q := 39) dX10_takePlay_38 rfl rfl rfl ?_
    refine V_getO (q := 42) (t := 1) fl_X10_10 rfl rfl rfl rfl dX10_takePlay_39 rfl ?_
    refine V_iconst (q := 43) dX10_takePlay_42 rfl rfl ?_
    obtain ⟨v10, μ11, hc12, h⟩ := bd_i h
    refine V_cV1 (q := 46) (v := vI v10) (kX7_cut (d - 1) (by omega) rfl hc12) (by omega) mv_X10_119 rfl rfl rfl rfl rfl rfl dX10_takePlay_43 rfl ?_
    refine V_pop (q := 47) dX10_takePlay_46 trivial rfl ?_
    refine V_aload_n (q := 48) dX10_takePlay_47 rfl rfl rfl ?_
    refine V_dup (q := 49) dX10_takePlay_48 trivial rfl ?_
    refine V_getI (q := 52) fl_X10_159 rfl rfl rfl dX10_takePlay_49 rfl ?_
    refine V_iconst (q := 53) dX10_takePlay_52 rfl rfl ?_
    refine V_iadd (q := 54) dX10_takePlay_53 rfl ?_
    have h := sF_i h
    refine V_putI (q := 57) fl_X10_159 rfl rfl rfl dX10_takePlay_54 rfl ?_
    refine V_aload_n (q := 58) dX10_takePlay_57 rfl rfl rfl ?_
    refine V_getI (q := 61) fl_X10_159 rfl rfl rfl dX10_takePlay_58 rfl ?_
    refine V_iconst (q := 62) dX10_takePlay_61 rfl rfl ?_
    refine V_isub (q := 63) dX10_takePlay_62 rfl ?_
    exact V_iret rfl h dX10_takePlay_63
  · have h := ifF hc1 h
    refine V_iconst (q := 9) dX10_takePlay_8 rfl rfl ?_
    exact V_iret rfl h dX10_takePlay_9
abbrev mX10_takeLaw : Mth := (yX10_takeLaw, cX10_takeLaw, 1, some .int)
set_option maxRecDepth 100000 in
theorem mi_X10_takeLaw : Cond.instanceMethod yX10_takeLaw ∈ tG ∧ Cond.selects yX10_takeLaw.cls yX10_takeLaw yX10_takeLaw ∈ tG ∧ Cond.initialized yX10_takeLaw.cls ∈ tG ∧ Cond.code yX10_takeLaw cX10_takeLaw 1 (some .int) ∈ tG ∧ (yX10_takeLaw.cls ≠ "java/lang/invoke/MethodHandle" ∧ yX10_takeLaw.cls ≠ "java/lang/invoke/VarHandle" ∧ (parseMethodDescriptor yX10_takeLaw.desc).map (fun d => d.parameters.length) = some 0) ∧ 1 ≤ 60 := ⟨(tG_of (tb3 (List.mem_of_getElem? (i := 89) rfl)) (by decide +kernel)), (tG_of (List.mem_of_getElem? (i := 18) (by decide +kernel)) (by decide +kernel)), (tG_of (tb1 (List.mem_of_getElem? (i := 1) rfl)) (by decide +kernel)), (tG_of (tb3 (List.mem_of_getElem? (i := 90) rfl)) (by decide +kernel)), ⟨by decide, by decide, by decide +kernel⟩, by decide⟩
set_option maxRecDepth 100000 in
theorem mv_X10_136 : mV RX10 136 mX10_takeLaw 0 := ⟨(tG_of (tb3 (List.mem_of_getElem? (i := 87) rfl)) (by decide +kernel)), mi_X10_takeLaw⟩
theorem dX10_takeLaw_0 : decode cX10_takeLaw 0 = .ok (.aload_n 0, 1) := dc_42 (byA eNcX10_takeLaw (p := 0) (v := 42) (by decide +kernel))
theorem dX10_takeLaw_1 : decode cX10_takeLaw 1 = .ok (.getfield 162, 3) := dc_180 (byA eNcX10_takeLaw (p := 1) (v := 180) (by decide +kernel)) (byA eNcX10_takeLaw (p := 2) (v := 0) (by decide +kernel)) (byA eNcX10_takeLaw (p := 3) (v := 162) (by decide +kernel)) rfl
theorem dX10_takeLaw_4 : decode cX10_takeLaw 4 = .ok (.iconst 4, 1) := dc_7 (byA eNcX10_takeLaw (p := 4) (v := 7) (by decide +kernel))
theorem dX10_takeLaw_5 : decode cX10_takeLaw 5 = .ok (.if_icmp .lt 5, 3) := dc_161 (byA eNcX10_takeLaw (p := 5) (v := 161) (by decide +kernel)) (byA eNcX10_takeLaw (p := 6) (v := 0) (by decide +kernel)) (byA eNcX10_takeLaw (p := 7) (v := 5) (by decide +kernel)) (by decide +kernel)
theorem dX10_takeLaw_8 : decode cX10_takeLaw 8 = .ok (.iconst (-1), 1) := dc_2 (byA eNcX10_takeLaw (p := 8) (v := 2) (by decide +kernel))
theorem dX10_takeLaw_9 : decode cX10_takeLaw 9 = .ok (.ireturn, 1) := dc_172 (byA eNcX10_takeLaw (p := 9) (v := 172) (by decide +kernel))
theorem dX10_takeLaw_10 : decode cX10_takeLaw 10 = .ok (.aload_n 0, 1) := dc_42 (byA eNcX10_takeLaw (p := 10) (v := 42) (by decide +kernel))
theorem dX10_takeLaw_11 : decode cX10_takeLaw 11 = .ok (.getfield 58, 3) := dc_180 (byA eNcX10_takeLaw (p := 11) (v := 180) (by decide +kernel)) (byA eNcX10_takeLaw (p := 12) (v := 0) (by decide +kernel)) (byA eNcX10_takeLaw (p := 13) (v := 58) (by decide +kernel)) rfl
theorem dX10_takeLaw_14 : decode cX10_takeLaw 14 = .ok (.aload_n 0, 1) := dc_42 (byA eNcX10_takeLaw (p := 14) (v := 42) (by decide +kernel))
theorem dX10_takeLaw_15 : decode cX10_takeLaw 15 = .ok (.getfield 162, 3) := dc_180 (byA eNcX10_takeLaw (p := 15) (v := 180) (by decide +kernel)) (byA eNcX10_takeLaw (p := 16) (v := 0) (by decide +kernel)) (byA eNcX10_takeLaw (p := 17) (v := 162) (by decide +kernel)) rfl
theorem dX10_takeLaw_18 : decode cX10_takeLaw 18 = .ok (.aaload, 1) := dc_50 (byA eNcX10_takeLaw (p := 18) (v := 50) (by decide +kernel))
theorem dX10_takeLaw_19 : decode cX10_takeLaw 19 = .ok (.aload_n 0, 1) := dc_42 (byA eNcX10_takeLaw (p := 19) (v := 42) (by decide +kernel))
theorem dX10_takeLaw_20 : decode cX10_takeLaw 20 = .ok (.getfield 10, 3) := dc_180 (byA eNcX10_takeLaw (p := 20) (v := 180) (by decide +kernel)) (byA eNcX10_takeLaw (p := 21) (v := 0) (by decide +kernel)) (byA eNcX10_takeLaw (p := 22) (v := 10) (by decide +kernel)) rfl
theorem dX10_takeLaw_23 : decode cX10_takeLaw 23 = .ok (.invokevirtual 165, 3) := dc_182 (byA eNcX10_takeLaw (p := 23) (v := 182) (by decide +kernel)) (byA eNcX10_takeLaw (p := 24) (v := 0) (by decide +kernel)) (byA eNcX10_takeLaw (p := 25) (v := 165) (by decide +kernel)) rfl
theorem dX10_takeLaw_26 : decode cX10_takeLaw 26 = .ok (.aload_n 0, 1) := dc_42 (byA eNcX10_takeLaw (p := 26) (v := 42) (by decide +kernel))
theorem dX10_takeLaw_27 : decode cX10_takeLaw 27 = .ok (.getfield 10, 3) := dc_180 (byA eNcX10_takeLaw (p := 27) (v := 180) (by decide +kernel)) (byA eNcX10_takeLaw (p := 28) (v := 0) (by decide +kernel)) (byA eNcX10_takeLaw (p := 29) (v := 10) (by decide +kernel)) rfl
theorem dX10_takeLaw_30 : decode cX10_takeLaw 30 = .ok (.iconst 0, 1) := dc_3 (byA eNcX10_takeLaw (p := 30) (v := 3) (by decide +kernel))
theorem dX10_takeLaw_31 : decode cX10_takeLaw 31 = .ok (.invokevirtual 119, 3) := dc_182 (byA eNcX10_takeLaw (p := 31) (v := 182) (by decide +kernel)) (byA eNcX10_takeLaw (p := 32) (v := 0) (by decide +kernel)) (byA eNcX10_takeLaw (p := 33) (v := 119) (by decide +kernel)) rfl
theorem dX10_takeLaw_34 : decode cX10_takeLaw 34 = .ok (.pop, 1) := dc_87 (byA eNcX10_takeLaw (p := 34) (v := 87) (by decide +kernel))
theorem dX10_takeLaw_35 : decode cX10_takeLaw 35 = .ok (.aload_n 0, 1) := dc_42 (byA eNcX10_takeLaw (p := 35) (v := 42) (by decide +kernel))
theorem dX10_takeLaw_36 : decode cX10_takeLaw 36 = .ok (.dup, 1) := dc_89 (byA eNcX10_takeLaw (p := 36) (v := 89) (by decide +kernel))
theorem dX10_takeLaw_37 : decode cX10_takeLaw 37 = .ok (.getfield 162, 3) := dc_180 (byA eNcX10_takeLaw (p := 37) (v := 180) (by decide +kernel)) (byA eNcX10_takeLaw (p := 38) (v := 0) (by decide +kernel)) (byA eNcX10_takeLaw (p := 39) (v := 162) (by decide +kernel)) rfl
theorem dX10_takeLaw_40 : decode cX10_takeLaw 40 = .ok (.iconst 1, 1) := dc_4 (byA eNcX10_takeLaw (p := 40) (v := 4) (by decide +kernel))
theorem dX10_takeLaw_41 : decode cX10_takeLaw 41 = .ok (.iadd, 1) := dc_96 (byA eNcX10_takeLaw (p := 41) (v := 96) (by decide +kernel))
theorem dX10_takeLaw_42 : decode cX10_takeLaw 42 = .ok (.putfield 162, 3) := dc_181 (byA eNcX10_takeLaw (p := 42) (v := 181) (by decide +kernel)) (byA eNcX10_takeLaw (p := 43) (v := 0) (by decide +kernel)) (byA eNcX10_takeLaw (p := 44) (v := 162) (by decide +kernel)) rfl
theorem dX10_takeLaw_45 : decode cX10_takeLaw 45 = .ok (.aload_n 0, 1) := dc_42 (byA eNcX10_takeLaw (p := 45) (v := 42) (by decide +kernel))
theorem dX10_takeLaw_46 : decode cX10_takeLaw 46 = .ok (.getfield 162, 3) := dc_180 (byA eNcX10_takeLaw (p := 46) (v := 180) (by decide +kernel)) (byA eNcX10_takeLaw (p := 47) (v := 0) (by decide +kernel)) (byA eNcX10_takeLaw (p := 48) (v := 162) (by decide +kernel)) rfl
theorem dX10_takeLaw_49 : decode cX10_takeLaw 49 = .ok (.iconst 1, 1) := dc_4 (byA eNcX10_takeLaw (p := 49) (v := 4) (by decide +kernel))
theorem dX10_takeLaw_50 : decode cX10_takeLaw 50 = .ok (.isub, 1) := dc_100 (byA eNcX10_takeLaw (p := 50) (v := 100) (by decide +kernel))
theorem dX10_takeLaw_51 : decode cX10_takeLaw 51 = .ok (.ireturn, 1) := dc_172 (byA eNcX10_takeLaw (p := 51) (v := 172) (by decide +kernel))
def X10_takeLaw (μ : Mm) : Rs := if (μ 0 16) < 4 then (aL 36 (μ 0 16) fun v2 => bd (X7_copy v2 1 μ) fun v4 μ5 => bd (X7_cut 1 0 μ5) fun v7 μ8 => sF μ8 0 16 (iA (μ8 0 16) 1) fun μ10 => some (iS (μ10 0 16) 1, μ10)) else (some ((-1), μ))
set_option maxHeartbeats 4000000 in
set_option maxRecDepth 100000 in
theorem kX10_takeLaw (d : Nat) (hd : 2 ≤ d) {μ : Mm} {r : Int} {μ' : Mm} (h : X10_takeLaw μ = some (r, μ')) : CC d mX10_takeLaw [vR 0] μ r μ' := by
  unfold X10_takeLaw at h
  refine V_enter (by decide) (Nat.le_of_ble_eq_true rfl) ?_
  show VV d mX10_takeLaw 0 [some (vR 0)] [] μ r μ'
  refine V_aload_n (q := 1) dX10_takeLaw_0 rfl rfl rfl ?_
  refine V_getI (q := 4) fl_X10_162 rfl rfl rfl dX10_takeLaw_1 rfl ?_
  refine V_iconst (q := 5) dX10_takeLaw_4 rfl rfl ?_
  refine V_icmplt (q := 10) (q2 := 8) dX10_takeLaw_5 (by decide) rfl (fun hc1 => ?_) (fun hc1 => ?_)
  · have h := ifT hc1 h
    refine V_aload_n (q := 11) dX10_takeLaw_10 rfl rfl rfl ?_
    refine V_getO (q := 14) (t := 36) fl_X10_58 rfl rfl rfl rfl dX10_takeLaw_11 rfl ?_
    refine V_aload_n (q := 15) dX10_takeLaw_14 rfl rfl rfl ?_
    refine V_getI (q := 18) fl_X10_162 rfl rfl rfl dX10_takeLaw_15 rfl ?_
    obtain ⟨hi3, h⟩ := aL_i h
    refine V_aaload (q := 19) (c2 := 2) rfl (Or.inr rfl) hi3 dX10_takeLaw_18 rfl ?_
    refine V_aload_n (q := 20) dX10_takeLaw_19 rfl rfl rfl ?_
    refine V_getO (q := 23) (t := 1) fl_X10_10 rfl rfl rfl rfl dX10_takeLaw_20 rfl ?_
    obtain ⟨v4, μ5, hc6, h⟩ := bd_i h
    refine V_cV0 (q := 26) (kX7_copy (d - 1) (by omega) (kA36 hi3) rfl hc6) (by omega) mv_X10_165 (kA36 hi3) rfl rfl rfl rfl rfl dX10_takeLaw_23 rfl ?_
    refine V_aload_n (q := 27) dX10_takeLaw_26 rfl rfl rfl ?_
    refine V_getO (q := 30) (t := 1) fl_X10_10 rfl rfl rfl rfl dX10_takeLaw_27 rfl ?_
    refine V_iconst (q := 31) dX10_takeLaw_30 rfl rfl ?_
    obtain ⟨v7, μ8, hc9, h⟩ := bd_i h
    refine V_cV1 (q := 34) (v := vI v7) (kX7_cut (d - 1) (by omega) rfl hc9) (by omega) mv_X10_119 rfl rfl rfl rfl rfl rfl dX10_takeLaw_31 rfl ?_
    refine V_pop (q := 35) dX10_takeLaw_34 trivial rfl ?_
    refine V_aload_n (q := 36) dX10_takeLaw_35 rfl rfl rfl ?_
    refine V_dup (q := 37) dX10_takeLaw_36 trivial rfl ?_
    refine V_getI (q := 40) fl_X10_162 rfl rfl rfl dX10_takeLaw_37 rfl ?_
    refine V_iconst (q := 41) dX10_takeLaw_40 rfl rfl ?_
    refine V_iadd (q := 42) dX10_takeLaw_41 rfl ?_
    have h := sF_i h
    refine V_putI (q := 45) fl_X10_162 rfl rfl rfl dX10_takeLaw_42 rfl ?_
    refine V_aload_n (q := 46) dX10_takeLaw_45 rfl rfl rfl ?_
    refine V_getI (q := 49) fl_X10_162 rfl rfl rfl dX10_takeLaw_46 rfl ?_
    refine V_iconst (q := 50) dX10_takeLaw_49 rfl rfl ?_
    refine V_isub (q := 51) dX10_takeLaw_50 rfl ?_
    exact V_iret rfl h dX10_takeLaw_51
  · have h := ifF hc1 h
    refine V_iconst (q := 9) dX10_takeLaw_8 rfl rfl ?_
    exact V_iret rfl h dX10_takeLaw_9
abbrev mX10_text : Mth := (yX10_text, cX10_text, 2, some .int)
set_option maxRecDepth 100000 in
theorem mi_X10_text : Cond.instanceMethod yX10_text ∈ tG ∧ Cond.selects yX10_text.cls yX10_text yX10_text ∈ tG ∧ Cond.initialized yX10_text.cls ∈ tG ∧ Cond.code yX10_text cX10_text 2 (some .int) ∈ tG ∧ (yX10_text.cls ≠ "java/lang/invoke/MethodHandle" ∧ yX10_text.cls ≠ "java/lang/invoke/VarHandle" ∧ (parseMethodDescriptor yX10_text.desc).map (fun d => d.parameters.length) = some 1) ∧ 2 ≤ 60 := ⟨(tG_of (tb3 (List.mem_of_getElem? (i := 75) rfl)) (by decide +kernel)), (tG_of (tb3 (List.mem_of_getElem? (i := 76) rfl)) (by decide +kernel)), (tG_of (tb1 (List.mem_of_getElem? (i := 1) rfl)) (by decide +kernel)), (tG_of (tb3 (List.mem_of_getElem? (i := 77) rfl)) (by decide +kernel)), ⟨by decide, by decide, by decide +kernel⟩, by decide⟩
theorem dX10_text_0 : decode cX10_text 0 = .ok (.iload_n 1, 1) := dc_27 (byA eNcX10_text (p := 0) (v := 27) (by decide +kernel))
theorem dX10_text_1 : decode cX10_text 1 = .ok (.invokestatic 123, 3) := dc_184 (byA eNcX10_text (p := 1) (v := 184) (by decide +kernel)) (byA eNcX10_text (p := 2) (v := 0) (by decide +kernel)) (byA eNcX10_text (p := 3) (v := 123) (by decide +kernel)) rfl
theorem dX10_text_4 : decode cX10_text 4 = .ok (.ifCond .eq 12, 3) := dc_153 (byA eNcX10_text (p := 4) (v := 153) (by decide +kernel)) (byA eNcX10_text (p := 5) (v := 0) (by decide +kernel)) (byA eNcX10_text (p := 6) (v := 12) (by decide +kernel)) (by decide +kernel)
theorem dX10_text_7 : decode cX10_text 7 = .ok (.aload_n 0, 1) := dc_42 (byA eNcX10_text (p := 7) (v := 42) (by decide +kernel))
theorem dX10_text_8 : decode cX10_text 8 = .ok (.iload_n 1, 1) := dc_27 (byA eNcX10_text (p := 8) (v := 27) (by decide +kernel))
theorem dX10_text_9 : decode cX10_text 9 = .ok (.invokevirtual 126, 3) := dc_182 (byA eNcX10_text (p := 9) (v := 182) (by decide +kernel)) (byA eNcX10_text (p := 10) (v := 0) (by decide +kernel)) (byA eNcX10_text (p := 11) (v := 126) (by decide +kernel)) rfl
theorem dX10_text_12 : decode cX10_text 12 = .ok (.iconst (-1), 1) := dc_2 (byA eNcX10_text (p := 12) (v := 2) (by decide +kernel))
theorem dX10_text_13 : decode cX10_text 13 = .ok (.if_icmp .eq 5, 3) := dc_159 (byA eNcX10_text (p := 13) (v := 159) (by decide +kernel)) (byA eNcX10_text (p := 14) (v := 0) (by decide +kernel)) (byA eNcX10_text (p := 15) (v := 5) (by decide +kernel)) (by decide +kernel)
theorem dX10_text_16 : decode cX10_text 16 = .ok (.iconst (-1), 1) := dc_2 (byA eNcX10_text (p := 16) (v := 2) (by decide +kernel))
theorem dX10_text_17 : decode cX10_text 17 = .ok (.ireturn, 1) := dc_172 (byA eNcX10_text (p := 17) (v := 172) (by decide +kernel))
theorem dX10_text_18 : decode cX10_text 18 = .ok (.iload_n 1, 1) := dc_27 (byA eNcX10_text (p := 18) (v := 27) (by decide +kernel))
theorem dX10_text_19 : decode cX10_text 19 = .ok (.ifCond .ne 8, 3) := dc_154 (byA eNcX10_text (p := 19) (v := 154) (by decide +kernel)) (byA eNcX10_text (p := 20) (v := 0) (by decide +kernel)) (byA eNcX10_text (p := 21) (v := 8) (by decide +kernel)) (by decide +kernel)
theorem dX10_text_22 : decode cX10_text 22 = .ok (.aload_n 0, 1) := dc_42 (byA eNcX10_text (p := 22) (v := 42) (by decide +kernel))
theorem dX10_text_23 : decode cX10_text 23 = .ok (.invokevirtual 129, 3) := dc_182 (byA eNcX10_text (p := 23) (v := 182) (by decide +kernel)) (byA eNcX10_text (p := 24) (v := 0) (by decide +kernel)) (byA eNcX10_text (p := 25) (v := 129) (by decide +kernel)) rfl
theorem dX10_text_26 : decode cX10_text 26 = .ok (.ireturn, 1) := dc_172 (byA eNcX10_text (p := 26) (v := 172) (by decide +kernel))
theorem dX10_text_27 : decode cX10_text 27 = .ok (.iload_n 1, 1) := dc_27 (byA eNcX10_text (p := 27) (v := 27) (by decide +kernel))
theorem dX10_text_28 : decode cX10_text 28 = .ok (.iconst 1, 1) := dc_4 (byA eNcX10_text (p := 28) (v := 4) (by decide +kernel))
theorem dX10_text_29 : decode cX10_text 29 = .ok (.if_icmp .ne 10, 3) := dc_160 (byA eNcX10_text (p := 29) (v := 160) (by decide +kernel)) (byA eNcX10_text (p := 30) (v := 0) (by decide +kernel)) (byA eNcX10_text (p := 31) (v := 10) (by decide +kernel)) (by decide +kernel)
theorem dX10_text_32 : decode cX10_text 32 = .ok (.aload_n 0, 1) := dc_42 (byA eNcX10_text (p := 32) (v := 42) (by decide +kernel))
theorem dX10_text_33 : decode cX10_text 33 = .ok (.invokevirtual 133, 3) := dc_182 (byA eNcX10_text (p := 33) (v := 182) (by decide +kernel)) (byA eNcX10_text (p := 34) (v := 0) (by decide +kernel)) (byA eNcX10_text (p := 35) (v := 133) (by decide +kernel)) rfl
theorem dX10_text_36 : decode cX10_text 36 = .ok (.goto 7, 3) := dc_167 (byA eNcX10_text (p := 36) (v := 167) (by decide +kernel)) (byA eNcX10_text (p := 37) (v := 0) (by decide +kernel)) (byA eNcX10_text (p := 38) (v := 7) (by decide +kernel)) (by decide +kernel)
theorem dX10_text_39 : decode cX10_text 39 = .ok (.aload_n 0, 1) := dc_42 (byA eNcX10_text (p := 39) (v := 42) (by decide +kernel))
theorem dX10_text_40 : decode cX10_text 40 = .ok (.invokevirtual 136, 3) := dc_182 (byA eNcX10_text (p := 40) (v := 182) (by decide +kernel)) (byA eNcX10_text (p := 41) (v := 0) (by decide +kernel)) (byA eNcX10_text (p := 42) (v := 136) (by decide +kernel)) rfl
theorem dX10_text_43 : decode cX10_text 43 = .ok (.ireturn, 1) := dc_172 (byA eNcX10_text (p := 43) (v := 172) (by decide +kernel))
def X10_text (l1 : Int) (μ : Mm) : Rs := bd (X10_isSort l1 μ) fun v1 μ2 => if v1 = 0 then (some ((-1), μ2)) else (bd (X10_faultOfTape l1 μ2) fun v5 μ6 => if v5 = (-1) then (if l1 = 0 then (bd (X10_takeCellar μ6) fun v17 μ18 => some (v17, μ18)) else (if l1 = 1 then (bd (X10_takePlay μ6) fun v14 μ15 => some (v14, μ15)) else (bd (X10_takeLaw μ6) fun v11 μ12 => some (v11, μ12)))) else (some ((-1), μ6)))
set_option maxHeartbeats 4000000 in
set_option maxRecDepth 100000 in
theorem kX10_text (d : Nat) (hd : 272 ≤ d) {l1 : Int} {μ : Mm} {r : Int} {μ' : Mm} (h : X10_text l1 μ = some (r, μ')) : CC d mX10_text [vR 0, vI l1] μ r μ' := by
  unfold X10_text at h
  refine V_enter (by decide) (Nat.le_of_ble_eq_true rfl) ?_
  show VV d mX10_text 0 [some (vR 0), some (vI l1)] [] μ r μ'
  refine V_iload_n (q := 1) dX10_text_0 rfl rfl rfl ?_
  obtain ⟨v1, μ2, hc3, h⟩ := bd_i h
  refine V_cS1 (q := 4) (v := vI v1) (kX10_isSort (d - 1) (by omega) hc3) (by omega) mv_X10_123 rfl rfl rfl rfl dX10_text_1 rfl ?_
  refine V_ifeq (q := 16) (q2 := 7) dX10_text_4 (by decide) rfl (fun hc4 => ?_) (fun hc4 => ?_)
  · have h := ifT hc4 h
    refine V_iconst (q := 17) dX10_text_16 rfl rfl ?_
    exact V_iret rfl h dX10_text_17
  · have h := ifF hc4 h
    refine V_aload_n (q := 8) dX10_text_7 rfl rfl rfl ?_
    refine V_iload_n (q := 9) dX10_text_8 rfl rfl rfl ?_
    obtain ⟨v5, μ6, hc7, h⟩ := bd_i h
    refine V_cV1 (q := 12) (v := vI v5) (kX10_faultOfTape (d - 1) (by omega) hc7) (by omega) mv_X10_126 rfl rfl rfl rfl rfl rfl dX10_text_9 rfl ?_
    refine V_iconst (q := 13) dX10_text_12 rfl rfl ?_
    refine V_icmpeq (q := 18) (q2 := 16) dX10_text_13 (by decide) rfl (fun hc8 => ?_) (fun hc8 => ?_)
    · have h := ifT hc8 h
      refine V_iload_n (q := 19) dX10_text_18 rfl rfl rfl ?_
      refine V_ifne (q := 27) (q2 := 22) dX10_text_19 (by decide) rfl (fun hc9 => ?_) (fun hc9 => ?_)
      · have h := ifF hc9 h
        refine V_iload_n (q := 28) dX10_text_27 rfl rfl rfl ?_
        refine V_iconst (q := 29) dX10_text_28 rfl rfl ?_
        refine V_icmpne (q := 39) (q2 := 32) dX10_text_29 (by decide) rfl (fun hc10 => ?_) (fun hc10 => ?_)
        · have h := ifF hc10 h
          refine V_aload_n (q := 40) dX10_text_39 rfl rfl rfl ?_
          obtain ⟨v11, μ12, hc13, h⟩ := bd_i h
          refine V_cV1 (q := 43) (v := vI v11) (kX10_takeLaw (d - 1) (by omega) hc13) (by omega) mv_X10_136 rfl rfl rfl rfl rfl rfl dX10_text_40 rfl ?_
          exact V_iret rfl h dX10_text_43
        · have h := ifT hc10 h
          refine V_aload_n (q := 33) dX10_text_32 rfl rfl rfl ?_
          obtain ⟨v14, μ15, hc16, h⟩ := bd_i h
          refine V_cV1 (q := 36) (v := vI v14) (kX10_takePlay (d - 1) (by omega) hc16) (by omega) mv_X10_133 rfl rfl rfl rfl rfl rfl dX10_text_33 rfl ?_
          refine V_goto (q := 43) dX10_text_36 (by decide) ?_
          exact V_iret rfl h dX10_text_43
      · have h := ifT hc9 h
        refine V_aload_n (q := 23) dX10_text_22 rfl rfl rfl ?_
        obtain ⟨v17, μ18, hc19, h⟩ := bd_i h
        refine V_cV1 (q := 26) (v := vI v17) (kX10_takeCellar (d - 1) (by omega) hc19) (by omega) mv_X10_129 rfl rfl rfl rfl rfl rfl dX10_text_23 rfl ?_
        exact V_iret rfl h dX10_text_26
    · have h := ifF hc8 h
      refine V_iconst (q := 17) dX10_text_16 rfl rfl ?_
      exact V_iret rfl h dX10_text_17
abbrev mX10_at : Mth := (yX10_at, cX10_at, 2, some .int)
set_option maxRecDepth 100000 in
theorem mi_X10_at : Cond.instanceMethod yX10_at ∈ tG ∧ Cond.selects yX10_at.cls yX10_at yX10_at ∈ tG ∧ Cond.initialized yX10_at.cls ∈ tG ∧ Cond.code yX10_at cX10_at 2 (some .int) ∈ tG ∧ (yX10_at.cls ≠ "java/lang/invoke/MethodHandle" ∧ yX10_at.cls ≠ "java/lang/invoke/VarHandle" ∧ (parseMethodDescriptor yX10_at.desc).map (fun d => d.parameters.length) = some 1) ∧ 2 ≤ 60 := ⟨(tG_of (tb3 (List.mem_of_getElem? (i := 99) rfl)) (by decide +kernel)), (tG_of (tb3 (List.mem_of_getElem? (i := 100) rfl)) (by decide +kernel)), (tG_of (tb1 (List.mem_of_getElem? (i := 1) rfl)) (by decide +kernel)), (tG_of (tb3 (List.mem_of_getElem? (i := 101) rfl)) (by decide +kernel)), ⟨by decide, by decide, by decide +kernel⟩, by decide⟩
theorem dX10_at_0 : decode cX10_at 0 = .ok (.aload_n 0, 1) := dc_42 (byA eNcX10_at (p := 0) (v := 42) (by decide +kernel))
theorem dX10_at_1 : decode cX10_at 1 = .ok (.getfield 37, 3) := dc_180 (byA eNcX10_at (p := 1) (v := 180) (by decide +kernel)) (byA eNcX10_at (p := 2) (v := 0) (by decide +kernel)) (byA eNcX10_at (p := 3) (v := 37) (by decide +kernel)) rfl
theorem dX10_at_4 : decode cX10_at 4 = .ok (.iload_n 1, 1) := dc_27 (byA eNcX10_at (p := 4) (v := 27) (by decide +kernel))
theorem dX10_at_5 : decode cX10_at 5 = .ok (.invokevirtual 178, 3) := dc_182 (byA eNcX10_at (p := 5) (v := 182) (by decide +kernel)) (byA eNcX10_at (p := 6) (v := 0) (by decide +kernel)) (byA eNcX10_at (p := 7) (v := 178) (by decide +kernel)) rfl
theorem dX10_at_8 : decode cX10_at 8 = .ok (.ireturn, 1) := dc_172 (byA eNcX10_at (p := 8) (v := 172) (by decide +kernel))
def X10_at (l1 : Int) (μ : Mm) : Rs := bd (X0_cellAt 5 l1 μ) fun v1 μ2 => some (v1, μ2)
set_option maxHeartbeats 4000000 in
set_option maxRecDepth 100000 in
theorem kX10_at (d : Nat) (hd : 2 ≤ d) {l1 : Int} {μ : Mm} {r : Int} {μ' : Mm} (h : X10_at l1 μ = some (r, μ')) : CC d mX10_at [vR 0, vI l1] μ r μ' := by
  unfold X10_at at h
  refine V_enter (by decide) (Nat.le_of_ble_eq_true rfl) ?_
  show VV d mX10_at 0 [some (vR 0), some (vI l1)] [] μ r μ'
  refine V_aload_n (q := 1) dX10_at_0 rfl rfl rfl ?_
  refine V_getO (q := 4) (t := 5) fl_X10_37 rfl rfl rfl rfl dX10_at_1 rfl ?_
  refine V_iload_n (q := 5) dX10_at_4 rfl rfl rfl ?_
  obtain ⟨v1, μ2, hc3, h⟩ := bd_i h
  refine V_cV1 (q := 8) (v := vI v1) (kX0_cellAt (d - 1) (by omega) rfl hc3) (by omega) mv_X10_178 rfl rfl rfl rfl rfl rfl dX10_at_5 rfl ?_
  exact V_iret rfl h dX10_at_8
abbrev mX10_way : Mth := (yX10_way, cX10_way, 3, some .int)
set_option maxRecDepth 100000 in
theorem mi_X10_way : Cond.instanceMethod yX10_way ∈ tG ∧ Cond.selects yX10_way.cls yX10_way yX10_way ∈ tG ∧ Cond.initialized yX10_way.cls ∈ tG ∧ Cond.code yX10_way cX10_way 3 (some .int) ∈ tG ∧ (yX10_way.cls ≠ "java/lang/invoke/MethodHandle" ∧ yX10_way.cls ≠ "java/lang/invoke/VarHandle" ∧ (parseMethodDescriptor yX10_way.desc).map (fun d => d.parameters.length) = some 2) ∧ 3 ≤ 60 := ⟨(tG_of (tb3 (List.mem_of_getElem? (i := 107) rfl)) (by decide +kernel)), (tG_of (tb3 (List.mem_of_getElem? (i := 108) rfl)) (by decide +kernel)), (tG_of (tb1 (List.mem_of_getElem? (i := 1) rfl)) (by decide +kernel)), (tG_of (tb3 (List.mem_of_getElem? (i := 109) rfl)) (by decide +kernel)), ⟨by decide, by decide, by decide +kernel⟩, by decide⟩
theorem dX10_way_0 : decode cX10_way 0 = .ok (.aload_n 0, 1) := dc_42 (byA eNcX10_way (p := 0) (v := 42) (by decide +kernel))
theorem dX10_way_1 : decode cX10_way 1 = .ok (.getfield 65, 3) := dc_180 (byA eNcX10_way (p := 1) (v := 180) (by decide +kernel)) (byA eNcX10_way (p := 2) (v := 0) (by decide +kernel)) (byA eNcX10_way (p := 3) (v := 65) (by decide +kernel)) rfl
theorem dX10_way_4 : decode cX10_way 4 = .ok (.aload_n 0, 1) := dc_42 (byA eNcX10_way (p := 4) (v := 42) (by decide +kernel))
theorem dX10_way_5 : decode cX10_way 5 = .ok (.getfield 37, 3) := dc_180 (byA eNcX10_way (p := 5) (v := 180) (by decide +kernel)) (byA eNcX10_way (p := 6) (v := 0) (by decide +kernel)) (byA eNcX10_way (p := 7) (v := 37) (by decide +kernel)) rfl
theorem dX10_way_8 : decode cX10_way 8 = .ok (.iload_n 1, 1) := dc_27 (byA eNcX10_way (p := 8) (v := 27) (by decide +kernel))
theorem dX10_way_9 : decode cX10_way 9 = .ok (.invokevirtual 181, 3) := dc_182 (byA eNcX10_way (p := 9) (v := 182) (by decide +kernel)) (byA eNcX10_way (p := 10) (v := 0) (by decide +kernel)) (byA eNcX10_way (p := 11) (v := 181) (by decide +kernel)) rfl
theorem dX10_way_12 : decode cX10_way 12 = .ok (.aload_n 0, 1) := dc_42 (byA eNcX10_way (p := 12) (v := 42) (by decide +kernel))
theorem dX10_way_13 : decode cX10_way 13 = .ok (.getfield 65, 3) := dc_180 (byA eNcX10_way (p := 13) (v := 180) (by decide +kernel)) (byA eNcX10_way (p := 14) (v := 0) (by decide +kernel)) (byA eNcX10_way (p := 15) (v := 65) (by decide +kernel)) rfl
theorem dX10_way_16 : decode cX10_way 16 = .ok (.iload_n 2, 1) := dc_28 (byA eNcX10_way (p := 16) (v := 28) (by decide +kernel))
theorem dX10_way_17 : decode cX10_way 17 = .ok (.invokevirtual 185, 3) := dc_182 (byA eNcX10_way (p := 17) (v := 182) (by decide +kernel)) (byA eNcX10_way (p := 18) (v := 0) (by decide +kernel)) (byA eNcX10_way (p := 19) (v := 185) (by decide +kernel)) rfl
theorem dX10_way_20 : decode cX10_way 20 = .ok (.ireturn, 1) := dc_172 (byA eNcX10_way (p := 20) (v := 172) (by decide +kernel))
def X10_way (l1 : Int) (l2 : Int) (μ : Mm) : Rs := bd (X9_measure 5 l1 μ) fun v1 μ2 => bd (X9_stepsTo l2 μ2) fun v4 μ5 => some (v4, μ5)
set_option maxHeartbeats 4000000 in
set_option maxRecDepth 100000 in
theorem kX10_way (d : Nat) (hd : 4 ≤ d) {l1 : Int} {l2 : Int} {μ : Mm} {r : Int} {μ' : Mm} (h : X10_way l1 l2 μ = some (r, μ')) : CC d mX10_way [vR 0, vI l1, vI l2] μ r μ' := by
  unfold X10_way at h
  refine V_enter (by decide) (Nat.le_of_ble_eq_true rfl) ?_
  show VV d mX10_way 0 [some (vR 0), some (vI l1), some (vI l2)] [] μ r μ'
  refine V_aload_n (q := 1) dX10_way_0 rfl rfl rfl ?_
  refine V_getO (q := 4) (t := 45) fl_X10_65 rfl rfl rfl rfl dX10_way_1 rfl ?_
  refine V_aload_n (q := 5) dX10_way_4 rfl rfl rfl ?_
  refine V_getO (q := 8) (t := 5) fl_X10_37 rfl rfl rfl rfl dX10_way_5 rfl ?_
  refine V_iload_n (q := 9) dX10_way_8 rfl rfl rfl ?_
  obtain ⟨v1, μ2, hc3, h⟩ := bd_i h
  refine V_cV0 (q := 12) (kX9_measure (d - 1) (by omega) rfl hc3) (by omega) mv_X10_181 rfl rfl rfl rfl rfl rfl dX10_way_9 rfl ?_
  refine V_aload_n (q := 13) dX10_way_12 rfl rfl rfl ?_
  refine V_getO (q := 16) (t := 45) fl_X10_65 rfl rfl rfl rfl dX10_way_13 rfl ?_
  refine V_iload_n (q := 17) dX10_way_16 rfl rfl rfl ?_
  obtain ⟨v4, μ5, hc6, h⟩ := bd_i h
  refine V_cV1 (q := 20) (v := vI v4) (kX9_stepsTo (d - 1) (by omega) hc6) (by omega) mv_X10_185 rfl rfl rfl rfl rfl rfl dX10_way_17 rfl ?_
  exact V_iret rfl h dX10_way_20
abbrev mX10_set : Mth := (yX10_set, cX10_set, 3, some .boolean)
set_option maxRecDepth 100000 in
theorem mi_X10_set : Cond.instanceMethod yX10_set ∈ tG ∧ Cond.selects yX10_set.cls yX10_set yX10_set ∈ tG ∧ Cond.initialized yX10_set.cls ∈ tG ∧ Cond.code yX10_set cX10_set 3 (some .boolean) ∈ tG ∧ (yX10_set.cls ≠ "java/lang/invoke/MethodHandle" ∧ yX10_set.cls ≠ "java/lang/invoke/VarHandle" ∧ (parseMethodDescriptor yX10_set.desc).map (fun d => d.parameters.length) = some 2) ∧ 3 ≤ 60 := ⟨(tG_of (tb3 (List.mem_of_getElem? (i := 128) rfl)) (by decide +kernel)), (tG_of (tb3 (List.mem_of_getElem? (i := 129) rfl)) (by decide +kernel)), (tG_of (tb1 (List.mem_of_getElem? (i := 1) rfl)) (by decide +kernel)), (tG_of (tb3 (List.mem_of_getElem? (i := 130) rfl)) (by decide +kernel)), ⟨by decide, by decide, by decide +kernel⟩, by decide⟩
theorem dX10_set_0 : decode cX10_set 0 = .ok (.iload_n 1, 1) := dc_27 (byA eNcX10_set (p := 0) (v := 27) (by decide +kernel))
theorem dX10_set_1 : decode cX10_set 1 = .ok (.ifCond .ne 12, 3) := dc_154 (byA eNcX10_set (p := 1) (v := 154) (by decide +kernel)) (byA eNcX10_set (p := 2) (v := 0) (by decide +kernel)) (byA eNcX10_set (p := 3) (v := 12) (by decide +kernel)) (by decide +kernel)
theorem dX10_set_4 : decode cX10_set 4 = .ok (.aload_n 0, 1) := dc_42 (byA eNcX10_set (p := 4) (v := 42) (by decide +kernel))
theorem dX10_set_5 : decode cX10_set 5 = .ok (.getfield 37, 3) := dc_180 (byA eNcX10_set (p := 5) (v := 180) (by decide +kernel)) (byA eNcX10_set (p := 6) (v := 0) (by decide +kernel)) (byA eNcX10_set (p := 7) (v := 37) (by decide +kernel)) rfl
theorem dX10_set_8 : decode cX10_set 8 = .ok (.iload_n 2, 1) := dc_28 (byA eNcX10_set (p := 8) (v := 28) (by decide +kernel))
theorem dX10_set_9 : decode cX10_set 9 = .ok (.invokevirtual 188, 3) := dc_182 (byA eNcX10_set (p := 9) (v := 182) (by decide +kernel)) (byA eNcX10_set (p := 10) (v := 0) (by decide +kernel)) (byA eNcX10_set (p := 11) (v := 188) (by decide +kernel)) rfl
theorem dX10_set_12 : decode cX10_set 12 = .ok (.ireturn, 1) := dc_172 (byA eNcX10_set (p := 12) (v := 172) (by decide +kernel))
theorem dX10_set_13 : decode cX10_set 13 = .ok (.iload_n 1, 1) := dc_27 (byA eNcX10_set (p := 13) (v := 27) (by decide +kernel))
theorem dX10_set_14 : decode cX10_set 14 = .ok (.iconst 1, 1) := dc_4 (byA eNcX10_set (p := 14) (v := 4) (by decide +kernel))
theorem dX10_set_15 : decode cX10_set 15 = .ok (.if_icmp .ne 12, 3) := dc_160 (byA eNcX10_set (p := 15) (v := 160) (by decide +kernel)) (byA eNcX10_set (p := 16) (v := 0) (by decide +kernel)) (byA eNcX10_set (p := 17) (v := 12) (by decide +kernel)) (by decide +kernel)
theorem dX10_set_18 : decode cX10_set 18 = .ok (.aload_n 0, 1) := dc_42 (byA eNcX10_set (p := 18) (v := 42) (by decide +kernel))
theorem dX10_set_19 : decode cX10_set 19 = .ok (.getfield 37, 3) := dc_180 (byA eNcX10_set (p := 19) (v := 180) (by decide +kernel)) (byA eNcX10_set (p := 20) (v := 0) (by decide +kernel)) (byA eNcX10_set (p := 21) (v := 37) (by decide +kernel)) rfl
theorem dX10_set_22 : decode cX10_set 22 = .ok (.iload_n 2, 1) := dc_28 (byA eNcX10_set (p := 22) (v := 28) (by decide +kernel))
theorem dX10_set_23 : decode cX10_set 23 = .ok (.invokevirtual 191, 3) := dc_182 (byA eNcX10_set (p := 23) (v := 182) (by decide +kernel)) (byA eNcX10_set (p := 24) (v := 0) (by decide +kernel)) (byA eNcX10_set (p := 25) (v := 191) (by decide +kernel)) rfl
theorem dX10_set_26 : decode cX10_set 26 = .ok (.ireturn, 1) := dc_172 (byA eNcX10_set (p := 26) (v := 172) (by decide +kernel))
theorem dX10_set_27 : decode cX10_set 27 = .ok (.iload_n 1, 1) := dc_27 (byA eNcX10_set (p := 27) (v := 27) (by decide +kernel))
theorem dX10_set_28 : decode cX10_set 28 = .ok (.iconst 2, 1) := dc_5 (byA eNcX10_set (p := 28) (v := 5) (by decide +kernel))
theorem dX10_set_29 : decode cX10_set 29 = .ok (.if_icmp .ne 16, 3) := dc_160 (byA eNcX10_set (p := 29) (v := 160) (by decide +kernel)) (byA eNcX10_set (p := 30) (v := 0) (by decide +kernel)) (byA eNcX10_set (p := 31) (v := 16) (by decide +kernel)) (by decide +kernel)
theorem dX10_set_32 : decode cX10_set 32 = .ok (.iload_n 2, 1) := dc_28 (byA eNcX10_set (p := 32) (v := 28) (by decide +kernel))
theorem dX10_set_33 : decode cX10_set 33 = .ok (.iconst (-1), 1) := dc_2 (byA eNcX10_set (p := 33) (v := 2) (by decide +kernel))
theorem dX10_set_34 : decode cX10_set 34 = .ok (.if_icmp .lt 11, 3) := dc_161 (byA eNcX10_set (p := 34) (v := 161) (by decide +kernel)) (byA eNcX10_set (p := 35) (v := 0) (by decide +kernel)) (byA eNcX10_set (p := 36) (v := 11) (by decide +kernel)) (by decide +kernel)
theorem dX10_set_37 : decode cX10_set 37 = .ok (.iload_n 2, 1) := dc_28 (byA eNcX10_set (p := 37) (v := 28) (by decide +kernel))
theorem dX10_set_38 : decode cX10_set 38 = .ok (.aload_n 0, 1) := dc_42 (byA eNcX10_set (p := 38) (v := 42) (by decide +kernel))
theorem dX10_set_39 : decode cX10_set 39 = .ok (.getfield 162, 3) := dc_180 (byA eNcX10_set (p := 39) (v := 180) (by decide +kernel)) (byA eNcX10_set (p := 40) (v := 0) (by decide +kernel)) (byA eNcX10_set (p := 41) (v := 162) (by decide +kernel)) rfl
theorem dX10_set_42 : decode cX10_set 42 = .ok (.if_icmp .lt 5, 3) := dc_161 (byA eNcX10_set (p := 42) (v := 161) (by decide +kernel)) (byA eNcX10_set (p := 43) (v := 0) (by decide +kernel)) (byA eNcX10_set (p := 44) (v := 5) (by decide +kernel)) (by decide +kernel)
theorem dX10_set_45 : decode cX10_set 45 = .ok (.iconst 0, 1) := dc_3 (byA eNcX10_set (p := 45) (v := 3) (by decide +kernel))
theorem dX10_set_46 : decode cX10_set 46 = .ok (.ireturn, 1) := dc_172 (byA eNcX10_set (p := 46) (v := 172) (by decide +kernel))
theorem dX10_set_47 : decode cX10_set 47 = .ok (.aload_n 0, 1) := dc_42 (byA eNcX10_set (p := 47) (v := 42) (by decide +kernel))
theorem dX10_set_48 : decode cX10_set 48 = .ok (.iload_n 2, 1) := dc_28 (byA eNcX10_set (p := 48) (v := 28) (by decide +kernel))
theorem dX10_set_49 : decode cX10_set 49 = .ok (.putfield 104, 3) := dc_181 (byA eNcX10_set (p := 49) (v := 181) (by decide +kernel)) (byA eNcX10_set (p := 50) (v := 0) (by decide +kernel)) (byA eNcX10_set (p := 51) (v := 104) (by decide +kernel)) rfl
theorem dX10_set_52 : decode cX10_set 52 = .ok (.iconst 1, 1) := dc_4 (byA eNcX10_set (p := 52) (v := 4) (by decide +kernel))
theorem dX10_set_53 : decode cX10_set 53 = .ok (.ireturn, 1) := dc_172 (byA eNcX10_set (p := 53) (v := 172) (by decide +kernel))
def X10_set (l1 : Int) (l2 : Int) (μ : Mm) : Rs := if l1 = 0 then (bd (X0_tellStoop 5 l2 μ) fun v11 μ12 => rZ v11 μ12) else (if l1 = 1 then (bd (X0_tellNight 5 l2 μ) fun v7 μ8 => rZ v7 μ8) else (if l1 = 2 then (if l2 < (-1) then (some (0, μ)) else (if l2 < (μ 0 16) then (sF μ 0 17 l2 fun μ6 => some (1, μ6)) else (some (0, μ)))) else (some (0, μ))))
set_option maxHeartbeats 4000000 in
set_option maxRecDepth 100000 in
theorem kX10_set (d : Nat) (hd : 3 ≤ d) {l1 : Int} {l2 : Int} {μ : Mm} {r : Int} {μ' : Mm} (h : X10_set l1 l2 μ = some (r, μ')) : CC d mX10_set [vR 0, vI l1, vI l2] μ r μ' := by
  unfold X10_set at h
  refine V_enter (by decide) (Nat.le_of_ble_eq_true rfl) ?_
  show VV d mX10_set 0 [some (vR 0), some (vI l1), some (vI l2)] [] μ r μ'
  refine V_iload_n (q := 1) dX10_set_0 rfl rfl rfl ?_
  refine V_ifne (q := 13) (q2 := 4) dX10_set_1 (by decide) rfl (fun hc1 => ?_) (fun hc1 => ?_)
  · have h := ifF hc1 h
    refine V_iload_n (q := 14) dX10_set_13 rfl rfl rfl ?_
    refine V_iconst (q := 15) dX10_set_14 rfl rfl ?_
    refine V_icmpne (q := 27) (q2 := 18) dX10_set_15 (by decide) rfl (fun hc2 => ?_) (fun hc2 => ?_)
    · have h := ifF hc2 h
      refine V_iload_n (q := 28) dX10_set_27 rfl rfl rfl ?_
      refine V_iconst (q := 29) dX10_set_28 rfl rfl ?_
      refine V_icmpne (q := 45) (q2 := 32) dX10_set_29 (by decide) rfl (fun hc3 => ?_) (fun hc3 => ?_)
      · have h := ifF hc3 h
        refine V_iconst (q := 46) dX10_set_45 rfl rfl ?_
        exact V_zret rfl (Or.inl rfl) h dX10_set_46
      · have h := ifT hc3 h
        refine V_iload_n (q := 33) dX10_set_32 rfl rfl rfl ?_
        refine V_iconst (q := 34) dX10_set_33 rfl rfl ?_
        refine V_icmplt (q := 45) (q2 := 37) dX10_set_34 (by decide) rfl (fun hc4 => ?_) (fun hc4 => ?_)
        · have h := ifT hc4 h
          refine V_iconst (q := 46) dX10_set_45 rfl rfl ?_
          exact V_zret rfl (Or.inl rfl) h dX10_set_46
        · have h := ifF hc4 h
          refine V_iload_n (q := 38) dX10_set_37 rfl rfl rfl ?_
          refine V_aload_n (q := 39) dX10_set_38 rfl rfl rfl ?_
          refine V_getI (q := 42) fl_X10_162 rfl rfl rfl dX10_set_39 rfl ?_
          refine V_icmplt (q := 47) (q2 := 45) dX10_set_42 (by decide) rfl (fun hc5 => ?_) (fun hc5 => ?_)
          · have h := ifT hc5 h
            refine V_aload_n (q := 48) dX10_set_47 rfl rfl rfl ?_
            refine V_iload_n (q := 49) dX10_set_48 rfl rfl rfl ?_
            have h := sF_i h
            refine V_putI (q := 52) fl_X10_104 rfl rfl rfl dX10_set_49 rfl ?_
            refine V_iconst (q := 53) dX10_set_52 rfl rfl ?_
            exact V_zret rfl (Or.inr rfl) h dX10_set_53
          · have h := ifF hc5 h
            refine V_iconst (q := 46) dX10_set_45 rfl rfl ?_
            exact V_zret rfl (Or.inl rfl) h dX10_set_46
    · have h := ifT hc2 h
      refine V_aload_n (q := 19) dX10_set_18 rfl rfl rfl ?_
      refine V_getO (q := 22) (t := 5) fl_X10_37 rfl rfl rfl rfl dX10_set_19 rfl ?_
      refine V_iload_n (q := 23) dX10_set_22 rfl rfl rfl ?_
      obtain ⟨v7, μ8, hc9, h⟩ := bd_i h
      refine V_cV1 (q := 26) (v := vI v7) (kX0_tellNight (d - 1) (by omega) rfl hc9) (by omega) mv_X10_191 rfl rfl rfl rfl rfl rfl dX10_set_23 rfl ?_
      obtain ⟨hz10, h⟩ := rZ_i h
      exact V_zret rfl hz10 h dX10_set_26
  · have h := ifT hc1 h
    refine V_aload_n (q := 5) dX10_set_4 rfl rfl rfl ?_
    refine V_getO (q := 8) (t := 5) fl_X10_37 rfl rfl rfl rfl dX10_set_5 rfl ?_
    refine V_iload_n (q := 9) dX10_set_8 rfl rfl rfl ?_
    obtain ⟨v11, μ12, hc13, h⟩ := bd_i h
    refine V_cV1 (q := 12) (v := vI v11) (kX0_tellStoop (d - 1) (by omega) rfl hc13) (by omega) mv_X10_188 rfl rfl rfl rfl rfl rfl dX10_set_9 rfl ?_
    obtain ⟨hz14, h⟩ := rZ_i h
    exact V_zret rfl hz14 h dX10_set_12
abbrev mX10_wind : Mth := (yX10_wind, cX10_wind, 3, some .boolean)
set_option maxRecDepth 100000 in
theorem mi_X10_wind : Cond.instanceMethod yX10_wind ∈ tG ∧ Cond.selects yX10_wind.cls yX10_wind yX10_wind ∈ tG ∧ Cond.initialized yX10_wind.cls ∈ tG ∧ Cond.code yX10_wind cX10_wind 3 (some .boolean) ∈ tG ∧ (yX10_wind.cls ≠ "java/lang/invoke/MethodHandle" ∧ yX10_wind.cls ≠ "java/lang/invoke/VarHandle" ∧ (parseMethodDescriptor yX10_wind.desc).map (fun d => d.parameters.length) = some 2) ∧ 3 ≤ 60 := ⟨(tG_of (tb3 (List.mem_of_getElem? (i := 144) rfl)) (by decide +kernel)), (tG_of (tb3 (List.mem_of_getElem? (i := 145) rfl)) (by decide +kernel)), (tG_of (tb1 (List.mem_of_getElem? (i := 1) rfl)) (by decide +kernel)), (tG_of (tb3 (List.mem_of_getElem? (i := 146) rfl)) (by decide +kernel)), ⟨by decide, by decide, by decide +kernel⟩, by decide⟩
theorem dX10_wind_0 : decode cX10_wind 0 = .ok (.aload_n 0, 1) := dc_42 (byA eNcX10_wind (p := 0) (v := 42) (by decide +kernel))
theorem dX10_wind_1 : decode cX10_wind 1 = .ok (.getfield 37, 3) := dc_180 (byA eNcX10_wind (p := 1) (v := 180) (by decide +kernel)) (byA eNcX10_wind (p := 2) (v := 0) (by decide +kernel)) (byA eNcX10_wind (p := 3) (v := 37) (by decide +kernel)) rfl
theorem dX10_wind_4 : decode cX10_wind 4 = .ok (.iload_n 1, 1) := dc_27 (byA eNcX10_wind (p := 4) (v := 27) (by decide +kernel))
theorem dX10_wind_5 : decode cX10_wind 5 = .ok (.iload_n 2, 1) := dc_28 (byA eNcX10_wind (p := 5) (v := 28) (by decide +kernel))
theorem dX10_wind_6 : decode cX10_wind 6 = .ok (.invokevirtual 194, 3) := dc_182 (byA eNcX10_wind (p := 6) (v := 182) (by decide +kernel)) (byA eNcX10_wind (p := 7) (v := 0) (by decide +kernel)) (byA eNcX10_wind (p := 8) (v := 194) (by decide +kernel)) rfl
theorem dX10_wind_9 : decode cX10_wind 9 = .ok (.ireturn, 1) := dc_172 (byA eNcX10_wind (p := 9) (v := 172) (by decide +kernel))
def X10_wind (l1 : Int) (l2 : Int) (μ : Mm) : Rs := bd (X0_tellWind 5 l1 l2 μ) fun v1 μ2 => rZ v1 μ2
set_option maxHeartbeats 4000000 in
set_option maxRecDepth 100000 in
theorem kX10_wind (d : Nat) (hd : 3 ≤ d) {l1 : Int} {l2 : Int} {μ : Mm} {r : Int} {μ' : Mm} (h : X10_wind l1 l2 μ = some (r, μ')) : CC d mX10_wind [vR 0, vI l1, vI l2] μ r μ' := by
  unfold X10_wind at h
  refine V_enter (by decide) (Nat.le_of_ble_eq_true rfl) ?_
  show VV d mX10_wind 0 [some (vR 0), some (vI l1), some (vI l2)] [] μ r μ'
  refine V_aload_n (q := 1) dX10_wind_0 rfl rfl rfl ?_
  refine V_getO (q := 4) (t := 5) fl_X10_37 rfl rfl rfl rfl dX10_wind_1 rfl ?_
  refine V_iload_n (q := 5) dX10_wind_4 rfl rfl rfl ?_
  refine V_iload_n (q := 6) dX10_wind_5 rfl rfl rfl ?_
  obtain ⟨v1, μ2, hc3, h⟩ := bd_i h
  refine V_cV1 (q := 9) (v := vI v1) (kX0_tellWind (d - 1) (by omega) rfl hc3) (by omega) mv_X10_194 rfl rfl rfl rfl rfl rfl dX10_wind_6 rfl ?_
  obtain ⟨hz4, h⟩ := rZ_i h
  exact V_zret rfl hz4 h dX10_wind_9
abbrev mX10_swap : Mth := (yX10_swap, cX10_swap, 3, some .boolean)
set_option maxRecDepth 100000 in
theorem mi_X10_swap : Cond.instanceMethod yX10_swap ∈ tG ∧ Cond.selects yX10_swap.cls yX10_swap yX10_swap ∈ tG ∧ Cond.initialized yX10_swap.cls ∈ tG ∧ Cond.code yX10_swap cX10_swap 3 (some .boolean) ∈ tG ∧ (yX10_swap.cls ≠ "java/lang/invoke/MethodHandle" ∧ yX10_swap.cls ≠ "java/lang/invoke/VarHandle" ∧ (parseMethodDescriptor yX10_swap.desc).map (fun d => d.parameters.length) = some 2) ∧ 3 ≤ 60 := ⟨(tG_of (tb3 (List.mem_of_getElem? (i := 152) rfl)) (by decide +kernel)), (tG_of (tb3 (List.mem_of_getElem? (i := 153) rfl)) (by decide +kernel)), (tG_of (tb1 (List.mem_of_getElem? (i := 1) rfl)) (by decide +kernel)), (tG_of (tb3 (List.mem_of_getElem? (i := 154) rfl)) (by decide +kernel)), ⟨by decide, by decide, by decide +kernel⟩, by decide⟩
theorem dX10_swap_0 : decode cX10_swap 0 = .ok (.aload_n 0, 1) := dc_42 (byA eNcX10_swap (p := 0) (v := 42) (by decide +kernel))
theorem dX10_swap_1 : decode cX10_swap 1 = .ok (.getfield 37, 3) := dc_180 (byA eNcX10_swap (p := 1) (v := 180) (by decide +kernel)) (byA eNcX10_swap (p := 2) (v := 0) (by decide +kernel)) (byA eNcX10_swap (p := 3) (v := 37) (by decide +kernel)) rfl
theorem dX10_swap_4 : decode cX10_swap 4 = .ok (.iload_n 1, 1) := dc_27 (byA eNcX10_swap (p := 4) (v := 27) (by decide +kernel))
theorem dX10_swap_5 : decode cX10_swap 5 = .ok (.iload_n 2, 1) := dc_28 (byA eNcX10_swap (p := 5) (v := 28) (by decide +kernel))
theorem dX10_swap_6 : decode cX10_swap 6 = .ok (.invokevirtual 198, 3) := dc_182 (byA eNcX10_swap (p := 6) (v := 182) (by decide +kernel)) (byA eNcX10_swap (p := 7) (v := 0) (by decide +kernel)) (byA eNcX10_swap (p := 8) (v := 198) (by decide +kernel)) rfl
theorem dX10_swap_9 : decode cX10_swap 9 = .ok (.ireturn, 1) := dc_172 (byA eNcX10_swap (p := 9) (v := 172) (by decide +kernel))
def X10_swap (l1 : Int) (l2 : Int) (μ : Mm) : Rs := bd (X0_exchangeCranks 5 l1 l2 μ) fun v1 μ2 => rZ v1 μ2
set_option maxHeartbeats 4000000 in
set_option maxRecDepth 100000 in
theorem kX10_swap (d : Nat) (hd : 3 ≤ d) {l1 : Int} {l2 : Int} {μ : Mm} {r : Int} {μ' : Mm} (h : X10_swap l1 l2 μ = some (r, μ')) : CC d mX10_swap [vR 0, vI l1, vI l2] μ r μ' := by
  unfold X10_swap at h
  refine V_enter (by decide) (Nat.le_of_ble_eq_true rfl) ?_
  show VV d mX10_swap 0 [some (vR 0), some (vI l1), some (vI l2)] [] μ r μ'
  refine V_aload_n (q := 1) dX10_swap_0 rfl rfl rfl ?_
  refine V_getO (q := 4) (t := 5) fl_X10_37 rfl rfl rfl rfl dX10_swap_1 rfl ?_
  refine V_iload_n (q := 5) dX10_swap_4 rfl rfl rfl ?_
  refine V_iload_n (q := 6) dX10_swap_5 rfl rfl rfl ?_
  obtain ⟨v1, μ2, hc3, h⟩ := bd_i h
  refine V_cV1 (q := 9) (v := vI v1) (kX0_exchangeCranks (d - 1) (by omega) rfl hc3) (by omega) mv_X10_198 rfl rfl rfl rfl rfl rfl dX10_swap_6 rfl ?_
  obtain ⟨hz4, h⟩ := rZ_i h
  exact V_zret rfl hz4 h dX10_swap_9
abbrev mX10_knock : Mth := (yX10_knock, cX10_knock, 2, some .boolean)
set_option maxRecDepth 100000 in
theorem mi_X10_knock : Cond.instanceMethod yX10_knock ∈ tG ∧ Cond.selects yX10_knock.cls yX10_knock yX10_knock ∈ tG ∧ Cond.initialized yX10_knock.cls ∈ tG ∧ Cond.code yX10_knock cX10_knock 2 (some .boolean) ∈ tG ∧ (yX10_knock.cls ≠ "java/lang/invoke/MethodHandle" ∧ yX10_knock.cls ≠ "java/lang/invoke/VarHandle" ∧ (parseMethodDescriptor yX10_knock.desc).map (fun d => d.parameters.length) = some 1) ∧ 2 ≤ 60 := ⟨(tG_of (tb3 (List.mem_of_getElem? (i := 160) rfl)) (by decide +kernel)), (tG_of (tb3 (List.mem_of_getElem? (i := 161) rfl)) (by decide +kernel)), (tG_of (tb1 (List.mem_of_getElem? (i := 1) rfl)) (by decide +kernel)), (tG_of (tb3 (List.mem_of_getElem? (i := 162) rfl)) (by decide +kernel)), ⟨by decide, by decide, by decide +kernel⟩, by decide⟩
theorem dX10_knock_0 : decode cX10_knock 0 = .ok (.aload_n 0, 1) := dc_42 (byA eNcX10_knock (p := 0) (v := 42) (by decide +kernel))
theorem dX10_knock_1 : decode cX10_knock 1 = .ok (.getfield 37, 3) := dc_180 (byA eNcX10_knock (p := 1) (v := 180) (by decide +kernel)) (byA eNcX10_knock (p := 2) (v := 0) (by decide +kernel)) (byA eNcX10_knock (p := 3) (v := 37) (by decide +kernel)) rfl
theorem dX10_knock_4 : decode cX10_knock 4 = .ok (.iload_n 1, 1) := dc_27 (byA eNcX10_knock (p := 4) (v := 27) (by decide +kernel))
theorem dX10_knock_5 : decode cX10_knock 5 = .ok (.invokevirtual 201, 3) := dc_182 (byA eNcX10_knock (p := 5) (v := 182) (by decide +kernel)) (byA eNcX10_knock (p := 6) (v := 0) (by decide +kernel)) (byA eNcX10_knock (p := 7) (v := 201) (by decide +kernel)) rfl
theorem dX10_knock_8 : decode cX10_knock 8 = .ok (.ireturn, 1) := dc_172 (byA eNcX10_knock (p := 8) (v := 172) (by decide +kernel))
def X10_knock (l1 : Int) (μ : Mm) : Rs := bd (X0_takePost 5 l1 μ) fun v1 μ2 => rZ v1 μ2
set_option maxHeartbeats 4000000 in
set_option maxRecDepth 100000 in
theorem kX10_knock (d : Nat) (hd : 3 ≤ d) {l1 : Int} {μ : Mm} {r : Int} {μ' : Mm} (h : X10_knock l1 μ = some (r, μ')) : CC d mX10_knock [vR 0, vI l1] μ r μ' := by
  unfold X10_knock at h
  refine V_enter (by decide) (Nat.le_of_ble_eq_true rfl) ?_
  show VV d mX10_knock 0 [some (vR 0), some (vI l1)] [] μ r μ'
  refine V_aload_n (q := 1) dX10_knock_0 rfl rfl rfl ?_
  refine V_getO (q := 4) (t := 5) fl_X10_37 rfl rfl rfl rfl dX10_knock_1 rfl ?_
  refine V_iload_n (q := 5) dX10_knock_4 rfl rfl rfl ?_
  obtain ⟨v1, μ2, hc3, h⟩ := bd_i h
  refine V_cV1 (q := 8) (v := vI v1) (kX0_takePost (d - 1) (by omega) rfl hc3) (by omega) mv_X10_201 rfl rfl rfl rfl rfl rfl dX10_knock_5 rfl ?_
  obtain ⟨hz4, h⟩ := rZ_i h
  exact V_zret rfl hz4 h dX10_knock_8
abbrev mX10_image : Mth := (yX10_image, cX10_image, 1, some .int)
set_option maxRecDepth 100000 in
theorem mi_X10_image : Cond.instanceMethod yX10_image ∈ tG ∧ Cond.selects yX10_image.cls yX10_image yX10_image ∈ tG ∧ Cond.initialized yX10_image.cls ∈ tG ∧ Cond.code yX10_image cX10_image 1 (some .int) ∈ tG ∧ (yX10_image.cls ≠ "java/lang/invoke/MethodHandle" ∧ yX10_image.cls ≠ "java/lang/invoke/VarHandle" ∧ (parseMethodDescriptor yX10_image.desc).map (fun d => d.parameters.length) = some 0) ∧ 1 ≤ 60 := ⟨(tG_of (tb3 (List.mem_of_getElem? (i := 169) rfl)) (by decide +kernel)), (tG_of (tb3 (List.mem_of_getElem? (i := 170) rfl)) (by decide +kernel)), (tG_of (tb1 (List.mem_of_getElem? (i := 1) rfl)) (by decide +kernel)), (tG_of (tb3 (List.mem_of_getElem? (i := 171) rfl)) (by decide +kernel)), ⟨by decide, by decide, by decide +kernel⟩, by decide⟩
theorem dX10_image_0 : decode cX10_image 0 = .ok (.aload_n 0, 1) := dc_42 (byA eNcX10_image (p := 0) (v := 42) (by decide +kernel))
theorem dX10_image_1 : decode cX10_image 1 = .ok (.getfield 37, 3) := dc_180 (byA eNcX10_image (p := 1) (v := 180) (by decide +kernel)) (byA eNcX10_image (p := 2) (v := 0) (by decide +kernel)) (byA eNcX10_image (p := 3) (v := 37) (by decide +kernel)) rfl
theorem dX10_image_4 : decode cX10_image 4 = .ok (.invokevirtual 204, 3) := dc_182 (byA eNcX10_image (p := 4) (v := 182) (by decide +kernel)) (byA eNcX10_image (p := 5) (v := 0) (by decide +kernel)) (byA eNcX10_image (p := 6) (v := 204) (by decide +kernel)) rfl
theorem dX10_image_7 : decode cX10_image 7 = .ok (.ifCond .ne 5, 3) := dc_154 (byA eNcX10_image (p := 7) (v := 154) (by decide +kernel)) (byA eNcX10_image (p := 8) (v := 0) (by decide +kernel)) (byA eNcX10_image (p := 9) (v := 5) (by decide +kernel)) (by decide +kernel)
theorem dX10_image_10 : decode cX10_image 10 = .ok (.iconst (-1), 1) := dc_2 (byA eNcX10_image (p := 10) (v := 2) (by decide +kernel))
theorem dX10_image_11 : decode cX10_image 11 = .ok (.ireturn, 1) := dc_172 (byA eNcX10_image (p := 11) (v := 172) (by decide +kernel))
theorem dX10_image_12 : decode cX10_image 12 = .ok (.aload_n 0, 1) := dc_42 (byA eNcX10_image (p := 12) (v := 42) (by decide +kernel))
theorem dX10_image_13 : decode cX10_image 13 = .ok (.getfield 41, 3) := dc_180 (byA eNcX10_image (p := 13) (v := 180) (by decide +kernel)) (byA eNcX10_image (p := 14) (v := 0) (by decide +kernel)) (byA eNcX10_image (p := 15) (v := 41) (by decide +kernel)) rfl
theorem dX10_image_16 : decode cX10_image 16 = .ok (.aload_n 0, 1) := dc_42 (byA eNcX10_image (p := 16) (v := 42) (by decide +kernel))
theorem dX10_image_17 : decode cX10_image 17 = .ok (.getfield 37, 3) := dc_180 (byA eNcX10_image (p := 17) (v := 180) (by decide +kernel)) (byA eNcX10_image (p := 18) (v := 0) (by decide +kernel)) (byA eNcX10_image (p := 19) (v := 37) (by decide +kernel)) rfl
theorem dX10_image_20 : decode cX10_image 20 = .ok (.invokevirtual 208, 3) := dc_182 (byA eNcX10_image (p := 20) (v := 182) (by decide +kernel)) (byA eNcX10_image (p := 21) (v := 0) (by decide +kernel)) (byA eNcX10_image (p := 22) (v := 208) (by decide +kernel)) rfl
theorem dX10_image_23 : decode cX10_image 23 = .ok (.aload_n 0, 1) := dc_42 (byA eNcX10_image (p := 23) (v := 42) (by decide +kernel))
theorem dX10_image_24 : decode cX10_image 24 = .ok (.getfield 37, 3) := dc_180 (byA eNcX10_image (p := 24) (v := 180) (by decide +kernel)) (byA eNcX10_image (p := 25) (v := 0) (by decide +kernel)) (byA eNcX10_image (p := 26) (v := 37) (by decide +kernel)) rfl
theorem dX10_image_27 : decode cX10_image 27 = .ok (.getfield 211, 3) := dc_180 (byA eNcX10_image (p := 27) (v := 180) (by decide +kernel)) (byA eNcX10_image (p := 28) (v := 0) (by decide +kernel)) (byA eNcX10_image (p := 29) (v := 211) (by decide +kernel)) rfl
theorem dX10_image_30 : decode cX10_image 30 = .ok (.ireturn, 1) := dc_172 (byA eNcX10_image (p := 30) (v := 172) (by decide +kernel))
def X10_image (μ : Mm) : Rs := bd (X0_stands 5 μ) fun v1 μ2 => if v1 = 0 then (some ((-1), μ2)) else (bd (X0_copy 9 5 μ2) fun v5 μ6 => some (μ6 5 6, μ6))
set_option maxHeartbeats 4000000 in
set_option maxRecDepth 100000 in
theorem kX10_image (d : Nat) (hd : 2 ≤ d) {μ : Mm} {r : Int} {μ' : Mm} (h : X10_image μ = some (r, μ')) : CC d mX10_image [vR 0] μ r μ' := by
  unfold X10_image at h
  refine V_enter (by decide) (Nat.le_of_ble_eq_true rfl) ?_
  show VV d mX10_image 0 [some (vR 0)] [] μ r μ'
  refine V_aload_n (q := 1) dX10_image_0 rfl rfl rfl ?_
  refine V_getO (q := 4) (t := 5) fl_X10_37 rfl rfl rfl rfl dX10_image_1 rfl ?_
  obtain ⟨v1, μ2, hc3, h⟩ := bd_i h
  refine V_cV1 (q := 7) (v := vI v1) (kX0_stands (d - 1) (by omega) rfl hc3) (by omega) mv_X10_204 rfl rfl rfl rfl rfl rfl dX10_image_4 rfl ?_
  refine V_ifne (q := 12) (q2 := 10) dX10_image_7 (by decide) rfl (fun hc4 => ?_) (fun hc4 => ?_)
  · have h := ifF hc4 h
    refine V_aload_n (q := 13) dX10_image_12 rfl rfl rfl ?_
    refine V_getO (q := 16) (t := 9) fl_X10_41 rfl rfl rfl rfl dX10_image_13 rfl ?_
    refine V_aload_n (q := 17) dX10_image_16 rfl rfl rfl ?_
    refine V_getO (q := 20) (t := 5) fl_X10_37 rfl rfl rfl rfl dX10_image_17 rfl ?_
    obtain ⟨v5, μ6, hc7, h⟩ := bd_i h
    refine V_cV0 (q := 23) (kX0_copy (d - 1) (by omega) rfl rfl hc7) (by omega) mv_X10_208 rfl rfl rfl rfl rfl rfl dX10_image_20 rfl ?_
    refine V_aload_n (q := 24) dX10_image_23 rfl rfl rfl ?_
    refine V_getO (q := 27) (t := 5) fl_X10_37 rfl rfl rfl rfl dX10_image_24 rfl ?_
    refine V_getI (q := 30) fl_X10_211 rfl rfl rfl dX10_image_27 rfl ?_
    exact V_iret rfl h dX10_image_30
  · have h := ifT hc4 h
    refine V_iconst (q := 11) dX10_image_10 rfl rfl ?_
    exact V_iret rfl h dX10_image_11
abbrev mX10_back : Mth := (yX10_back, cX10_back, 1, some .int)
set_option maxRecDepth 100000 in
theorem mi_X10_back : Cond.instanceMethod yX10_back ∈ tG ∧ Cond.selects yX10_back.cls yX10_back yX10_back ∈ tG ∧ Cond.initialized yX10_back.cls ∈ tG ∧ Cond.code yX10_back cX10_back 1 (some .int) ∈ tG ∧ (yX10_back.cls ≠ "java/lang/invoke/MethodHandle" ∧ yX10_back.cls ≠ "java/lang/invoke/VarHandle" ∧ (parseMethodDescriptor yX10_back.desc).map (fun d => d.parameters.length) = some 0) ∧ 1 ≤ 60 := ⟨(tG_of (tb3 (List.mem_of_getElem? (i := 179) rfl)) (by decide +kernel)), (tG_of (tb3 (List.mem_of_getElem? (i := 180) rfl)) (by decide +kernel)), (tG_of (tb1 (List.mem_of_getElem? (i := 1) rfl)) (by decide +kernel)), (tG_of (tb3 (List.mem_of_getElem? (i := 181) rfl)) (by decide +kernel)), ⟨by decide, by decide, by decide +kernel⟩, by decide⟩
theorem dX10_back_0 : decode cX10_back 0 = .ok (.aload_n 0, 1) := dc_42 (byA eNcX10_back (p := 0) (v := 42) (by decide +kernel))
theorem dX10_back_1 : decode cX10_back 1 = .ok (.getfield 41, 3) := dc_180 (byA eNcX10_back (p := 1) (v := 180) (by decide +kernel)) (byA eNcX10_back (p := 2) (v := 0) (by decide +kernel)) (byA eNcX10_back (p := 3) (v := 41) (by decide +kernel)) rfl
theorem dX10_back_4 : decode cX10_back 4 = .ok (.invokevirtual 204, 3) := dc_182 (byA eNcX10_back (p := 4) (v := 182) (by decide +kernel)) (byA eNcX10_back (p := 5) (v := 0) (by decide +kernel)) (byA eNcX10_back (p := 6) (v := 204) (by decide +kernel)) rfl
theorem dX10_back_7 : decode cX10_back 7 = .ok (.ifCond .ne 5, 3) := dc_154 (byA eNcX10_back (p := 7) (v := 154) (by decide +kernel)) (byA eNcX10_back (p := 8) (v := 0) (by decide +kernel)) (byA eNcX10_back (p := 9) (v := 5) (by decide +kernel)) (by decide +kernel)
theorem dX10_back_10 : decode cX10_back 10 = .ok (.iconst (-1), 1) := dc_2 (byA eNcX10_back (p := 10) (v := 2) (by decide +kernel))
theorem dX10_back_11 : decode cX10_back 11 = .ok (.ireturn, 1) := dc_172 (byA eNcX10_back (p := 11) (v := 172) (by decide +kernel))
theorem dX10_back_12 : decode cX10_back 12 = .ok (.aload_n 0, 1) := dc_42 (byA eNcX10_back (p := 12) (v := 42) (by decide +kernel))
theorem dX10_back_13 : decode cX10_back 13 = .ok (.getfield 37, 3) := dc_180 (byA eNcX10_back (p := 13) (v := 180) (by decide +kernel)) (byA eNcX10_back (p := 14) (v := 0) (by decide +kernel)) (byA eNcX10_back (p := 15) (v := 37) (by decide +kernel)) rfl
theorem dX10_back_16 : decode cX10_back 16 = .ok (.aload_n 0, 1) := dc_42 (byA eNcX10_back (p := 16) (v := 42) (by decide +kernel))
theorem dX10_back_17 : decode cX10_back 17 = .ok (.getfield 41, 3) := dc_180 (byA eNcX10_back (p := 17) (v := 180) (by decide +kernel)) (byA eNcX10_back (p := 18) (v := 0) (by decide +kernel)) (byA eNcX10_back (p := 19) (v := 41) (by decide +kernel)) rfl
theorem dX10_back_20 : decode cX10_back 20 = .ok (.invokevirtual 208, 3) := dc_182 (byA eNcX10_back (p := 20) (v := 182) (by decide +kernel)) (byA eNcX10_back (p := 21) (v := 0) (by decide +kernel)) (byA eNcX10_back (p := 22) (v := 208) (by decide +kernel)) rfl
theorem dX10_back_23 : decode cX10_back 23 = .ok (.aload_n 0, 1) := dc_42 (byA eNcX10_back (p := 23) (v := 42) (by decide +kernel))
theorem dX10_back_24 : decode cX10_back 24 = .ok (.getfield 37, 3) := dc_180 (byA eNcX10_back (p := 24) (v := 180) (by decide +kernel)) (byA eNcX10_back (p := 25) (v := 0) (by decide +kernel)) (byA eNcX10_back (p := 26) (v := 37) (by decide +kernel)) rfl
theorem dX10_back_27 : decode cX10_back 27 = .ok (.getfield 211, 3) := dc_180 (byA eNcX10_back (p := 27) (v := 180) (by decide +kernel)) (byA eNcX10_back (p := 28) (v := 0) (by decide +kernel)) (byA eNcX10_back (p := 29) (v := 211) (by decide +kernel)) rfl
theorem dX10_back_30 : decode cX10_back 30 = .ok (.ireturn, 1) := dc_172 (byA eNcX10_back (p := 30) (v := 172) (by decide +kernel))
def X10_back (μ : Mm) : Rs := bd (X0_stands 9 μ) fun v1 μ2 => if v1 = 0 then (some ((-1), μ2)) else (bd (X0_copy 5 9 μ2) fun v5 μ6 => some (μ6 5 6, μ6))
set_option maxHeartbeats 4000000 in
set_option maxRecDepth 100000 in
theorem kX10_back (d : Nat) (hd : 2 ≤ d) {μ : Mm} {r : Int} {μ' : Mm} (h : X10_back μ = some (r, μ')) : CC d mX10_back [vR 0] μ r μ' := by
  unfold X10_back at h
  refine V_enter (by decide) (Nat.le_of_ble_eq_true rfl) ?_
  show VV d mX10_back 0 [some (vR 0)] [] μ r μ'
  refine V_aload_n (q := 1) dX10_back_0 rfl rfl rfl ?_
  refine V_getO (q := 4) (t := 9) fl_X10_41 rfl rfl rfl rfl dX10_back_1 rfl ?_
  obtain ⟨v1, μ2, hc3, h⟩ := bd_i h
  refine V_cV1 (q := 7) (v := vI v1) (kX0_stands (d - 1) (by omega) rfl hc3) (by omega) mv_X10_204 rfl rfl rfl rfl rfl rfl dX10_back_4 rfl ?_
  refine V_ifne (q := 12) (q2 := 10) dX10_back_7 (by decide) rfl (fun hc4 => ?_) (fun hc4 => ?_)
  · have h := ifF hc4 h
    refine V_aload_n (q := 13) dX10_back_12 rfl rfl rfl ?_
    refine V_getO (q := 16) (t := 5) fl_X10_37 rfl rfl rfl rfl dX10_back_13 rfl ?_
    refine V_aload_n (q := 17) dX10_back_16 rfl rfl rfl ?_
    refine V_getO (q := 20) (t := 9) fl_X10_41 rfl rfl rfl rfl dX10_back_17 rfl ?_
    obtain ⟨v5, μ6, hc7, h⟩ := bd_i h
    refine V_cV0 (q := 23) (kX0_copy (d - 1) (by omega) rfl rfl hc7) (by omega) mv_X10_208 rfl rfl rfl rfl rfl rfl dX10_back_20 rfl ?_
    refine V_aload_n (q := 24) dX10_back_23 rfl rfl rfl ?_
    refine V_getO (q := 27) (t := 5) fl_X10_37 rfl rfl rfl rfl dX10_back_24 rfl ?_
    refine V_getI (q := 30) fl_X10_211 rfl rfl rfl dX10_back_27 rfl ?_
    exact V_iret rfl h dX10_back_30
  · have h := ifT hc4 h
    refine V_iconst (q := 11) dX10_back_10 rfl rfl ?_
    exact V_iret rfl h dX10_back_11
abbrev mX10_out : Mth := (yX10_out, cX10_out, 2, some .int)
set_option maxRecDepth 100000 in
theorem mi_X10_out : Cond.instanceMethod yX10_out ∈ tG ∧ Cond.selects yX10_out.cls yX10_out yX10_out ∈ tG ∧ Cond.initialized yX10_out.cls ∈ tG ∧ Cond.code yX10_out cX10_out 2 (some .int) ∈ tG ∧ (yX10_out.cls ≠ "java/lang/invoke/MethodHandle" ∧ yX10_out.cls ≠ "java/lang/invoke/VarHandle" ∧ (parseMethodDescriptor yX10_out.desc).map (fun d => d.parameters.length) = some 1) ∧ 2 ≤ 60 := ⟨(tG_of (tb3 (List.mem_of_getElem? (i := 183) rfl)) (by decide +kernel)), (tG_of (tb3 (List.mem_of_getElem? (i := 184) rfl)) (by decide +kernel)), (tG_of (tb1 (List.mem_of_getElem? (i := 1) rfl)) (by decide +kernel)), (tG_of (tb3 (List.mem_of_getElem? (i := 185) rfl)) (by decide +kernel)), ⟨by decide, by decide, by decide +kernel⟩, by decide⟩
theorem dX10_out_0 : decode cX10_out 0 = .ok (.aload_n 0, 1) := dc_42 (byA eNcX10_out (p := 0) (v := 42) (by decide +kernel))
theorem dX10_out_1 : decode cX10_out 1 = .ok (.getfield 65, 3) := dc_180 (byA eNcX10_out (p := 1) (v := 180) (by decide +kernel)) (byA eNcX10_out (p := 2) (v := 0) (by decide +kernel)) (byA eNcX10_out (p := 3) (v := 65) (by decide +kernel)) rfl
theorem dX10_out_4 : decode cX10_out 4 = .ok (.aload_n 0, 1) := dc_42 (byA eNcX10_out (p := 4) (v := 42) (by decide +kernel))
theorem dX10_out_5 : decode cX10_out 5 = .ok (.getfield 37, 3) := dc_180 (byA eNcX10_out (p := 5) (v := 180) (by decide +kernel)) (byA eNcX10_out (p := 6) (v := 0) (by decide +kernel)) (byA eNcX10_out (p := 7) (v := 37) (by decide +kernel)) rfl
theorem dX10_out_8 : decode cX10_out 8 = .ok (.aload_n 0, 1) := dc_42 (byA eNcX10_out (p := 8) (v := 42) (by decide +kernel))
theorem dX10_out_9 : decode cX10_out 9 = .ok (.getfield 37, 3) := dc_180 (byA eNcX10_out (p := 9) (v := 180) (by decide +kernel)) (byA eNcX10_out (p := 10) (v := 0) (by decide +kernel)) (byA eNcX10_out (p := 11) (v := 37) (by decide +kernel)) rfl
theorem dX10_out_12 : decode cX10_out 12 = .ok (.iload_n 1, 1) := dc_27 (byA eNcX10_out (p := 12) (v := 27) (by decide +kernel))
theorem dX10_out_13 : decode cX10_out 13 = .ok (.invokevirtual 168, 3) := dc_182 (byA eNcX10_out (p := 13) (v := 182) (by decide +kernel)) (byA eNcX10_out (p := 14) (v := 0) (by decide +kernel)) (byA eNcX10_out (p := 15) (v := 168) (by decide +kernel)) rfl
theorem dX10_out_16 : decode cX10_out 16 = .ok (.invokevirtual 181, 3) := dc_182 (byA eNcX10_out (p := 16) (v := 182) (by decide +kernel)) (byA eNcX10_out (p := 17) (v := 0) (by decide +kernel)) (byA eNcX10_out (p := 18) (v := 181) (by decide +kernel)) rfl
theorem dX10_out_19 : decode cX10_out 19 = .ok (.aload_n 0, 1) := dc_42 (byA eNcX10_out (p := 19) (v := 42) (by decide +kernel))
theorem dX10_out_20 : decode cX10_out 20 = .ok (.getfield 65, 3) := dc_180 (byA eNcX10_out (p := 20) (v := 180) (by decide +kernel)) (byA eNcX10_out (p := 21) (v := 0) (by decide +kernel)) (byA eNcX10_out (p := 22) (v := 65) (by decide +kernel)) rfl
theorem dX10_out_23 : decode cX10_out 23 = .ok (.aload_n 0, 1) := dc_42 (byA eNcX10_out (p := 23) (v := 42) (by decide +kernel))
theorem dX10_out_24 : decode cX10_out 24 = .ok (.getfield 37, 3) := dc_180 (byA eNcX10_out (p := 24) (v := 180) (by decide +kernel)) (byA eNcX10_out (p := 25) (v := 0) (by decide +kernel)) (byA eNcX10_out (p := 26) (v := 37) (by decide +kernel)) rfl
theorem dX10_out_27 : decode cX10_out 27 = .ok (.getfield 214, 3) := dc_180 (byA eNcX10_out (p := 27) (v := 180) (by decide +kernel)) (byA eNcX10_out (p := 28) (v := 0) (by decide +kernel)) (byA eNcX10_out (p := 29) (v := 214) (by decide +kernel)) rfl
theorem dX10_out_30 : decode cX10_out 30 = .ok (.invokevirtual 185, 3) := dc_182 (byA eNcX10_out (p := 30) (v := 182) (by decide +kernel)) (byA eNcX10_out (p := 31) (v := 0) (by decide +kernel)) (byA eNcX10_out (p := 32) (v := 185) (by decide +kernel)) rfl
theorem dX10_out_33 : decode cX10_out 33 = .ok (.ireturn, 1) := dc_172 (byA eNcX10_out (p := 33) (v := 172) (by decide +kernel))
def X10_out (l1 : Int) (μ : Mm) : Rs := bd (X0_placeOf 5 l1 μ) fun v1 μ2 => bd (X9_measure 5 v1 μ2) fun v4 μ5 => bd (X9_stepsTo (μ5 5 3) μ5) fun v7 μ8 => some (v7, μ8)
set_option maxHeartbeats 4000000 in
set_option maxRecDepth 100000 in
theorem kX10_out (d : Nat) (hd : 4 ≤ d) {l1 : Int} {μ : Mm} {r : Int} {μ' : Mm} (h : X10_out l1 μ = some (r, μ')) : CC d mX10_out [vR 0, vI l1] μ r μ' := by
  unfold X10_out at h
  refine V_enter (by decide) (Nat.le_of_ble_eq_true rfl) ?_
  show VV d mX10_out 0 [some (vR 0), some (vI l1)] [] μ r μ'
  refine V_aload_n (q := 1) dX10_out_0 rfl rfl rfl ?_
  refine V_getO (q := 4) (t := 45) fl_X10_65 rfl rfl rfl rfl dX10_out_1 rfl ?_
  refine V_aload_n (q := 5) dX10_out_4 rfl rfl rfl ?_
  refine V_getO (q := 8) (t := 5) fl_X10_37 rfl rfl rfl rfl dX10_out_5 rfl ?_
  refine V_aload_n (q := 9) dX10_out_8 rfl rfl rfl ?_
  refine V_getO (q := 12) (t := 5) fl_X10_37 rfl rfl rfl rfl dX10_out_9 rfl ?_
  refine V_iload_n (q := 13) dX10_out_12 rfl rfl rfl ?_
  obtain ⟨v1, μ2, hc3, h⟩ := bd_i h
  refine V_cV1 (q := 16) (v := vI v1) (kX0_placeOf (d - 1) (by omega) rfl hc3) (by omega) mv_X10_168 rfl rfl rfl rfl rfl rfl dX10_out_13 rfl ?_
  obtain ⟨v4, μ5, hc6, h⟩ := bd_i h
  refine V_cV0 (q := 19) (kX9_measure (d - 1) (by omega) rfl hc6) (by omega) mv_X10_181 rfl rfl rfl rfl rfl rfl dX10_out_16 rfl ?_
  refine V_aload_n (q := 20) dX10_out_19 rfl rfl rfl ?_
  refine V_getO (q := 23) (t := 45) fl_X10_65 rfl rfl rfl rfl dX10_out_20 rfl ?_
  refine V_aload_n (q := 24) dX10_out_23 rfl rfl rfl ?_
  refine V_getO (q := 27) (t := 5) fl_X10_37 rfl rfl rfl rfl dX10_out_24 rfl ?_
  refine V_getI (q := 30) fl_X10_214 rfl rfl rfl dX10_out_27 rfl ?_
  obtain ⟨v7, μ8, hc9, h⟩ := bd_i h
  refine V_cV1 (q := 33) (v := vI v7) (kX9_stepsTo (d - 1) (by omega) hc9) (by omega) mv_X10_185 rfl rfl rfl rfl rfl rfl dX10_out_30 rfl ?_
  exact V_iret rfl h dX10_out_33
abbrev mX10_dead : Mth := (yX10_dead, cX10_dead, 3, some .int)
set_option maxRecDepth 100000 in
theorem mi_X10_dead : Cond.instanceMethod yX10_dead ∈ tG ∧ Cond.selects yX10_dead.cls yX10_dead yX10_dead ∈ tG ∧ Cond.initialized yX10_dead.cls ∈ tG ∧ Cond.code yX10_dead cX10_dead 3 (some .int) ∈ tG ∧ (yX10_dead.cls ≠ "java/lang/invoke/MethodHandle" ∧ yX10_dead.cls ≠ "java/lang/invoke/VarHandle" ∧ (parseMethodDescriptor yX10_dead.desc).map (fun d => d.parameters.length) = some 0) ∧ 3 ≤ 60 := ⟨(tG_of (tb3 (List.mem_of_getElem? (i := 188) rfl)) (by decide +kernel)), (tG_of (tb3 (List.mem_of_getElem? (i := 189) rfl)) (by decide +kernel)), (tG_of (tb1 (List.mem_of_getElem? (i := 1) rfl)) (by decide +kernel)), (tG_of (tb3 (List.mem_of_getElem? (i := 190) rfl)) (by decide +kernel)), ⟨by decide, by decide, by decide +kernel⟩, by decide⟩
theorem dX10_dead_0 : decode cX10_dead 0 = .ok (.aload_n 0, 1) := dc_42 (byA eNcX10_dead (p := 0) (v := 42) (by decide +kernel))
theorem dX10_dead_1 : decode cX10_dead 1 = .ok (.getfield 37, 3) := dc_180 (byA eNcX10_dead (p := 1) (v := 180) (by decide +kernel)) (byA eNcX10_dead (p := 2) (v := 0) (by decide +kernel)) (byA eNcX10_dead (p := 3) (v := 37) (by decide +kernel)) rfl
theorem dX10_dead_4 : decode cX10_dead 4 = .ok (.invokevirtual 204, 3) := dc_182 (byA eNcX10_dead (p := 4) (v := 182) (by decide +kernel)) (byA eNcX10_dead (p := 5) (v := 0) (by decide +kernel)) (byA eNcX10_dead (p := 6) (v := 204) (by decide +kernel)) rfl
theorem dX10_dead_7 : decode cX10_dead 7 = .ok (.ifCond .ne 5, 3) := dc_154 (byA eNcX10_dead (p := 7) (v := 154) (by decide +kernel)) (byA eNcX10_dead (p := 8) (v := 0) (by decide +kernel)) (byA eNcX10_dead (p := 9) (v := 5) (by decide +kernel)) (by decide +kernel)
theorem dX10_dead_10 : decode cX10_dead 10 = .ok (.iconst (-1), 1) := dc_2 (byA eNcX10_dead (p := 10) (v := 2) (by decide +kernel))
theorem dX10_dead_11 : decode cX10_dead 11 = .ok (.ireturn, 1) := dc_172 (byA eNcX10_dead (p := 11) (v := 172) (by decide +kernel))
theorem dX10_dead_12 : decode cX10_dead 12 = .ok (.aload_n 0, 1) := dc_42 (byA eNcX10_dead (p := 12) (v := 42) (by decide +kernel))
theorem dX10_dead_13 : decode cX10_dead 13 = .ok (.getfield 65, 3) := dc_180 (byA eNcX10_dead (p := 13) (v := 180) (by decide +kernel)) (byA eNcX10_dead (p := 14) (v := 0) (by decide +kernel)) (byA eNcX10_dead (p := 15) (v := 65) (by decide +kernel)) rfl
theorem dX10_dead_16 : decode cX10_dead 16 = .ok (.aload_n 0, 1) := dc_42 (byA eNcX10_dead (p := 16) (v := 42) (by decide +kernel))
theorem dX10_dead_17 : decode cX10_dead 17 = .ok (.getfield 37, 3) := dc_180 (byA eNcX10_dead (p := 17) (v := 180) (by decide +kernel)) (byA eNcX10_dead (p := 18) (v := 0) (by decide +kernel)) (byA eNcX10_dead (p := 19) (v := 37) (by decide +kernel)) rfl
theorem dX10_dead_20 : decode cX10_dead 20 = .ok (.aload_n 0, 1) := dc_42 (byA eNcX10_dead (p := 20) (v := 42) (by decide +kernel))
theorem dX10_dead_21 : decode cX10_dead 21 = .ok (.getfield 37, 3) := dc_180 (byA eNcX10_dead (p := 21) (v := 180) (by decide +kernel)) (byA eNcX10_dead (p := 22) (v := 0) (by decide +kernel)) (byA eNcX10_dead (p := 23) (v := 37) (by decide +kernel)) rfl
theorem dX10_dead_24 : decode cX10_dead 24 = .ok (.getfield 214, 3) := dc_180 (byA eNcX10_dead (p := 24) (v := 180) (by decide +kernel)) (byA eNcX10_dead (p := 25) (v := 0) (by decide +kernel)) (byA eNcX10_dead (p := 26) (v := 214) (by decide +kernel)) rfl
theorem dX10_dead_27 : decode cX10_dead 27 = .ok (.invokevirtual 181, 3) := dc_182 (byA eNcX10_dead (p := 27) (v := 182) (by decide +kernel)) (byA eNcX10_dead (p := 28) (v := 0) (by decide +kernel)) (byA eNcX10_dead (p := 29) (v := 181) (by decide +kernel)) rfl
theorem dX10_dead_30 : decode cX10_dead 30 = .ok (.iconst 0, 1) := dc_3 (byA eNcX10_dead (p := 30) (v := 3) (by decide +kernel))
theorem dX10_dead_31 : decode cX10_dead 31 = .ok (.istore_n 1, 1) := dc_60 (byA eNcX10_dead (p := 31) (v := 60) (by decide +kernel))
theorem dX10_dead_32 : decode cX10_dead 32 = .ok (.iconst 0, 1) := dc_3 (byA eNcX10_dead (p := 32) (v := 3) (by decide +kernel))
theorem dX10_dead_33 : decode cX10_dead 33 = .ok (.istore_n 2, 1) := dc_61 (byA eNcX10_dead (p := 33) (v := 61) (by decide +kernel))
theorem dX10_dead_34 : decode cX10_dead 34 = .ok (.iload_n 2, 1) := dc_28 (byA eNcX10_dead (p := 34) (v := 28) (by decide +kernel))
theorem dX10_dead_35 : decode cX10_dead 35 = .ok (.bipush 60, 2) := dc_16 (byA eNcX10_dead (p := 35) (v := 16) (by decide +kernel)) (byA eNcX10_dead (p := 36) (v := 60) (by decide +kernel)) (by decide +kernel)
theorem dX10_dead_37 : decode cX10_dead 37 = .ok (.if_icmp .ge 35, 3) := dc_162 (byA eNcX10_dead (p := 37) (v := 162) (by decide +kernel)) (byA eNcX10_dead (p := 38) (v := 0) (by decide +kernel)) (byA eNcX10_dead (p := 39) (v := 35) (by decide +kernel)) (by decide +kernel)
theorem dX10_dead_40 : decode cX10_dead 40 = .ok (.aload_n 0, 1) := dc_42 (byA eNcX10_dead (p := 40) (v := 42) (by decide +kernel))
theorem dX10_dead_41 : decode cX10_dead 41 = .ok (.getfield 37, 3) := dc_180 (byA eNcX10_dead (p := 41) (v := 180) (by decide +kernel)) (byA eNcX10_dead (p := 42) (v := 0) (by decide +kernel)) (byA eNcX10_dead (p := 43) (v := 37) (by decide +kernel)) rfl
theorem dX10_dead_44 : decode cX10_dead 44 = .ok (.iload_n 2, 1) := dc_28 (byA eNcX10_dead (p := 44) (v := 28) (by decide +kernel))
theorem dX10_dead_45 : decode cX10_dead 45 = .ok (.invokevirtual 217, 3) := dc_182 (byA eNcX10_dead (p := 45) (v := 182) (by decide +kernel)) (byA eNcX10_dead (p := 46) (v := 0) (by decide +kernel)) (byA eNcX10_dead (p := 47) (v := 217) (by decide +kernel)) rfl
theorem dX10_dead_48 : decode cX10_dead 48 = .ok (.ifCond .eq 18, 3) := dc_153 (byA eNcX10_dead (p := 48) (v := 153) (by decide +kernel)) (byA eNcX10_dead (p := 49) (v := 0) (by decide +kernel)) (byA eNcX10_dead (p := 50) (v := 18) (by decide +kernel)) (by decide +kernel)
theorem dX10_dead_51 : decode cX10_dead 51 = .ok (.aload_n 0, 1) := dc_42 (byA eNcX10_dead (p := 51) (v := 42) (by decide +kernel))
theorem dX10_dead_52 : decode cX10_dead 52 = .ok (.getfield 65, 3) := dc_180 (byA eNcX10_dead (p := 52) (v := 180) (by decide +kernel)) (byA eNcX10_dead (p := 53) (v := 0) (by decide +kernel)) (byA eNcX10_dead (p := 54) (v := 65) (by decide +kernel)) rfl
theorem dX10_dead_55 : decode cX10_dead 55 = .ok (.iload_n 2, 1) := dc_28 (byA eNcX10_dead (p := 55) (v := 28) (by decide +kernel))
theorem dX10_dead_56 : decode cX10_dead 56 = .ok (.invokevirtual 185, 3) := dc_182 (byA eNcX10_dead (p := 56) (v := 182) (by decide +kernel)) (byA eNcX10_dead (p := 57) (v := 0) (by decide +kernel)) (byA eNcX10_dead (p := 58) (v := 185) (by decide +kernel)) rfl
theorem dX10_dead_59 : decode cX10_dead 59 = .ok (.iconst (-1), 1) := dc_2 (byA eNcX10_dead (p := 59) (v := 2) (by decide +kernel))
theorem dX10_dead_60 : decode cX10_dead 60 = .ok (.if_icmp .ne 6, 3) := dc_160 (byA eNcX10_dead (p := 60) (v := 160) (by decide +kernel)) (byA eNcX10_dead (p := 61) (v := 0) (by decide +kernel)) (byA eNcX10_dead (p := 62) (v := 6) (by decide +kernel)) (by decide +kernel)
theorem dX10_dead_63 : decode cX10_dead 63 = .ok (.iinc 1 1, 3) := dc_132 (byA eNcX10_dead (p := 63) (v := 132) (by decide +kernel)) (byA eNcX10_dead (p := 64) (v := 1) (by decide +kernel)) (byA eNcX10_dead (p := 65) (v := 1) (by decide +kernel)) (by decide +kernel)
theorem dX10_dead_66 : decode cX10_dead 66 = .ok (.iinc 2 1, 3) := dc_132 (byA eNcX10_dead (p := 66) (v := 132) (by decide +kernel)) (byA eNcX10_dead (p := 67) (v := 2) (by decide +kernel)) (byA eNcX10_dead (p := 68) (v := 1) (by decide +kernel)) (by decide +kernel)
theorem dX10_dead_69 : decode cX10_dead 69 = .ok (.goto (-35), 3) := dc_167 (byA eNcX10_dead (p := 69) (v := 167) (by decide +kernel)) (byA eNcX10_dead (p := 70) (v := 255) (by decide +kernel)) (byA eNcX10_dead (p := 71) (v := 221) (by decide +kernel)) (by decide +kernel)
theorem dX10_dead_72 : decode cX10_dead 72 = .ok (.iload_n 1, 1) := dc_27 (byA eNcX10_dead (p := 72) (v := 27) (by decide +kernel))
theorem dX10_dead_73 : decode cX10_dead 73 = .ok (.ireturn, 1) := dc_172 (byA eNcX10_dead (p := 73) (v := 172) (by decide +kernel))
def X10_dead_L34 : Nat → Int → Int → Mm → Rs
  | 0, _, _, _ => none
  | n + 1, l1, l2, μ => if 60 ≤ l2 then (some (l1, μ)) else (bd (X0_isOpen 5 l2 μ) fun v9 μ10 => if v9 = 0 then (X10_dead_L34 n l1 (iA l2 1) μ10) else (bd (X9_stepsTo l2 μ10) fun v13 μ14 => if v13 = (-1) then (X10_dead_L34 n (iA l1 1) (iA l2 1) μ14) else (X10_dead_L34 n l1 (iA l2 1) μ14)))
def X10_dead (μ : Mm) : Rs := bd (X0_stands 5 μ) fun v1 μ2 => if v1 = 0 then (some ((-1), μ2)) else (bd (X9_measure 5 (μ2 5 3) μ2) fun v5 μ6 => X10_dead_L34 FU 0 0 μ6)
set_option maxHeartbeats 4000000 in
set_option maxRecDepth 100000 in
theorem kX10_dead_L34 (d : Nat) (hd : 4 ≤ d) {r : Int} {μ' : Mm} : ∀ (n : Nat) {l1 l2 : Int} {μ : Mm}, X10_dead_L34 n l1 l2 μ = some (r, μ') → VV d mX10_dead 34 [some (vR 0), some (vI l1), some (vI l2)] [] μ r μ' := by
  intro n
  induction n with
  | zero => intro l1 l2 μ h; rw [X10_dead_L34] at h; cases h
  | succ n ih =>
    intro l1 l2 μ h
    rw [X10_dead_L34] at h
    refine V_iload_n (q := 35) dX10_dead_34 rfl rfl rfl ?_
    refine V_bipush (q := 37) dX10_dead_35 rfl rfl rfl ?_
    refine V_icmpge (q := 72) (q2 := 40) dX10_dead_37 (by decide) rfl (fun hc8 => ?_) (fun hc8 => ?_)
    · have h := ifT hc8 h
      refine V_iload_n (q := 73) dX10_dead_72 rfl rfl rfl ?_
      exact V_iret rfl h dX10_dead_73
    · have h := ifF hc8 h
      refine V_aload_n (q := 41) dX10_dead_40 rfl rfl rfl ?_
      refine V_getO (q := 44) (t := 5) fl_X10_37 rfl rfl rfl rfl dX10_dead_41 rfl ?_
      refine V_iload_n (q := 45) dX10_dead_44 rfl rfl rfl ?_
      obtain ⟨v9, μ10, hc11, h⟩ := bd_i h
      refine V_cV1 (q := 48) (v := vI v9) (kX0_isOpen (d - 1) (by omega) rfl hc11) (by omega) mv_X10_217 rfl rfl rfl rfl rfl rfl dX10_dead_45 rfl ?_
      refine V_ifeq (q := 66) (q2 := 51) dX10_dead_48 (by decide) rfl (fun hc12 => ?_) (fun hc12 => ?_)
      · have h := ifT hc12 h
        refine V_iinc (q := 69) dX10_dead_66 rfl (Nat.le_of_ble_eq_true rfl) trivial rfl ?_
        refine V_goto (q := 34) dX10_dead_69 (by decide) ?_
        exact V_weak (ih h) (sb_s rfl (sb_s rfl (sb_s rfl sb_0)))
      · have h := ifF hc12 h
        refine V_aload_n (q := 52) dX10_dead_51 rfl rfl rfl ?_
        refine V_getO (q := 55) (t := 45) fl_X10_65 rfl rfl rfl rfl dX10_dead_52 rfl ?_
        refine V_iload_n (q := 56) dX10_dead_55 rfl rfl rfl ?_
        obtain ⟨v13, μ14, hc15, h⟩ := bd_i h
        refine V_cV1 (q := 59) (v := vI v13) (kX9_stepsTo (d - 1) (by omega) hc15) (by omega) mv_X10_185 rfl rfl rfl rfl rfl rfl dX10_dead_56 rfl ?_
        refine V_iconst (q := 60) dX10_dead_59 rfl rfl ?_
        refine V_icmpne (q := 66) (q2 := 63) dX10_dead_60 (by decide) rfl (fun hc16 => ?_) (fun hc16 => ?_)
        · have h := ifF hc16 h
          refine V_iinc (q := 69) dX10_dead_66 rfl (Nat.le_of_ble_eq_true rfl) trivial rfl ?_
          refine V_goto (q := 34) dX10_dead_69 (by decide) ?_
          exact V_weak (ih h) (sb_s rfl (sb_s rfl (sb_s rfl sb_0)))
        · have h := ifT hc16 h
          refine V_iinc (q := 66) dX10_dead_63 rfl (Nat.le_of_ble_eq_true rfl) trivial rfl ?_
          refine V_iinc (q := 69) dX10_dead_66 rfl (Nat.le_of_ble_eq_true rfl) trivial rfl ?_
          refine V_goto (q := 34) dX10_dead_69 (by decide) ?_
          exact V_weak (ih h) (sb_s rfl (sb_s rfl (sb_s rfl sb_0)))
set_option maxHeartbeats 4000000 in
set_option maxRecDepth 100000 in
theorem kX10_dead (d : Nat) (hd : 4 ≤ d) {μ : Mm} {r : Int} {μ' : Mm} (h : X10_dead μ = some (r, μ')) : CC d mX10_dead [vR 0] μ r μ' := by
  unfold X10_dead at h
  refine V_enter (by decide) (Nat.le_of_ble_eq_true rfl) ?_
  show VV d mX10_dead 0 [some (vR 0), none, none] [] μ r μ'
  refine V_aload_n (q := 1) dX10_dead_0 rfl rfl rfl ?_
  refine V_getO (q := 4) (t := 5) fl_X10_37 rfl rfl rfl rfl dX10_dead_1 rfl ?_
  obtain ⟨v1, μ2, hc3, h⟩ := bd_i h
  refine V_cV1 (q := 7) (v := vI v1) (kX0_stands (d - 1) (by omega) rfl hc3) (by omega) mv_X10_204 rfl rfl rfl rfl rfl rfl dX10_dead_4 rfl ?_
  refine V_ifne (q := 12) (q2 := 10) dX10_dead_7 (by decide) rfl (fun hc4 => ?_) (fun hc4 => ?_)
  · have h := ifF hc4 h
    refine V_aload_n (q := 13) dX10_dead_12 rfl rfl rfl ?_
    refine V_getO (q := 16) (t := 45) fl_X10_65 rfl rfl rfl rfl dX10_dead_13 rfl ?_
    refine V_aload_n (q := 17) dX10_dead_16 rfl rfl rfl ?_
    refine V_getO (q := 20) (t := 5) fl_X10_37 rfl rfl rfl rfl dX10_dead_17 rfl ?_
    refine V_aload_n (q := 21) dX10_dead_20 rfl rfl rfl ?_
    refine V_getO (q := 24) (t := 5) fl_X10_37 rfl rfl rfl rfl dX10_dead_21 rfl ?_
    refine V_getI (q := 27) fl_X10_214 rfl rfl rfl dX10_dead_24 rfl ?_
    obtain ⟨v5, μ6, hc7, h⟩ := bd_i h
    refine V_cV0 (q := 30) (kX9_measure (d - 1) (by omega) rfl hc7) (by omega) mv_X10_181 rfl rfl rfl rfl rfl rfl dX10_dead_27 rfl ?_
    refine V_iconst (q := 31) dX10_dead_30 rfl rfl ?_
    refine V_istore_n (q := 32) dX10_dead_31 rfl (Nat.le_of_ble_eq_true rfl) trivial rfl ?_
    refine V_iconst (q := 33) dX10_dead_32 rfl rfl ?_
    refine V_istore_n (q := 34) dX10_dead_33 rfl (Nat.le_of_ble_eq_true rfl) trivial rfl ?_
    exact V_weak (kX10_dead_L34 d hd  FU h) (sb_s rfl (sb_s rfl (sb_s rfl sb_0)))
  · have h := ifT hc4 h
    refine V_iconst (q := 11) dX10_dead_10 rfl rfl ?_
    exact V_iret rfl h dX10_dead_11
abbrev mX10_count : Mth := (yX10_count, cX10_count, 2, some .int)
set_option maxRecDepth 100000 in
theorem mi_X10_count : Cond.instanceMethod yX10_count ∈ tG ∧ Cond.selects yX10_count.cls yX10_count yX10_count ∈ tG ∧ Cond.initialized yX10_count.cls ∈ tG ∧ Cond.code yX10_count cX10_count 2 (some .int) ∈ tG ∧ (yX10_count.cls ≠ "java/lang/invoke/MethodHandle" ∧ yX10_count.cls ≠ "java/lang/invoke/VarHandle" ∧ (parseMethodDescriptor yX10_count.desc).map (fun d => d.parameters.length) = some 1) ∧ 2 ≤ 60 := ⟨(tG_of (tb3 (List.mem_of_getElem? (i := 193) rfl)) (by decide +kernel)), (tG_of (tb3 (List.mem_of_getElem? (i := 194) rfl)) (by decide +kernel)), (tG_of (tb1 (List.mem_of_getElem? (i := 1) rfl)) (by decide +kernel)), (tG_of (tb3 (List.mem_of_getElem? (i := 195) rfl)) (by decide +kernel)), ⟨by decide, by decide, by decide +kernel⟩, by decide⟩
theorem dX10_count_0 : decode cX10_count 0 = .ok (.iload_n 1, 1) := dc_27 (byA eNcX10_count (p := 0) (v := 27) (by decide +kernel))
theorem dX10_count_1 : decode cX10_count 1 = .ok (.tableswitch 114 0 8 #[51, 59, 64, 69, 77, 85, 93, 98, 106], 51) := by decide +kernel
theorem dX10_count_52 : decode cX10_count 52 = .ok (.aload_n 0, 1) := dc_42 (byA eNcX10_count (p := 52) (v := 42) (by decide +kernel))
theorem dX10_count_53 : decode cX10_count 53 = .ok (.getfield 37, 3) := dc_180 (byA eNcX10_count (p := 53) (v := 180) (by decide +kernel)) (byA eNcX10_count (p := 54) (v := 0) (by decide +kernel)) (byA eNcX10_count (p := 55) (v := 37) (by decide +kernel)) rfl
theorem dX10_count_56 : decode cX10_count 56 = .ok (.getfield 156, 3) := dc_180 (byA eNcX10_count (p := 56) (v := 180) (by decide +kernel)) (byA eNcX10_count (p := 57) (v := 0) (by decide +kernel)) (byA eNcX10_count (p := 58) (v := 156) (by decide +kernel)) rfl
theorem dX10_count_59 : decode cX10_count 59 = .ok (.ireturn, 1) := dc_172 (byA eNcX10_count (p := 59) (v := 172) (by decide +kernel))
theorem dX10_count_60 : decode cX10_count 60 = .ok (.aload_n 0, 1) := dc_42 (byA eNcX10_count (p := 60) (v := 42) (by decide +kernel))
theorem dX10_count_61 : decode cX10_count 61 = .ok (.getfield 159, 3) := dc_180 (byA eNcX10_count (p := 61) (v := 180) (by decide +kernel)) (byA eNcX10_count (p := 62) (v := 0) (by decide +kernel)) (byA eNcX10_count (p := 63) (v := 159) (by decide +kernel)) rfl
theorem dX10_count_64 : decode cX10_count 64 = .ok (.ireturn, 1) := dc_172 (byA eNcX10_count (p := 64) (v := 172) (by decide +kernel))
theorem dX10_count_65 : decode cX10_count 65 = .ok (.aload_n 0, 1) := dc_42 (byA eNcX10_count (p := 65) (v := 42) (by decide +kernel))
theorem dX10_count_66 : decode cX10_count 66 = .ok (.getfield 162, 3) := dc_180 (byA eNcX10_count (p := 66) (v := 180) (by decide +kernel)) (byA eNcX10_count (p := 67) (v := 0) (by decide +kernel)) (byA eNcX10_count (p := 68) (v := 162) (by decide +kernel)) rfl
theorem dX10_count_69 : decode cX10_count 69 = .ok (.ireturn, 1) := dc_172 (byA eNcX10_count (p := 69) (v := 172) (by decide +kernel))
theorem dX10_count_70 : decode cX10_count 70 = .ok (.aload_n 0, 1) := dc_42 (byA eNcX10_count (p := 70) (v := 42) (by decide +kernel))
theorem dX10_count_71 : decode cX10_count 71 = .ok (.getfield 10, 3) := dc_180 (byA eNcX10_count (p := 71) (v := 180) (by decide +kernel)) (byA eNcX10_count (p := 72) (v := 0) (by decide +kernel)) (byA eNcX10_count (p := 73) (v := 10) (by decide +kernel)) rfl
theorem dX10_count_74 : decode cX10_count 74 = .ok (.getfield 112, 3) := dc_180 (byA eNcX10_count (p := 74) (v := 180) (by decide +kernel)) (byA eNcX10_count (p := 75) (v := 0) (by decide +kernel)) (byA eNcX10_count (p := 76) (v := 112) (by decide +kernel)) rfl
theorem dX10_count_77 : decode cX10_count 77 = .ok (.ireturn, 1) := dc_172 (byA eNcX10_count (p := 77) (v := 172) (by decide +kernel))
theorem dX10_count_78 : decode cX10_count 78 = .ok (.aload_n 0, 1) := dc_42 (byA eNcX10_count (p := 78) (v := 42) (by decide +kernel))
theorem dX10_count_79 : decode cX10_count 79 = .ok (.getfield 37, 3) := dc_180 (byA eNcX10_count (p := 79) (v := 180) (by decide +kernel)) (byA eNcX10_count (p := 80) (v := 0) (by decide +kernel)) (byA eNcX10_count (p := 81) (v := 37) (by decide +kernel)) rfl
theorem dX10_count_82 : decode cX10_count 82 = .ok (.getfield 220, 3) := dc_180 (byA eNcX10_count (p := 82) (v := 180) (by decide +kernel)) (byA eNcX10_count (p := 83) (v := 0) (by decide +kernel)) (byA eNcX10_count (p := 84) (v := 220) (by decide +kernel)) rfl
theorem dX10_count_85 : decode cX10_count 85 = .ok (.ireturn, 1) := dc_172 (byA eNcX10_count (p := 85) (v := 172) (by decide +kernel))
theorem dX10_count_86 : decode cX10_count 86 = .ok (.aload_n 0, 1) := dc_42 (byA eNcX10_count (p := 86) (v := 42) (by decide +kernel))
theorem dX10_count_87 : decode cX10_count 87 = .ok (.getfield 37, 3) := dc_180 (byA eNcX10_count (p := 87) (v := 180) (by decide +kernel)) (byA eNcX10_count (p := 88) (v := 0) (by decide +kernel)) (byA eNcX10_count (p := 89) (v := 37) (by decide +kernel)) rfl
theorem dX10_count_90 : decode cX10_count 90 = .ok (.getfield 223, 3) := dc_180 (byA eNcX10_count (p := 90) (v := 180) (by decide +kernel)) (byA eNcX10_count (p := 91) (v := 0) (by decide +kernel)) (byA eNcX10_count (p := 92) (v := 223) (by decide +kernel)) rfl
theorem dX10_count_93 : decode cX10_count 93 = .ok (.ireturn, 1) := dc_172 (byA eNcX10_count (p := 93) (v := 172) (by decide +kernel))
theorem dX10_count_94 : decode cX10_count 94 = .ok (.aload_n 0, 1) := dc_42 (byA eNcX10_count (p := 94) (v := 42) (by decide +kernel))
theorem dX10_count_95 : decode cX10_count 95 = .ok (.getfield 104, 3) := dc_180 (byA eNcX10_count (p := 95) (v := 180) (by decide +kernel)) (byA eNcX10_count (p := 96) (v := 0) (by decide +kernel)) (byA eNcX10_count (p := 97) (v := 104) (by decide +kernel)) rfl
theorem dX10_count_98 : decode cX10_count 98 = .ok (.ireturn, 1) := dc_172 (byA eNcX10_count (p := 98) (v := 172) (by decide +kernel))
theorem dX10_count_99 : decode cX10_count 99 = .ok (.aload_n 0, 1) := dc_42 (byA eNcX10_count (p := 99) (v := 42) (by decide +kernel))
theorem dX10_count_100 : decode cX10_count 100 = .ok (.getfield 100, 3) := dc_180 (byA eNcX10_count (p := 100) (v := 180) (by decide +kernel)) (byA eNcX10_count (p := 101) (v := 0) (by decide +kernel)) (byA eNcX10_count (p := 102) (v := 100) (by decide +kernel)) rfl
theorem dX10_count_103 : decode cX10_count 103 = .ok (.getfield 153, 3) := dc_180 (byA eNcX10_count (p := 103) (v := 180) (by decide +kernel)) (byA eNcX10_count (p := 104) (v := 0) (by decide +kernel)) (byA eNcX10_count (p := 105) (v := 153) (by decide +kernel)) rfl
theorem dX10_count_106 : decode cX10_count 106 = .ok (.ireturn, 1) := dc_172 (byA eNcX10_count (p := 106) (v := 172) (by decide +kernel))
theorem dX10_count_107 : decode cX10_count 107 = .ok (.aload_n 0, 1) := dc_42 (byA eNcX10_count (p := 107) (v := 42) (by decide +kernel))
theorem dX10_count_108 : decode cX10_count 108 = .ok (.getfield 37, 3) := dc_180 (byA eNcX10_count (p := 108) (v := 180) (by decide +kernel)) (byA eNcX10_count (p := 109) (v := 0) (by decide +kernel)) (byA eNcX10_count (p := 110) (v := 37) (by decide +kernel)) rfl
theorem dX10_count_111 : decode cX10_count 111 = .ok (.getfield 211, 3) := dc_180 (byA eNcX10_count (p := 111) (v := 180) (by decide +kernel)) (byA eNcX10_count (p := 112) (v := 0) (by decide +kernel)) (byA eNcX10_count (p := 113) (v := 211) (by decide +kernel)) rfl
theorem dX10_count_114 : decode cX10_count 114 = .ok (.ireturn, 1) := dc_172 (byA eNcX10_count (p := 114) (v := 172) (by decide +kernel))
theorem dX10_count_115 : decode cX10_count 115 = .ok (.ldc 226, 2) := dc_18 (byA eNcX10_count (p := 115) (v := 18) (by decide +kernel)) (byA eNcX10_count (p := 116) (v := 226) (by decide +kernel))
theorem dX10_count_117 : decode cX10_count 117 = .ok (.ireturn, 1) := dc_172 (byA eNcX10_count (p := 117) (v := 172) (by decide +kernel))
def X10_count (l1 : Int) (μ : Mm) : Rs := if l1 = 0 then (some (μ 5 5, μ)) else (if l1 = 1 then (some (μ 0 15, μ)) else (if l1 = 2 then (some (μ 0 16, μ)) else (if l1 = 3 then (some (μ 1 1, μ)) else (if l1 = 4 then (some (μ 5 7, μ)) else (if l1 = 5 then (some (μ 5 8, μ)) else (if l1 = 6 then (some (μ 0 17, μ)) else (if l1 = 7 then (some (μ 67 2, μ)) else (if l1 = 8 then (some (μ 5 6, μ)) else (some ((-1000000), μ))))))))))
set_option maxHeartbeats 4000000 in
set_option maxRecDepth 100000 in
theorem kX10_count (d : Nat) (hd : 1 ≤ d) {l1 : Int} {μ : Mm} {r : Int} {μ' : Mm} (h : X10_count l1 μ = some (r, μ')) : CC d mX10_count [vR 0, vI l1] μ r μ' := by
  unfold X10_count at h
  refine V_enter (by decide) (Nat.le_of_ble_eq_true rfl) ?_
  show VV d mX10_count 0 [some (vR 0), some (vI l1)] [] μ r μ'
  refine V_iload_n (q := 1) dX10_count_0 rfl rfl rfl ?_
  refine V_ts1 (q := 52) 0 dX10_count_1 rfl rfl rfl (by decide) (fun hc1 => ?_) (fun hc1 => ?_)
  · have h := ifT hc1 h
    refine V_aload_n (q := 53) dX10_count_52 rfl rfl rfl ?_
    refine V_getO (q := 56) (t := 5) fl_X10_37 rfl rfl rfl rfl dX10_count_53 rfl ?_
    refine V_getI (q := 59) fl_X10_156 rfl rfl rfl dX10_count_56 rfl ?_
    exact V_iret rfl h dX10_count_59
  · have h := ifF hc1 h
    refine V_ts1 (q := 60) 1 dX10_count_1 rfl rfl rfl (by decide) (fun hc2 => ?_) (fun hc2 => ?_)
    · have h := ifT hc2 h
      refine V_aload_n (q := 61) dX10_count_60 rfl rfl rfl ?_
      refine V_getI (q := 64) fl_X10_159 rfl rfl rfl dX10_count_61 rfl ?_
      exact V_iret rfl h dX10_count_64
    · have h := ifF hc2 h
      refine V_ts1 (q := 65) 2 dX10_count_1 rfl rfl rfl (by decide) (fun hc3 => ?_) (fun hc3 => ?_)
      · have h := ifT hc3 h
        refine V_aload_n (q := 66) dX10_count_65 rfl rfl rfl ?_
        refine V_getI (q := 69) fl_X10_162 rfl rfl rfl dX10_count_66 rfl ?_
        exact V_iret rfl h dX10_count_69
      · have h := ifF hc3 h
        refine V_ts1 (q := 70) 3 dX10_count_1 rfl rfl rfl (by decide) (fun hc4 => ?_) (fun hc4 => ?_)
        · have h := ifT hc4 h
          refine V_aload_n (q := 71) dX10_count_70 rfl rfl rfl ?_
          refine V_getO (q := 74) (t := 1) fl_X10_10 rfl rfl rfl rfl dX10_count_71 rfl ?_
          refine V_getI (q := 77) fl_X10_112 rfl rfl rfl dX10_count_74 rfl ?_
          exact V_iret rfl h dX10_count_77
        · have h := ifF hc4 h
          refine V_ts1 (q := 78) 4 dX10_count_1 rfl rfl rfl (by decide) (fun hc5 => ?_) (fun hc5 => ?_)
          · have h := ifT hc5 h
            refine V_aload_n (q := 79) dX10_count_78 rfl rfl rfl ?_
            refine V_getO (q := 82) (t := 5) fl_X10_37 rfl rfl rfl rfl dX10_count_79 rfl ?_
            refine V_getI (q := 85) fl_X10_220 rfl rfl rfl dX10_count_82 rfl ?_
            exact V_iret rfl h dX10_count_85
          · have h := ifF hc5 h
            refine V_ts1 (q := 86) 5 dX10_count_1 rfl rfl rfl (by decide) (fun hc6 => ?_) (fun hc6 => ?_)
            · have h := ifT hc6 h
              refine V_aload_n (q := 87) dX10_count_86 rfl rfl rfl ?_
              refine V_getO (q := 90) (t := 5) fl_X10_37 rfl rfl rfl rfl dX10_count_87 rfl ?_
              refine V_getI (q := 93) fl_X10_223 rfl rfl rfl dX10_count_90 rfl ?_
              exact V_iret rfl h dX10_count_93
            · have h := ifF hc6 h
              refine V_ts1 (q := 94) 6 dX10_count_1 rfl rfl rfl (by decide) (fun hc7 => ?_) (fun hc7 => ?_)
              · have h := ifT hc7 h
                refine V_aload_n (q := 95) dX10_count_94 rfl rfl rfl ?_
                refine V_getI (q := 98) fl_X10_104 rfl rfl rfl dX10_count_95 rfl ?_
                exact V_iret rfl h dX10_count_98
              · have h := ifF hc7 h
                refine V_ts1 (q := 99) 7 dX10_count_1 rfl rfl rfl (by decide) (fun hc8 => ?_) (fun hc8 => ?_)
                · have h := ifT hc8 h
                  refine V_aload_n (q := 100) dX10_count_99 rfl rfl rfl ?_
                  refine V_getO (q := 103) (t := 67) fl_X10_100 rfl rfl rfl rfl dX10_count_100 rfl ?_
                  refine V_getI (q := 106) fl_X10_153 rfl rfl rfl dX10_count_103 rfl ?_
                  exact V_iret rfl h dX10_count_106
                · have h := ifF hc8 h
                  refine V_ts1 (q := 107) 8 dX10_count_1 rfl rfl rfl (by decide) (fun hc9 => ?_) (fun hc9 => ?_)
                  · have h := ifT hc9 h
                    refine V_aload_n (q := 108) dX10_count_107 rfl rfl rfl ?_
                    refine V_getO (q := 111) (t := 5) fl_X10_37 rfl rfl rfl rfl dX10_count_108 rfl ?_
                    refine V_getI (q := 114) fl_X10_211 rfl rfl rfl dX10_count_111 rfl ?_
                    exact V_iret rfl h dX10_count_114
                  · have h := ifF hc9 h
                    refine V_tsOut (q := 115) dX10_count_1 (by omega) (by decide) ?_
                    refine V_ldc (q := 117) (n := -1000000) dX10_count_115 (by unfold rI; omega) kc_X10_226 rfl ?_
                    exact V_iret rfl h dX10_count_117
abbrev mX10_isPlay : Mth := (yX10_isPlay, cX10_isPlay, 2, some .boolean)
set_option maxRecDepth 100000 in
theorem mi_X10_isPlay : Cond.instanceMethod yX10_isPlay ∈ tG ∧ Cond.selects yX10_isPlay.cls yX10_isPlay yX10_isPlay ∈ tG ∧ Cond.initialized yX10_isPlay.cls ∈ tG ∧ Cond.code yX10_isPlay cX10_isPlay 2 (some .boolean) ∈ tG ∧ (yX10_isPlay.cls ≠ "java/lang/invoke/MethodHandle" ∧ yX10_isPlay.cls ≠ "java/lang/invoke/VarHandle" ∧ (parseMethodDescriptor yX10_isPlay.desc).map (fun d => d.parameters.length) = some 1) ∧ 2 ≤ 60 := ⟨(tG_of (tb3 (List.mem_of_getElem? (i := 203) rfl)) (by decide +kernel)), (tG_of (List.mem_of_getElem? (i := 20) (by decide +kernel)) (by decide +kernel)), (tG_of (tb1 (List.mem_of_getElem? (i := 1) rfl)) (by decide +kernel)), (tG_of (tb3 (List.mem_of_getElem? (i := 204) rfl)) (by decide +kernel)), ⟨by decide, by decide, by decide +kernel⟩, by decide⟩
set_option maxRecDepth 100000 in
theorem mv_X10_227 : mV RX10 227 mX10_isPlay 1 := ⟨(tG_of (tb3 (List.mem_of_getElem? (i := 201) rfl)) (by decide +kernel)), mi_X10_isPlay⟩
theorem dX10_isPlay_0 : decode cX10_isPlay 0 = .ok (.iload_n 1, 1) := dc_27 (byA eNcX10_isPlay (p := 0) (v := 27) (by decide +kernel))
theorem dX10_isPlay_1 : decode cX10_isPlay 1 = .ok (.ifCond .lt 24, 3) := dc_155 (byA eNcX10_isPlay (p := 1) (v := 155) (by decide +kernel)) (byA eNcX10_isPlay (p := 2) (v := 0) (by decide +kernel)) (byA eNcX10_isPlay (p := 3) (v := 24) (by decide +kernel)) (by decide +kernel)
theorem dX10_isPlay_4 : decode cX10_isPlay 4 = .ok (.iload_n 1, 1) := dc_27 (byA eNcX10_isPlay (p := 4) (v := 27) (by decide +kernel))
theorem dX10_isPlay_5 : decode cX10_isPlay 5 = .ok (.aload_n 0, 1) := dc_42 (byA eNcX10_isPlay (p := 5) (v := 42) (by decide +kernel))
theorem dX10_isPlay_6 : decode cX10_isPlay 6 = .ok (.getfield 159, 3) := dc_180 (byA eNcX10_isPlay (p := 6) (v := 180) (by decide +kernel)) (byA eNcX10_isPlay (p := 7) (v := 0) (by decide +kernel)) (byA eNcX10_isPlay (p := 8) (v := 159) (by decide +kernel)) rfl
theorem dX10_isPlay_9 : decode cX10_isPlay 9 = .ok (.if_icmp .ge 16, 3) := dc_162 (byA eNcX10_isPlay (p := 9) (v := 162) (by decide +kernel)) (byA eNcX10_isPlay (p := 10) (v := 0) (by decide +kernel)) (byA eNcX10_isPlay (p := 11) (v := 16) (by decide +kernel)) (by decide +kernel)
theorem dX10_isPlay_12 : decode cX10_isPlay 12 = .ok (.iload_n 1, 1) := dc_27 (byA eNcX10_isPlay (p := 12) (v := 27) (by decide +kernel))
theorem dX10_isPlay_13 : decode cX10_isPlay 13 = .ok (.aload_n 0, 1) := dc_42 (byA eNcX10_isPlay (p := 13) (v := 42) (by decide +kernel))
theorem dX10_isPlay_14 : decode cX10_isPlay 14 = .ok (.getfield 49, 3) := dc_180 (byA eNcX10_isPlay (p := 14) (v := 180) (by decide +kernel)) (byA eNcX10_isPlay (p := 15) (v := 0) (by decide +kernel)) (byA eNcX10_isPlay (p := 16) (v := 49) (by decide +kernel)) rfl
theorem dX10_isPlay_17 : decode cX10_isPlay 17 = .ok (.arraylength, 1) := dc_190 (byA eNcX10_isPlay (p := 17) (v := 190) (by decide +kernel))
theorem dX10_isPlay_18 : decode cX10_isPlay 18 = .ok (.if_icmp .ge 7, 3) := dc_162 (byA eNcX10_isPlay (p := 18) (v := 162) (by decide +kernel)) (byA eNcX10_isPlay (p := 19) (v := 0) (by decide +kernel)) (byA eNcX10_isPlay (p := 20) (v := 7) (by decide +kernel)) (by decide +kernel)
theorem dX10_isPlay_21 : decode cX10_isPlay 21 = .ok (.iconst 1, 1) := dc_4 (byA eNcX10_isPlay (p := 21) (v := 4) (by decide +kernel))
theorem dX10_isPlay_22 : decode cX10_isPlay 22 = .ok (.goto 4, 3) := dc_167 (byA eNcX10_isPlay (p := 22) (v := 167) (by decide +kernel)) (byA eNcX10_isPlay (p := 23) (v := 0) (by decide +kernel)) (byA eNcX10_isPlay (p := 24) (v := 4) (by decide +kernel)) (by decide +kernel)
theorem dX10_isPlay_25 : decode cX10_isPlay 25 = .ok (.iconst 0, 1) := dc_3 (byA eNcX10_isPlay (p := 25) (v := 3) (by decide +kernel))
theorem dX10_isPlay_26 : decode cX10_isPlay 26 = .ok (.ireturn, 1) := dc_172 (byA eNcX10_isPlay (p := 26) (v := 172) (by decide +kernel))
def X10_isPlay (l1 : Int) (μ : Mm) : Rs := if l1 < 0 then (some (0, μ)) else (if (μ 0 15) ≤ l1 then (some (0, μ)) else (if ((aN 17 : Nat) : Int) ≤ l1 then (some (0, μ)) else (some (1, μ))))
set_option maxHeartbeats 4000000 in
set_option maxRecDepth 100000 in
theorem kX10_isPlay (d : Nat) (hd : 1 ≤ d) {l1 : Int} {μ : Mm} {r : Int} {μ' : Mm} (h : X10_isPlay l1 μ = some (r, μ')) : CC d mX10_isPlay [vR 0, vI l1] μ r μ' := by
  unfold X10_isPlay at h
  refine V_enter (by decide) (Nat.le_of_ble_eq_true rfl) ?_
  show VV d mX10_isPlay 0 [some (vR 0), some (vI l1)] [] μ r μ'
  refine V_iload_n (q := 1) dX10_isPlay_0 rfl rfl rfl ?_
  refine V_iflt (q := 25) (q2 := 4) dX10_isPlay_1 (by decide) rfl (fun hc1 => ?_) (fun hc1 => ?_)
  · have h := ifT hc1 h
    refine V_iconst (q := 26) dX10_isPlay_25 rfl rfl ?_
    exact V_zret rfl (Or.inl rfl) h dX10_isPlay_26
  · have h := ifF hc1 h
    refine V_iload_n (q := 5) dX10_isPlay_4 rfl rfl rfl ?_
    refine V_aload_n (q := 6) dX10_isPlay_5 rfl rfl rfl ?_
    refine V_getI (q := 9) fl_X10_159 rfl rfl rfl dX10_isPlay_6 rfl ?_
    refine V_icmpge (q := 25) (q2 := 12) dX10_isPlay_9 (by decide) rfl (fun hc2 => ?_) (fun hc2 => ?_)
    · have h := ifT hc2 h
      refine V_iconst (q := 26) dX10_isPlay_25 rfl rfl ?_
      exact V_zret rfl (Or.inl rfl) h dX10_isPlay_26
    · have h := ifF hc2 h
      refine V_iload_n (q := 13) dX10_isPlay_12 rfl rfl rfl ?_
      refine V_aload_n (q := 14) dX10_isPlay_13 rfl rfl rfl ?_
      refine V_getO (q := 17) (t := 17) fl_X10_49 rfl rfl rfl rfl dX10_isPlay_14 rfl ?_
      refine V_alenP (q := 18) (c2 := 1) rfl (Or.inl rfl) dX10_isPlay_17 rfl ?_
      refine V_icmpge (q := 25) (q2 := 21) dX10_isPlay_18 (by decide) rfl (fun hc3 => ?_) (fun hc3 => ?_)
      · have h := ifT hc3 h
        refine V_iconst (q := 26) dX10_isPlay_25 rfl rfl ?_
        exact V_zret rfl (Or.inl rfl) h dX10_isPlay_26
      · have h := ifF hc3 h
        refine V_iconst (q := 22) dX10_isPlay_21 rfl rfl ?_
        refine V_goto (q := 26) dX10_isPlay_22 (by decide) ?_
        exact V_zret rfl (Or.inr rfl) h dX10_isPlay_26
abbrev mX10_lawThatHolds : Mth := (yX10_lawThatHolds, cX10_lawThatHolds, 1, some (.object "UnderFloor$Text"))
set_option maxRecDepth 100000 in
theorem mi_X10_lawThatHolds : Cond.instanceMethod yX10_lawThatHolds ∈ tG ∧ Cond.selects yX10_lawThatHolds.cls yX10_lawThatHolds yX10_lawThatHolds ∈ tG ∧ Cond.initialized yX10_lawThatHolds.cls ∈ tG ∧ Cond.code yX10_lawThatHolds cX10_lawThatHolds 1 (some (.object "UnderFloor$Text")) ∈ tG ∧ (yX10_lawThatHolds.cls ≠ "java/lang/invoke/MethodHandle" ∧ yX10_lawThatHolds.cls ≠ "java/lang/invoke/VarHandle" ∧ (parseMethodDescriptor yX10_lawThatHolds.desc).map (fun d => d.parameters.length) = some 0) ∧ 1 ≤ 60 := ⟨(tG_of (tb3 (List.mem_of_getElem? (i := 207) rfl)) (by decide +kernel)), (tG_of (List.mem_of_getElem? (i := 21) (by decide +kernel)) (by decide +kernel)), (tG_of (tb1 (List.mem_of_getElem? (i := 1) rfl)) (by decide +kernel)), (tG_of (tb3 (List.mem_of_getElem? (i := 208) rfl)) (by decide +kernel)), ⟨by decide, by decide, by decide +kernel⟩, by decide⟩
set_option maxRecDepth 100000 in
theorem mv_X10_231 : mV RX10 231 mX10_lawThatHolds 0 := ⟨(tG_of (tb3 (List.mem_of_getElem? (i := 205) rfl)) (by decide +kernel)), mi_X10_lawThatHolds⟩
theorem dX10_lawThatHolds_0 : decode cX10_lawThatHolds 0 = .ok (.aload_n 0, 1) := dc_42 (byA eNcX10_lawThatHolds (p := 0) (v := 42) (by decide +kernel))
theorem dX10_lawThatHolds_1 : decode cX10_lawThatHolds 1 = .ok (.getfield 104, 3) := dc_180 (byA eNcX10_lawThatHolds (p := 1) (v := 180) (by decide +kernel)) (byA eNcX10_lawThatHolds (p := 2) (v := 0) (by decide +kernel)) (byA eNcX10_lawThatHolds (p := 3) (v := 104) (by decide +kernel)) rfl
theorem dX10_lawThatHolds_4 : decode cX10_lawThatHolds 4 = .ok (.ifCond .lt 38, 3) := dc_155 (byA eNcX10_lawThatHolds (p := 4) (v := 155) (by decide +kernel)) (byA eNcX10_lawThatHolds (p := 5) (v := 0) (by decide +kernel)) (byA eNcX10_lawThatHolds (p := 6) (v := 38) (by decide +kernel)) (by decide +kernel)
theorem dX10_lawThatHolds_7 : decode cX10_lawThatHolds 7 = .ok (.aload_n 0, 1) := dc_42 (byA eNcX10_lawThatHolds (p := 7) (v := 42) (by decide +kernel))
theorem dX10_lawThatHolds_8 : decode cX10_lawThatHolds 8 = .ok (.getfield 104, 3) := dc_180 (byA eNcX10_lawThatHolds (p := 8) (v := 180) (by decide +kernel)) (byA eNcX10_lawThatHolds (p := 9) (v := 0) (by decide +kernel)) (byA eNcX10_lawThatHolds (p := 10) (v := 104) (by decide +kernel)) rfl
theorem dX10_lawThatHolds_11 : decode cX10_lawThatHolds 11 = .ok (.aload_n 0, 1) := dc_42 (byA eNcX10_lawThatHolds (p := 11) (v := 42) (by decide +kernel))
theorem dX10_lawThatHolds_12 : decode cX10_lawThatHolds 12 = .ok (.getfield 162, 3) := dc_180 (byA eNcX10_lawThatHolds (p := 12) (v := 180) (by decide +kernel)) (byA eNcX10_lawThatHolds (p := 13) (v := 0) (by decide +kernel)) (byA eNcX10_lawThatHolds (p := 14) (v := 162) (by decide +kernel)) rfl
theorem dX10_lawThatHolds_15 : decode cX10_lawThatHolds 15 = .ok (.if_icmp .ge 27, 3) := dc_162 (byA eNcX10_lawThatHolds (p := 15) (v := 162) (by decide +kernel)) (byA eNcX10_lawThatHolds (p := 16) (v := 0) (by decide +kernel)) (byA eNcX10_lawThatHolds (p := 17) (v := 27) (by decide +kernel)) (by decide +kernel)
theorem dX10_lawThatHolds_18 : decode cX10_lawThatHolds 18 = .ok (.aload_n 0, 1) := dc_42 (byA eNcX10_lawThatHolds (p := 18) (v := 42) (by decide +kernel))
theorem dX10_lawThatHolds_19 : decode cX10_lawThatHolds 19 = .ok (.getfield 104, 3) := dc_180 (byA eNcX10_lawThatHolds (p := 19) (v := 180) (by decide +kernel)) (byA eNcX10_lawThatHolds (p := 20) (v := 0) (by decide +kernel)) (byA eNcX10_lawThatHolds (p := 21) (v := 104) (by decide +kernel)) rfl
theorem dX10_lawThatHolds_22 : decode cX10_lawThatHolds 22 = .ok (.aload_n 0, 1) := dc_42 (byA eNcX10_lawThatHolds (p := 22) (v := 42) (by decide +kernel))
theorem dX10_lawThatHolds_23 : decode cX10_lawThatHolds 23 = .ok (.getfield 58, 3) := dc_180 (byA eNcX10_lawThatHolds (p := 23) (v := 180) (by decide +kernel)) (byA eNcX10_lawThatHolds (p := 24) (v := 0) (by decide +kernel)) (byA eNcX10_lawThatHolds (p := 25) (v := 58) (by decide +kernel)) rfl
theorem dX10_lawThatHolds_26 : decode cX10_lawThatHolds 26 = .ok (.arraylength, 1) := dc_190 (byA eNcX10_lawThatHolds (p := 26) (v := 190) (by decide +kernel))
theorem dX10_lawThatHolds_27 : decode cX10_lawThatHolds 27 = .ok (.if_icmp .ge 15, 3) := dc_162 (byA eNcX10_lawThatHolds (p := 27) (v := 162) (by decide +kernel)) (byA eNcX10_lawThatHolds (p := 28) (v := 0) (by decide +kernel)) (byA eNcX10_lawThatHolds (p := 29) (v := 15) (by decide +kernel)) (by decide +kernel)
theorem dX10_lawThatHolds_30 : decode cX10_lawThatHolds 30 = .ok (.aload_n 0, 1) := dc_42 (byA eNcX10_lawThatHolds (p := 30) (v := 42) (by decide +kernel))
theorem dX10_lawThatHolds_31 : decode cX10_lawThatHolds 31 = .ok (.getfield 58, 3) := dc_180 (byA eNcX10_lawThatHolds (p := 31) (v := 180) (by decide +kernel)) (byA eNcX10_lawThatHolds (p := 32) (v := 0) (by decide +kernel)) (byA eNcX10_lawThatHolds (p := 33) (v := 58) (by decide +kernel)) rfl
theorem dX10_lawThatHolds_34 : decode cX10_lawThatHolds 34 = .ok (.aload_n 0, 1) := dc_42 (byA eNcX10_lawThatHolds (p := 34) (v := 42) (by decide +kernel))
theorem dX10_lawThatHolds_35 : decode cX10_lawThatHolds 35 = .ok (.getfield 104, 3) := dc_180 (byA eNcX10_lawThatHolds (p := 35) (v := 180) (by decide +kernel)) (byA eNcX10_lawThatHolds (p := 36) (v := 0) (by decide +kernel)) (byA eNcX10_lawThatHolds (p := 37) (v := 104) (by decide +kernel)) rfl
theorem dX10_lawThatHolds_38 : decode cX10_lawThatHolds 38 = .ok (.aaload, 1) := dc_50 (byA eNcX10_lawThatHolds (p := 38) (v := 50) (by decide +kernel))
theorem dX10_lawThatHolds_39 : decode cX10_lawThatHolds 39 = .ok (.goto 4, 3) := dc_167 (byA eNcX10_lawThatHolds (p := 39) (v := 167) (by decide +kernel)) (byA eNcX10_lawThatHolds (p := 40) (v := 0) (by decide +kernel)) (byA eNcX10_lawThatHolds (p := 41) (v := 4) (by decide +kernel)) (by decide +kernel)
theorem dX10_lawThatHolds_42 : decode cX10_lawThatHolds 42 = .ok (.aconst_null, 1) := dc_1 (byA eNcX10_lawThatHolds (p := 42) (v := 1) (by decide +kernel))
theorem dX10_lawThatHolds_43 : decode cX10_lawThatHolds 43 = .ok (.areturn, 1) := dc_176 (byA eNcX10_lawThatHolds (p := 43) (v := 176) (by decide +kernel))
def X10_lawThatHolds (μ : Mm) : Rs := if (μ 0 17) < 0 then (some ((-1 : Int), μ)) else (if (μ 0 16) ≤ (μ 0 17) then (some ((-1 : Int), μ)) else (if ((aN 36 : Nat) : Int) ≤ (μ 0 17) then (some ((-1 : Int), μ)) else (aL 36 (μ 0 17) fun v4 => some (((v4 : Nat) : Int), μ))))
set_option maxHeartbeats 4000000 in
set_option maxRecDepth 100000 in
theorem kX10_lawThatHolds (d : Nat) (hd : 1 ≤ d) {μ : Mm} {r : Int} {μ' : Mm} (h : X10_lawThatHolds μ = some (r, μ')) : CC d mX10_lawThatHolds [vR 0] μ r μ' := by
  unfold X10_lawThatHolds at h
  refine V_enter (by decide) (Nat.le_of_ble_eq_true rfl) ?_
  show VV d mX10_lawThatHolds 0 [some (vR 0)] [] μ r μ'
  refine V_aload_n (q := 1) dX10_lawThatHolds_0 rfl rfl rfl ?_
  refine V_getI (q := 4) fl_X10_104 rfl rfl rfl dX10_lawThatHolds_1 rfl ?_
  refine V_iflt (q := 42) (q2 := 7) dX10_lawThatHolds_4 (by decide) rfl (fun hc1 => ?_) (fun hc1 => ?_)
  · have h := ifT hc1 h
    refine V_null (q := 43) dX10_lawThatHolds_42 rfl ?_
    exact V_aretN rfl h dX10_lawThatHolds_43
  · have h := ifF hc1 h
    refine V_aload_n (q := 8) dX10_lawThatHolds_7 rfl rfl rfl ?_
    refine V_getI (q := 11) fl_X10_104 rfl rfl rfl dX10_lawThatHolds_8 rfl ?_
    refine V_aload_n (q := 12) dX10_lawThatHolds_11 rfl rfl rfl ?_
    refine V_getI (q := 15) fl_X10_162 rfl rfl rfl dX10_lawThatHolds_12 rfl ?_
    refine V_icmpge (q := 42) (q2 := 18) dX10_lawThatHolds_15 (by decide) rfl (fun hc2 => ?_) (fun hc2 => ?_)
    · have h := ifT hc2 h
      refine V_null (q := 43) dX10_lawThatHolds_42 rfl ?_
      exact V_aretN rfl h dX10_lawThatHolds_43
    · have h := ifF hc2 h
      refine V_aload_n (q := 19) dX10_lawThatHolds_18 rfl rfl rfl ?_
      refine V_getI (q := 22) fl_X10_104 rfl rfl rfl dX10_lawThatHolds_19 rfl ?_
      refine V_aload_n (q := 23) dX10_lawThatHolds_22 rfl rfl rfl ?_
      refine V_getO (q := 26) (t := 36) fl_X10_58 rfl rfl rfl rfl dX10_lawThatHolds_23 rfl ?_
      refine V_alenP (q := 27) (c2 := 2) rfl (Or.inr rfl) dX10_lawThatHolds_26 rfl ?_
      refine V_icmpge (q := 42) (q2 := 30) dX10_lawThatHolds_27 (by decide) rfl (fun hc3 => ?_) (fun hc3 => ?_)
      · have h := ifT hc3 h
        refine V_null (q := 43) dX10_lawThatHolds_42 rfl ?_
        exact V_aretN rfl h dX10_lawThatHolds_43
      · have h := ifF hc3 h
        refine V_aload_n (q := 31) dX10_lawThatHolds_30 rfl rfl rfl ?_
        refine V_getO (q := 34) (t := 36) fl_X10_58 rfl rfl rfl rfl dX10_lawThatHolds_31 rfl ?_
        refine V_aload_n (q := 35) dX10_lawThatHolds_34 rfl rfl rfl ?_
        refine V_getI (q := 38) fl_X10_104 rfl rfl rfl dX10_lawThatHolds_35 rfl ?_
        obtain ⟨hi5, h⟩ := aL_i h
        refine V_aaload (q := 39) (c2 := 2) rfl (Or.inr rfl) hi5 dX10_lawThatHolds_38 rfl ?_
        refine V_goto (q := 43) dX10_lawThatHolds_39 (by decide) ?_
        exact V_aret rfl h dX10_lawThatHolds_43
abbrev mX10_cue : Mth := (yX10_cue, cX10_cue, 5, some .int)
set_option maxRecDepth 100000 in
theorem mi_X10_cue : Cond.instanceMethod yX10_cue ∈ tG ∧ Cond.selects yX10_cue.cls yX10_cue yX10_cue ∈ tG ∧ Cond.initialized yX10_cue.cls ∈ tG ∧ Cond.code yX10_cue cX10_cue 5 (some .int) ∈ tG ∧ (yX10_cue.cls ≠ "java/lang/invoke/MethodHandle" ∧ yX10_cue.cls ≠ "java/lang/invoke/VarHandle" ∧ (parseMethodDescriptor yX10_cue.desc).map (fun d => d.parameters.length) = some 3) ∧ 5 ≤ 60 := ⟨(tG_of (tb3 (List.mem_of_getElem? (i := 198) rfl)) (by decide +kernel)), (tG_of (tb3 (List.mem_of_getElem? (i := 199) rfl)) (by decide +kernel)), (tG_of (tb1 (List.mem_of_getElem? (i := 1) rfl)) (by decide +kernel)), (tG_of (tb3 (List.mem_of_getElem? (i := 200) rfl)) (by decide +kernel)), ⟨by decide, by decide, by decide +kernel⟩, by decide⟩
theorem dX10_cue_0 : decode cX10_cue 0 = .ok (.aload_n 0, 1) := dc_42 (byA eNcX10_cue (p := 0) (v := 42) (by decide +kernel))
theorem dX10_cue_1 : decode cX10_cue 1 = .ok (.iload_n 1, 1) := dc_27 (byA eNcX10_cue (p := 1) (v := 27) (by decide +kernel))
theorem dX10_cue_2 : decode cX10_cue 2 = .ok (.invokevirtual 227, 3) := dc_182 (byA eNcX10_cue (p := 2) (v := 182) (by decide +kernel)) (byA eNcX10_cue (p := 3) (v := 0) (by decide +kernel)) (byA eNcX10_cue (p := 4) (v := 227) (by decide +kernel)) rfl
theorem dX10_cue_5 : decode cX10_cue 5 = .ok (.ifCond .ne 5, 3) := dc_154 (byA eNcX10_cue (p := 5) (v := 154) (by decide +kernel)) (byA eNcX10_cue (p := 6) (v := 0) (by decide +kernel)) (byA eNcX10_cue (p := 7) (v := 5) (by decide +kernel)) (by decide +kernel)
theorem dX10_cue_8 : decode cX10_cue 8 = .ok (.iconst (-1), 1) := dc_2 (byA eNcX10_cue (p := 8) (v := 2) (by decide +kernel))
theorem dX10_cue_9 : decode cX10_cue 9 = .ok (.ireturn, 1) := dc_172 (byA eNcX10_cue (p := 9) (v := 172) (by decide +kernel))
theorem dX10_cue_10 : decode cX10_cue 10 = .ok (.aload_n 0, 1) := dc_42 (byA eNcX10_cue (p := 10) (v := 42) (by decide +kernel))
theorem dX10_cue_11 : decode cX10_cue 11 = .ok (.getfield 49, 3) := dc_180 (byA eNcX10_cue (p := 11) (v := 180) (by decide +kernel)) (byA eNcX10_cue (p := 12) (v := 0) (by decide +kernel)) (byA eNcX10_cue (p := 13) (v := 49) (by decide +kernel)) rfl
theorem dX10_cue_14 : decode cX10_cue 14 = .ok (.iload_n 1, 1) := dc_27 (byA eNcX10_cue (p := 14) (v := 27) (by decide +kernel))
theorem dX10_cue_15 : decode cX10_cue 15 = .ok (.aaload, 1) := dc_50 (byA eNcX10_cue (p := 15) (v := 50) (by decide +kernel))
theorem dX10_cue_16 : decode cX10_cue 16 = .ok (.astore 4, 2) := dc_58 (byA eNcX10_cue (p := 16) (v := 58) (by decide +kernel)) (byA eNcX10_cue (p := 17) (v := 4) (by decide +kernel))
theorem dX10_cue_18 : decode cX10_cue 18 = .ok (.iload_n 2, 1) := dc_28 (byA eNcX10_cue (p := 18) (v := 28) (by decide +kernel))
theorem dX10_cue_19 : decode cX10_cue 19 = .ok (.iconst (-1), 1) := dc_2 (byA eNcX10_cue (p := 19) (v := 2) (by decide +kernel))
theorem dX10_cue_20 : decode cX10_cue 20 = .ok (.if_icmp .ne 13, 3) := dc_160 (byA eNcX10_cue (p := 20) (v := 160) (by decide +kernel)) (byA eNcX10_cue (p := 21) (v := 0) (by decide +kernel)) (byA eNcX10_cue (p := 22) (v := 13) (by decide +kernel)) (by decide +kernel)
theorem dX10_cue_23 : decode cX10_cue 23 = .ok (.iload_n 3, 1) := dc_29 (byA eNcX10_cue (p := 23) (v := 29) (by decide +kernel))
theorem dX10_cue_24 : decode cX10_cue 24 = .ok (.ifCond .ne 9, 3) := dc_154 (byA eNcX10_cue (p := 24) (v := 154) (by decide +kernel)) (byA eNcX10_cue (p := 25) (v := 0) (by decide +kernel)) (byA eNcX10_cue (p := 26) (v := 9) (by decide +kernel)) (by decide +kernel)
theorem dX10_cue_27 : decode cX10_cue 27 = .ok (.aload 4, 2) := dc_25 (byA eNcX10_cue (p := 27) (v := 25) (by decide +kernel)) (byA eNcX10_cue (p := 28) (v := 4) (by decide +kernel))
theorem dX10_cue_29 : decode cX10_cue 29 = .ok (.getfield 230, 3) := dc_180 (byA eNcX10_cue (p := 29) (v := 180) (by decide +kernel)) (byA eNcX10_cue (p := 30) (v := 0) (by decide +kernel)) (byA eNcX10_cue (p := 31) (v := 230) (by decide +kernel)) rfl
theorem dX10_cue_32 : decode cX10_cue 32 = .ok (.ireturn, 1) := dc_172 (byA eNcX10_cue (p := 32) (v := 172) (by decide +kernel))
theorem dX10_cue_33 : decode cX10_cue 33 = .ok (.iload_n 2, 1) := dc_28 (byA eNcX10_cue (p := 33) (v := 28) (by decide +kernel))
theorem dX10_cue_34 : decode cX10_cue 34 = .ok (.ifCond .lt 21, 3) := dc_155 (byA eNcX10_cue (p := 34) (v := 155) (by decide +kernel)) (byA eNcX10_cue (p := 35) (v := 0) (by decide +kernel)) (byA eNcX10_cue (p := 36) (v := 21) (by decide +kernel)) (by decide +kernel)
theorem dX10_cue_37 : decode cX10_cue 37 = .ok (.iload_n 2, 1) := dc_28 (byA eNcX10_cue (p := 37) (v := 28) (by decide +kernel))
theorem dX10_cue_38 : decode cX10_cue 38 = .ok (.aload 4, 2) := dc_25 (byA eNcX10_cue (p := 38) (v := 25) (by decide +kernel)) (byA eNcX10_cue (p := 39) (v := 4) (by decide +kernel))
theorem dX10_cue_40 : decode cX10_cue 40 = .ok (.getfield 230, 3) := dc_180 (byA eNcX10_cue (p := 40) (v := 180) (by decide +kernel)) (byA eNcX10_cue (p := 41) (v := 0) (by decide +kernel)) (byA eNcX10_cue (p := 42) (v := 230) (by decide +kernel)) rfl
theorem dX10_cue_43 : decode cX10_cue 43 = .ok (.if_icmp .ge 12, 3) := dc_162 (byA eNcX10_cue (p := 43) (v := 162) (by decide +kernel)) (byA eNcX10_cue (p := 44) (v := 0) (by decide +kernel)) (byA eNcX10_cue (p := 45) (v := 12) (by decide +kernel)) (by decide +kernel)
theorem dX10_cue_46 : decode cX10_cue 46 = .ok (.iload_n 3, 1) := dc_29 (byA eNcX10_cue (p := 46) (v := 29) (by decide +kernel))
theorem dX10_cue_47 : decode cX10_cue 47 = .ok (.ifCond .lt 8, 3) := dc_155 (byA eNcX10_cue (p := 47) (v := 155) (by decide +kernel)) (byA eNcX10_cue (p := 48) (v := 0) (by decide +kernel)) (byA eNcX10_cue (p := 49) (v := 8) (by decide +kernel)) (by decide +kernel)
theorem dX10_cue_50 : decode cX10_cue 50 = .ok (.iload_n 3, 1) := dc_29 (byA eNcX10_cue (p := 50) (v := 29) (by decide +kernel))
theorem dX10_cue_51 : decode cX10_cue 51 = .ok (.iconst 2, 1) := dc_5 (byA eNcX10_cue (p := 51) (v := 5) (by decide +kernel))
theorem dX10_cue_52 : decode cX10_cue 52 = .ok (.if_icmp .le 5, 3) := dc_164 (byA eNcX10_cue (p := 52) (v := 164) (by decide +kernel)) (byA eNcX10_cue (p := 53) (v := 0) (by decide +kernel)) (byA eNcX10_cue (p := 54) (v := 5) (by decide +kernel)) (by decide +kernel)
theorem dX10_cue_55 : decode cX10_cue 55 = .ok (.iconst (-1), 1) := dc_2 (byA eNcX10_cue (p := 55) (v := 2) (by decide +kernel))
theorem dX10_cue_56 : decode cX10_cue 56 = .ok (.ireturn, 1) := dc_172 (byA eNcX10_cue (p := 56) (v := 172) (by decide +kernel))
theorem dX10_cue_57 : decode cX10_cue 57 = .ok (.iload_n 3, 1) := dc_29 (byA eNcX10_cue (p := 57) (v := 29) (by decide +kernel))
theorem dX10_cue_58 : decode cX10_cue 58 = .ok (.iconst 2, 1) := dc_5 (byA eNcX10_cue (p := 58) (v := 5) (by decide +kernel))
theorem dX10_cue_59 : decode cX10_cue 59 = .ok (.if_icmp .ne 44, 3) := dc_160 (byA eNcX10_cue (p := 59) (v := 160) (by decide +kernel)) (byA eNcX10_cue (p := 60) (v := 0) (by decide +kernel)) (byA eNcX10_cue (p := 61) (v := 44) (by decide +kernel)) (by decide +kernel)
theorem dX10_cue_62 : decode cX10_cue 62 = .ok (.aload_n 0, 1) := dc_42 (byA eNcX10_cue (p := 62) (v := 42) (by decide +kernel))
theorem dX10_cue_63 : decode cX10_cue 63 = .ok (.getfield 30, 3) := dc_180 (byA eNcX10_cue (p := 63) (v := 180) (by decide +kernel)) (byA eNcX10_cue (p := 64) (v := 0) (by decide +kernel)) (byA eNcX10_cue (p := 65) (v := 30) (by decide +kernel)) rfl
theorem dX10_cue_66 : decode cX10_cue 66 = .ok (.aload_n 0, 1) := dc_42 (byA eNcX10_cue (p := 66) (v := 42) (by decide +kernel))
theorem dX10_cue_67 : decode cX10_cue 67 = .ok (.getfield 49, 3) := dc_180 (byA eNcX10_cue (p := 67) (v := 180) (by decide +kernel)) (byA eNcX10_cue (p := 68) (v := 0) (by decide +kernel)) (byA eNcX10_cue (p := 69) (v := 49) (by decide +kernel)) rfl
theorem dX10_cue_70 : decode cX10_cue 70 = .ok (.iload_n 1, 1) := dc_27 (byA eNcX10_cue (p := 70) (v := 27) (by decide +kernel))
theorem dX10_cue_71 : decode cX10_cue 71 = .ok (.aaload, 1) := dc_50 (byA eNcX10_cue (p := 71) (v := 50) (by decide +kernel))
theorem dX10_cue_72 : decode cX10_cue 72 = .ok (.aload_n 0, 1) := dc_42 (byA eNcX10_cue (p := 72) (v := 42) (by decide +kernel))
theorem dX10_cue_73 : decode cX10_cue 73 = .ok (.invokevirtual 231, 3) := dc_182 (byA eNcX10_cue (p := 73) (v := 182) (by decide +kernel)) (byA eNcX10_cue (p := 74) (v := 0) (by decide +kernel)) (byA eNcX10_cue (p := 75) (v := 231) (by decide +kernel)) rfl
theorem dX10_cue_76 : decode cX10_cue 76 = .ok (.aload_n 0, 1) := dc_42 (byA eNcX10_cue (p := 76) (v := 42) (by decide +kernel))
theorem dX10_cue_77 : decode cX10_cue 77 = .ok (.getfield 37, 3) := dc_180 (byA eNcX10_cue (p := 77) (v := 180) (by decide +kernel)) (byA eNcX10_cue (p := 78) (v := 0) (by decide +kernel)) (byA eNcX10_cue (p := 79) (v := 37) (by decide +kernel)) rfl
theorem dX10_cue_80 : decode cX10_cue 80 = .ok (.getfield 223, 3) := dc_180 (byA eNcX10_cue (p := 80) (v := 180) (by decide +kernel)) (byA eNcX10_cue (p := 81) (v := 0) (by decide +kernel)) (byA eNcX10_cue (p := 82) (v := 223) (by decide +kernel)) rfl
theorem dX10_cue_83 : decode cX10_cue 83 = .ok (.aload_n 0, 1) := dc_42 (byA eNcX10_cue (p := 83) (v := 42) (by decide +kernel))
theorem dX10_cue_84 : decode cX10_cue 84 = .ok (.getfield 74, 3) := dc_180 (byA eNcX10_cue (p := 84) (v := 180) (by decide +kernel)) (byA eNcX10_cue (p := 85) (v := 0) (by decide +kernel)) (byA eNcX10_cue (p := 86) (v := 74) (by decide +kernel)) rfl
theorem dX10_cue_87 : decode cX10_cue 87 = .ok (.getfield 235, 3) := dc_180 (byA eNcX10_cue (p := 87) (v := 180) (by decide +kernel)) (byA eNcX10_cue (p := 88) (v := 0) (by decide +kernel)) (byA eNcX10_cue (p := 89) (v := 235) (by decide +kernel)) rfl
theorem dX10_cue_90 : decode cX10_cue 90 = .ok (.invokevirtual 239, 3) := dc_182 (byA eNcX10_cue (p := 90) (v := 182) (by decide +kernel)) (byA eNcX10_cue (p := 91) (v := 0) (by decide +kernel)) (byA eNcX10_cue (p := 92) (v := 239) (by decide +kernel)) rfl
theorem dX10_cue_93 : decode cX10_cue 93 = .ok (.aload_n 0, 1) := dc_42 (byA eNcX10_cue (p := 93) (v := 42) (by decide +kernel))
theorem dX10_cue_94 : decode cX10_cue 94 = .ok (.getfield 74, 3) := dc_180 (byA eNcX10_cue (p := 94) (v := 180) (by decide +kernel)) (byA eNcX10_cue (p := 95) (v := 0) (by decide +kernel)) (byA eNcX10_cue (p := 96) (v := 74) (by decide +kernel)) rfl
theorem dX10_cue_97 : decode cX10_cue 97 = .ok (.getfield 235, 3) := dc_180 (byA eNcX10_cue (p := 97) (v := 180) (by decide +kernel)) (byA eNcX10_cue (p := 98) (v := 0) (by decide +kernel)) (byA eNcX10_cue (p := 99) (v := 235) (by decide +kernel)) rfl
theorem dX10_cue_100 : decode cX10_cue 100 = .ok (.iload_n 2, 1) := dc_28 (byA eNcX10_cue (p := 100) (v := 28) (by decide +kernel))
theorem dX10_cue_101 : decode cX10_cue 101 = .ok (.iaload, 1) := dc_46 (byA eNcX10_cue (p := 101) (v := 46) (by decide +kernel))
theorem dX10_cue_102 : decode cX10_cue 102 = .ok (.ireturn, 1) := dc_172 (byA eNcX10_cue (p := 102) (v := 172) (by decide +kernel))
theorem dX10_cue_103 : decode cX10_cue 103 = .ok (.iload_n 3, 1) := dc_29 (byA eNcX10_cue (p := 103) (v := 29) (by decide +kernel))
theorem dX10_cue_104 : decode cX10_cue 104 = .ok (.ifCond .ne 13, 3) := dc_154 (byA eNcX10_cue (p := 104) (v := 154) (by decide +kernel)) (byA eNcX10_cue (p := 105) (v := 0) (by decide +kernel)) (byA eNcX10_cue (p := 106) (v := 13) (by decide +kernel)) (by decide +kernel)
theorem dX10_cue_107 : decode cX10_cue 107 = .ok (.aload 4, 2) := dc_25 (byA eNcX10_cue (p := 107) (v := 25) (by decide +kernel)) (byA eNcX10_cue (p := 108) (v := 4) (by decide +kernel))
theorem dX10_cue_109 : decode cX10_cue 109 = .ok (.getfield 243, 3) := dc_180 (byA eNcX10_cue (p := 109) (v := 180) (by decide +kernel)) (byA eNcX10_cue (p := 110) (v := 0) (by decide +kernel)) (byA eNcX10_cue (p := 111) (v := 243) (by decide +kernel)) rfl
theorem dX10_cue_112 : decode cX10_cue 112 = .ok (.iload_n 2, 1) := dc_28 (byA eNcX10_cue (p := 112) (v := 28) (by decide +kernel))
theorem dX10_cue_113 : decode cX10_cue 113 = .ok (.iaload, 1) := dc_46 (byA eNcX10_cue (p := 113) (v := 46) (by decide +kernel))
theorem dX10_cue_114 : decode cX10_cue 114 = .ok (.goto 10, 3) := dc_167 (byA eNcX10_cue (p := 114) (v := 167) (by decide +kernel)) (byA eNcX10_cue (p := 115) (v := 0) (by decide +kernel)) (byA eNcX10_cue (p := 116) (v := 10) (by decide +kernel)) (by decide +kernel)
theorem dX10_cue_117 : decode cX10_cue 117 = .ok (.aload 4, 2) := dc_25 (byA eNcX10_cue (p := 117) (v := 25) (by decide +kernel)) (byA eNcX10_cue (p := 118) (v := 4) (by decide +kernel))
theorem dX10_cue_119 : decode cX10_cue 119 = .ok (.getfield 246, 3) := dc_180 (byA eNcX10_cue (p := 119) (v := 180) (by decide +kernel)) (byA eNcX10_cue (p := 120) (v := 0) (by decide +kernel)) (byA eNcX10_cue (p := 121) (v := 246) (by decide +kernel)) rfl
theorem dX10_cue_122 : decode cX10_cue 122 = .ok (.iload_n 2, 1) := dc_28 (byA eNcX10_cue (p := 122) (v := 28) (by decide +kernel))
theorem dX10_cue_123 : decode cX10_cue 123 = .ok (.iaload, 1) := dc_46 (byA eNcX10_cue (p := 123) (v := 46) (by decide +kernel))
theorem dX10_cue_124 : decode cX10_cue 124 = .ok (.ireturn, 1) := dc_172 (byA eNcX10_cue (p := 124) (v := 172) (by decide +kernel))
def X10_cue_J33 (l1 : Int) (l2 : Int) (l3 : Int) (l4 : Nat) (μ : Mm) : Rs := if l2 < 0 then (some ((-1), μ)) else (if (μ l4 2) ≤ l2 then (some ((-1), μ)) else (if l3 < 0 then (some ((-1), μ)) else (if l3 ≤ 2 then (if l3 = 2 then (aL 17 l1 fun v18 => bd (X10_lawThatHolds μ) fun v20 μ21 => bd (X2_fillTimes v18 v20 (μ21 5 8) 50 μ21) fun v23 μ24 => ldA μ24 50 l2 fun v26 => some (v26, μ24)) else (if l3 = 0 then (ldA μ (l4 + 1) l2 fun v16 => some (v16, μ)) else (ldA μ (l4 + 2) l2 fun v14 => some (v14, μ)))) else (some ((-1), μ)))))
def X10_cue (l1 : Int) (l2 : Int) (l3 : Int) (μ : Mm) : Rs := bd (X10_isPlay l1 μ) fun v1 μ2 => if v1 = 0 then (some ((-1), μ2)) else (aL 17 l1 fun v5 => if l2 = (-1) then (if l3 = 0 then (some (μ2 v5 2, μ2)) else (X10_cue_J33 l1 l2 l3 v5 μ2)) else (X10_cue_J33 l1 l2 l3 v5 μ2))
set_option maxHeartbeats 4000000 in
set_option maxRecDepth 100000 in
theorem kX10_cue_J33 (d : Nat) (hd : 271 ≤ d) {l1 : Int} {l2 : Int} {l3 : Int} {l4 : Nat} (hk4 : kD l4 = (13, 3)) {μ : Mm} {r : Int} {μ' : Mm} (h : X10_cue_J33 l1 l2 l3 l4 μ = some (r, μ')) : VV d mX10_cue 33 [some (vR 0), some (vI l1), some (vI l2), some (vI l3), some (vR l4)] [] μ r μ' := by
  unfold X10_cue_J33 at h
  refine V_iload_n (q := 34) dX10_cue_33 rfl rfl rfl ?_
  refine V_iflt (q := 55) (q2 := 37) dX10_cue_34 (by decide) rfl (fun hc8 => ?_) (fun hc8 => ?_)
  · have h := ifT hc8 h
    refine V_iconst (q := 56) dX10_cue_55 rfl rfl ?_
    exact V_iret rfl h dX10_cue_56
  · have h := ifF hc8 h
    refine V_iload_n (q := 38) dX10_cue_37 rfl rfl rfl ?_
    refine V_aload (q := 40) dX10_cue_38 rfl rfl ?_
    refine V_getI (q := 43) fl_X10_230 hk4 rfl rfl dX10_cue_40 rfl ?_
    refine V_icmpge (q := 55) (q2 := 46) dX10_cue_43 (by decide) rfl (fun hc9 => ?_) (fun hc9 => ?_)
    · have h := ifT hc9 h
      refine V_iconst (q := 56) dX10_cue_55 rfl rfl ?_
      exact V_iret rfl h dX10_cue_56
    · have h := ifF hc9 h
      refine V_iload_n (q := 47) dX10_cue_46 rfl rfl rfl ?_
      refine V_iflt (q := 55) (q2 := 50) dX10_cue_47 (by decide) rfl (fun hc10 => ?_) (fun hc10 => ?_)
      · have h := ifT hc10 h
        refine V_iconst (q := 56) dX10_cue_55 rfl rfl ?_
        exact V_iret rfl h dX10_cue_56
      · have h := ifF hc10 h
        refine V_iload_n (q := 51) dX10_cue_50 rfl rfl rfl ?_
        refine V_iconst (q := 52) dX10_cue_51 rfl rfl ?_
        refine V_icmple (q := 57) (q2 := 55) dX10_cue_52 (by decide) rfl (fun hc11 => ?_) (fun hc11 => ?_)
        · have h := ifT hc11 h
          refine V_iload_n (q := 58) dX10_cue_57 rfl rfl rfl ?_
          refine V_iconst (q := 59) dX10_cue_58 rfl rfl ?_
          refine V_icmpne (q := 103) (q2 := 62) dX10_cue_59 (by decide) rfl (fun hc12 => ?_) (fun hc12 => ?_)
          · have h := ifF hc12 h
            refine V_iload_n (q := 104) dX10_cue_103 rfl rfl rfl ?_
            refine V_ifne (q := 117) (q2 := 107) dX10_cue_104 (by decide) rfl (fun hc13 => ?_) (fun hc13 => ?_)
            · have h := ifF hc13 h
              refine V_aload (q := 119) dX10_cue_117 rfl rfl ?_
              refine V_getO (q := 122) (t := _) fl_X10_246 hk4 rfl rfl rfl dX10_cue_119 rfl ?_
              refine V_iload_n (q := 123) dX10_cue_122 rfl rfl rfl ?_
              obtain ⟨hi15, h⟩ := ldA_i h
              refine V_iaload (q := 124) (kdo_3_1 hk4) hi15 dX10_cue_123 rfl ?_
              exact V_iret rfl h dX10_cue_124
            · have h := ifT hc13 h
              refine V_aload (q := 109) dX10_cue_107 rfl rfl ?_
              refine V_getO (q := 112) (t := _) fl_X10_243 hk4 rfl rfl rfl dX10_cue_109 rfl ?_
              refine V_iload_n (q := 113) dX10_cue_112 rfl rfl rfl ?_
              obtain ⟨hi17, h⟩ := ldA_i h
              refine V_iaload (q := 114) (kdo_3_0 hk4) hi17 dX10_cue_113 rfl ?_
              refine V_goto (q := 124) dX10_cue_114 (by decide) ?_
              exact V_iret rfl h dX10_cue_124
          · have h := ifT hc12 h
            refine V_aload_n (q := 63) dX10_cue_62 rfl rfl rfl ?_
            refine V_getO (q := 66) (t := 4) fl_X10_30 rfl rfl rfl rfl dX10_cue_63 rfl ?_
            refine V_aload_n (q := 67) dX10_cue_66 rfl rfl rfl ?_
            refine V_getO (q := 70) (t := 17) fl_X10_49 rfl rfl rfl rfl dX10_cue_67 rfl ?_
            refine V_iload_n (q := 71) dX10_cue_70 rfl rfl rfl ?_
            obtain ⟨hi19, h⟩ := aL_i h
            refine V_aaload (q := 72) (c2 := 1) rfl (Or.inl rfl) hi19 dX10_cue_71 rfl ?_
            refine V_aload_n (q := 73) dX10_cue_72 rfl rfl rfl ?_
            obtain ⟨v20, μ21, hc22, h⟩ := bd_i h
            refine V_cV1 (q := 76) (v := vC v20) (kX10_lawThatHolds (d - 1) (by omega) hc22) (by omega) mv_X10_231 rfl rfl rfl rfl rfl rfl dX10_cue_73 rfl ?_
            refine V_aload_n (q := 77) dX10_cue_76 rfl rfl rfl ?_
            refine V_getO (q := 80) (t := 5) fl_X10_37 rfl rfl rfl rfl dX10_cue_77 rfl ?_
            refine V_getI (q := 83) fl_X10_223 rfl rfl rfl dX10_cue_80 rfl ?_
            refine V_aload_n (q := 84) dX10_cue_83 rfl rfl rfl ?_
            refine V_getO (q := 87) (t := 48) fl_X10_74 rfl rfl rfl rfl dX10_cue_84 rfl ?_
            refine V_getO (q := 90) (t := 50) fl_X10_235 rfl rfl rfl rfl dX10_cue_87 rfl ?_
            obtain ⟨v23, μ24, hc25, h⟩ := bd_i h
            refine V_cV0 (q := 93) (kX2_fillTimes (d - 1) (by omega) (kA17 hi19) rfl hc25) (by omega) mv_X10_239 rfl rfl rfl rfl rfl rfl dX10_cue_90 rfl ?_
            refine V_aload_n (q := 94) dX10_cue_93 rfl rfl rfl ?_
            refine V_getO (q := 97) (t := 48) fl_X10_74 rfl rfl rfl rfl dX10_cue_94 rfl ?_
            refine V_getO (q := 100) (t := 50) fl_X10_235 rfl rfl rfl rfl dX10_cue_97 rfl ?_
            refine V_iload_n (q := 101) dX10_cue_100 rfl rfl rfl ?_
            obtain ⟨hi27, h⟩ := ldA_i h
            refine V_iaload (q := 102) rfl hi27 dX10_cue_101 rfl ?_
            exact V_iret rfl h dX10_cue_102
        · have h := ifF hc11 h
          refine V_iconst (q := 56) dX10_cue_55 rfl rfl ?_
          exact V_iret rfl h dX10_cue_56
set_option maxHeartbeats 4000000 in
set_option maxRecDepth 100000 in
theorem kX10_cue (d : Nat) (hd : 271 ≤ d) {l1 : Int} {l2 : Int} {l3 : Int} {μ : Mm} {r : Int} {μ' : Mm} (h : X10_cue l1 l2 l3 μ = some (r, μ')) : CC d mX10_cue [vR 0, vI l1, vI l2, vI l3] μ r μ' := by
  unfold X10_cue at h
  refine V_enter (by decide) (Nat.le_of_ble_eq_true rfl) ?_
  show VV d mX10_cue 0 [some (vR 0), some (vI l1), some (vI l2), some (vI l3), none] [] μ r μ'
  refine V_aload_n (q := 1) dX10_cue_0 rfl rfl rfl ?_
  refine V_iload_n (q := 2) dX10_cue_1 rfl rfl rfl ?_
  obtain ⟨v1, μ2, hc3, h⟩ := bd_i h
  refine V_cV1 (q := 5) (v := vI v1) (kX10_isPlay (d - 1) (by omega) hc3) (by omega) mv_X10_227 rfl rfl rfl rfl rfl rfl dX10_cue_2 rfl ?_
  refine V_ifne (q := 10) (q2 := 8) dX10_cue_5 (by decide) rfl (fun hc4 => ?_) (fun hc4 => ?_)
  · have h := ifF hc4 h
    refine V_aload_n (q := 11) dX10_cue_10 rfl rfl rfl ?_
    refine V_getO (q := 14) (t := 17) fl_X10_49 rfl rfl rfl rfl dX10_cue_11 rfl ?_
    refine V_iload_n (q := 15) dX10_cue_14 rfl rfl rfl ?_
    obtain ⟨hi6, h⟩ := aL_i h
    refine V_aaload (q := 16) (c2 := 1) rfl (Or.inl rfl) hi6 dX10_cue_15 rfl ?_
    refine V_astore (q := 18) dX10_cue_16 (Nat.le_of_ble_eq_true rfl) trivial rfl ?_
    refine V_iload_n (q := 19) dX10_cue_18 rfl rfl rfl ?_
    refine V_iconst (q := 20) dX10_cue_19 rfl rfl ?_
    refine V_icmpne (q := 33) (q2 := 23) dX10_cue_20 (by decide) rfl (fun hc7 => ?_) (fun hc7 => ?_)
    · have h := ifF hc7 h
      exact V_weak (kX10_cue_J33 d hd (kA17 hi6) h) (sb_s rfl (sb_s rfl (sb_s rfl (sb_s rfl (sb_s rfl sb_0)))))
    · have h := ifT hc7 h
      refine V_iload_n (q := 24) dX10_cue_23 rfl rfl rfl ?_
      refine V_ifne (q := 33) (q2 := 27) dX10_cue_24 (by decide) rfl (fun hc28 => ?_) (fun hc28 => ?_)
      · have h := ifF hc28 h
        exact V_weak (kX10_cue_J33 d hd (kA17 hi6) h) (sb_s rfl (sb_s rfl (sb_s rfl (sb_s rfl (sb_s rfl sb_0)))))
      · have h := ifT hc28 h
        refine V_aload (q := 29) dX10_cue_27 rfl rfl ?_
        refine V_getI (q := 32) fl_X10_230 (kA17 hi6) rfl rfl dX10_cue_29 rfl ?_
        exact V_iret rfl h dX10_cue_32
  · have h := ifT hc4 h
    refine V_iconst (q := 9) dX10_cue_8 rfl rfl ?_
    exact V_iret rfl h dX10_cue_9
abbrev mX10_lay : Mth := (yX10_lay, cX10_lay, 2, some .boolean)
set_option maxRecDepth 100000 in
theorem mi_X10_lay : Cond.instanceMethod yX10_lay ∈ tG ∧ Cond.selects yX10_lay.cls yX10_lay yX10_lay ∈ tG ∧ Cond.initialized yX10_lay.cls ∈ tG ∧ Cond.code yX10_lay cX10_lay 2 (some .boolean) ∈ tG ∧ (yX10_lay.cls ≠ "java/lang/invoke/MethodHandle" ∧ yX10_lay.cls ≠ "java/lang/invoke/VarHandle" ∧ (parseMethodDescriptor yX10_lay.desc).map (fun d => d.parameters.length) = some 1) ∧ 2 ≤ 60 := ⟨(tG_of (tb3 (List.mem_of_getElem? (i := 230) rfl)) (by decide +kernel)), (tG_of (List.mem_of_getElem? (i := 23) (by decide +kernel)) (by decide +kernel)), (tG_of (tb1 (List.mem_of_getElem? (i := 1) rfl)) (by decide +kernel)), (tG_of (tb3 (List.mem_of_getElem? (i := 231) rfl)) (by decide +kernel)), ⟨by decide, by decide, by decide +kernel⟩, by decide⟩
set_option maxRecDepth 100000 in
theorem mv_X10_288 : mV RX10 288 mX10_lay 1 := ⟨(tG_of (tb3 (List.mem_of_getElem? (i := 228) rfl)) (by decide +kernel)), mi_X10_lay⟩
theorem dX10_lay_0 : decode cX10_lay 0 = .ok (.aload_n 0, 1) := dc_42 (byA eNcX10_lay (p := 0) (v := 42) (by decide +kernel))
theorem dX10_lay_1 : decode cX10_lay 1 = .ok (.getfield 37, 3) := dc_180 (byA eNcX10_lay (p := 1) (v := 180) (by decide +kernel)) (byA eNcX10_lay (p := 2) (v := 0) (by decide +kernel)) (byA eNcX10_lay (p := 3) (v := 37) (by decide +kernel)) rfl
theorem dX10_lay_4 : decode cX10_lay 4 = .ok (.invokevirtual 204, 3) := dc_182 (byA eNcX10_lay (p := 4) (v := 182) (by decide +kernel)) (byA eNcX10_lay (p := 5) (v := 0) (by decide +kernel)) (byA eNcX10_lay (p := 6) (v := 204) (by decide +kernel)) rfl
theorem dX10_lay_7 : decode cX10_lay 7 = .ok (.ifCond .eq 11, 3) := dc_153 (byA eNcX10_lay (p := 7) (v := 153) (by decide +kernel)) (byA eNcX10_lay (p := 8) (v := 0) (by decide +kernel)) (byA eNcX10_lay (p := 9) (v := 11) (by decide +kernel)) (by decide +kernel)
theorem dX10_lay_10 : decode cX10_lay 10 = .ok (.aload_n 0, 1) := dc_42 (byA eNcX10_lay (p := 10) (v := 42) (by decide +kernel))
theorem dX10_lay_11 : decode cX10_lay 11 = .ok (.iload_n 1, 1) := dc_27 (byA eNcX10_lay (p := 11) (v := 27) (by decide +kernel))
theorem dX10_lay_12 : decode cX10_lay 12 = .ok (.invokevirtual 227, 3) := dc_182 (byA eNcX10_lay (p := 12) (v := 182) (by decide +kernel)) (byA eNcX10_lay (p := 13) (v := 0) (by decide +kernel)) (byA eNcX10_lay (p := 14) (v := 227) (by decide +kernel)) rfl
theorem dX10_lay_15 : decode cX10_lay 15 = .ok (.ifCond .ne 5, 3) := dc_154 (byA eNcX10_lay (p := 15) (v := 154) (by decide +kernel)) (byA eNcX10_lay (p := 16) (v := 0) (by decide +kernel)) (byA eNcX10_lay (p := 17) (v := 5) (by decide +kernel)) (by decide +kernel)
theorem dX10_lay_18 : decode cX10_lay 18 = .ok (.iconst 0, 1) := dc_3 (byA eNcX10_lay (p := 18) (v := 3) (by decide +kernel))
theorem dX10_lay_19 : decode cX10_lay 19 = .ok (.ireturn, 1) := dc_172 (byA eNcX10_lay (p := 19) (v := 172) (by decide +kernel))
theorem dX10_lay_20 : decode cX10_lay 20 = .ok (.aload_n 0, 1) := dc_42 (byA eNcX10_lay (p := 20) (v := 42) (by decide +kernel))
theorem dX10_lay_21 : decode cX10_lay 21 = .ok (.getfield 74, 3) := dc_180 (byA eNcX10_lay (p := 21) (v := 180) (by decide +kernel)) (byA eNcX10_lay (p := 22) (v := 0) (by decide +kernel)) (byA eNcX10_lay (p := 23) (v := 74) (by decide +kernel)) rfl
theorem dX10_lay_24 : decode cX10_lay 24 = .ok (.aload_n 0, 1) := dc_42 (byA eNcX10_lay (p := 24) (v := 42) (by decide +kernel))
theorem dX10_lay_25 : decode cX10_lay 25 = .ok (.getfield 37, 3) := dc_180 (byA eNcX10_lay (p := 25) (v := 180) (by decide +kernel)) (byA eNcX10_lay (p := 26) (v := 0) (by decide +kernel)) (byA eNcX10_lay (p := 27) (v := 37) (by decide +kernel)) rfl
theorem dX10_lay_28 : decode cX10_lay 28 = .ok (.aload_n 0, 1) := dc_42 (byA eNcX10_lay (p := 28) (v := 42) (by decide +kernel))
theorem dX10_lay_29 : decode cX10_lay 29 = .ok (.getfield 49, 3) := dc_180 (byA eNcX10_lay (p := 29) (v := 180) (by decide +kernel)) (byA eNcX10_lay (p := 30) (v := 0) (by decide +kernel)) (byA eNcX10_lay (p := 31) (v := 49) (by decide +kernel)) rfl
theorem dX10_lay_32 : decode cX10_lay 32 = .ok (.iload_n 1, 1) := dc_27 (byA eNcX10_lay (p := 32) (v := 27) (by decide +kernel))
theorem dX10_lay_33 : decode cX10_lay 33 = .ok (.aaload, 1) := dc_50 (byA eNcX10_lay (p := 33) (v := 50) (by decide +kernel))
theorem dX10_lay_34 : decode cX10_lay 34 = .ok (.invokevirtual 284, 3) := dc_182 (byA eNcX10_lay (p := 34) (v := 182) (by decide +kernel)) (byA eNcX10_lay (p := 35) (v := 1) (by decide +kernel)) (byA eNcX10_lay (p := 36) (v := 28) (by decide +kernel)) rfl
theorem dX10_lay_37 : decode cX10_lay 37 = .ok (.aload_n 0, 1) := dc_42 (byA eNcX10_lay (p := 37) (v := 42) (by decide +kernel))
theorem dX10_lay_38 : decode cX10_lay 38 = .ok (.getfield 30, 3) := dc_180 (byA eNcX10_lay (p := 38) (v := 180) (by decide +kernel)) (byA eNcX10_lay (p := 39) (v := 0) (by decide +kernel)) (byA eNcX10_lay (p := 40) (v := 30) (by decide +kernel)) rfl
theorem dX10_lay_41 : decode cX10_lay 41 = .ok (.aload_n 0, 1) := dc_42 (byA eNcX10_lay (p := 41) (v := 42) (by decide +kernel))
theorem dX10_lay_42 : decode cX10_lay 42 = .ok (.getfield 49, 3) := dc_180 (byA eNcX10_lay (p := 42) (v := 180) (by decide +kernel)) (byA eNcX10_lay (p := 43) (v := 0) (by decide +kernel)) (byA eNcX10_lay (p := 44) (v := 49) (by decide +kernel)) rfl
theorem dX10_lay_45 : decode cX10_lay 45 = .ok (.iload_n 1, 1) := dc_27 (byA eNcX10_lay (p := 45) (v := 27) (by decide +kernel))
theorem dX10_lay_46 : decode cX10_lay 46 = .ok (.aaload, 1) := dc_50 (byA eNcX10_lay (p := 46) (v := 50) (by decide +kernel))
theorem dX10_lay_47 : decode cX10_lay 47 = .ok (.aload_n 0, 1) := dc_42 (byA eNcX10_lay (p := 47) (v := 42) (by decide +kernel))
theorem dX10_lay_48 : decode cX10_lay 48 = .ok (.invokevirtual 231, 3) := dc_182 (byA eNcX10_lay (p := 48) (v := 182) (by decide +kernel)) (byA eNcX10_lay (p := 49) (v := 0) (by decide +kernel)) (byA eNcX10_lay (p := 50) (v := 231) (by decide +kernel)) rfl
theorem dX10_lay_51 : decode cX10_lay 51 = .ok (.aload_n 0, 1) := dc_42 (byA eNcX10_lay (p := 51) (v := 42) (by decide +kernel))
theorem dX10_lay_52 : decode cX10_lay 52 = .ok (.getfield 37, 3) := dc_180 (byA eNcX10_lay (p := 52) (v := 180) (by decide +kernel)) (byA eNcX10_lay (p := 53) (v := 0) (by decide +kernel)) (byA eNcX10_lay (p := 54) (v := 37) (by decide +kernel)) rfl
theorem dX10_lay_55 : decode cX10_lay 55 = .ok (.getfield 223, 3) := dc_180 (byA eNcX10_lay (p := 55) (v := 180) (by decide +kernel)) (byA eNcX10_lay (p := 56) (v := 0) (by decide +kernel)) (byA eNcX10_lay (p := 57) (v := 223) (by decide +kernel)) rfl
theorem dX10_lay_58 : decode cX10_lay 58 = .ok (.aload_n 0, 1) := dc_42 (byA eNcX10_lay (p := 58) (v := 42) (by decide +kernel))
theorem dX10_lay_59 : decode cX10_lay 59 = .ok (.getfield 74, 3) := dc_180 (byA eNcX10_lay (p := 59) (v := 180) (by decide +kernel)) (byA eNcX10_lay (p := 60) (v := 0) (by decide +kernel)) (byA eNcX10_lay (p := 61) (v := 74) (by decide +kernel)) rfl
theorem dX10_lay_62 : decode cX10_lay 62 = .ok (.getfield 235, 3) := dc_180 (byA eNcX10_lay (p := 62) (v := 180) (by decide +kernel)) (byA eNcX10_lay (p := 63) (v := 0) (by decide +kernel)) (byA eNcX10_lay (p := 64) (v := 235) (by decide +kernel)) rfl
theorem dX10_lay_65 : decode cX10_lay 65 = .ok (.invokevirtual 239, 3) := dc_182 (byA eNcX10_lay (p := 65) (v := 182) (by decide +kernel)) (byA eNcX10_lay (p := 66) (v := 0) (by decide +kernel)) (byA eNcX10_lay (p := 67) (v := 239) (by decide +kernel)) rfl
theorem dX10_lay_68 : decode cX10_lay 68 = .ok (.iconst 1, 1) := dc_4 (byA eNcX10_lay (p := 68) (v := 4) (by decide +kernel))
theorem dX10_lay_69 : decode cX10_lay 69 = .ok (.ireturn, 1) := dc_172 (byA eNcX10_lay (p := 69) (v := 172) (by decide +kernel))
def X10_lay (l1 : Int) (μ : Mm) : Rs := bd (X0_stands 5 μ) fun v1 μ2 => if v1 = 0 then (some (0, μ2)) else (bd (X10_isPlay l1 μ2) fun v5 μ6 => if v5 = 0 then (some (0, μ6)) else (aL 17 l1 fun v9 => bd (X1_prepare 48 5 v9 μ6) fun v11 μ12 => aL 17 l1 fun v14 => bd (X10_lawThatHolds μ12) fun v16 μ17 => bd (X2_fillTimes v14 v16 (μ17 5 8) 50 μ17) fun v19 μ20 => some (1, μ20)))
set_option maxHeartbeats 4000000 in
set_option maxRecDepth 100000 in
theorem kX10_lay (d : Nat) (hd : 271 ≤ d) {l1 : Int} {μ : Mm} {r : Int} {μ' : Mm} (h : X10_lay l1 μ = some (r, μ')) : CC d mX10_lay [vR 0, vI l1] μ r μ' := by
  unfold X10_lay at h
  refine V_enter (by decide) (Nat.le_of_ble_eq_true rfl) ?_
  show VV d mX10_lay 0 [some (vR 0), some (vI l1)] [] μ r μ'
  refine V_aload_n (q := 1) dX10_lay_0 rfl rfl rfl ?_
  refine V_getO (q := 4) (t := 5) fl_X10_37 rfl rfl rfl rfl dX10_lay_1 rfl ?_
  obtain ⟨v1, μ2, hc3, h⟩ := bd_i h
  refine V_cV1 (q := 7) (v := vI v1) (kX0_stands (d - 1) (by omega) rfl hc3) (by omega) mv_X10_204 rfl rfl rfl rfl rfl rfl dX10_lay_4 rfl ?_
  refine V_ifeq (q := 18) (q2 := 10) dX10_lay_7 (by decide) rfl (fun hc4 => ?_) (fun hc4 => ?_)
  · have h := ifT hc4 h
    refine V_iconst (q := 19) dX10_lay_18 rfl rfl ?_
    exact V_zret rfl (Or.inl rfl) h dX10_lay_19
  · have h := ifF hc4 h
    refine V_aload_n (q := 11) dX10_lay_10 rfl rfl rfl ?_
    refine V_iload_n (q := 12) dX10_lay_11 rfl rfl rfl ?_
    obtain ⟨v5, μ6, hc7, h⟩ := bd_i h
    refine V_cV1 (q := 15) (v := vI v5) (kX10_isPlay (d - 1) (by omega) hc7) (by omega) mv_X10_227 rfl rfl rfl rfl rfl rfl dX10_lay_12 rfl ?_
    refine V_ifne (q := 20) (q2 := 18) dX10_lay_15 (by decide) rfl (fun hc8 => ?_) (fun hc8 => ?_)
    · have h := ifF hc8 h
      refine V_aload_n (q := 21) dX10_lay_20 rfl rfl rfl ?_
      refine V_getO (q := 24) (t := 48) fl_X10_74 rfl rfl rfl rfl dX10_lay_21 rfl ?_
      refine V_aload_n (q := 25) dX10_lay_24 rfl rfl rfl ?_
      refine V_getO (q := 28) (t := 5) fl_X10_37 rfl rfl rfl rfl dX10_lay_25 rfl ?_
      refine V_aload_n (q := 29) dX10_lay_28 rfl rfl rfl ?_
      refine V_getO (q := 32) (t := 17) fl_X10_49 rfl rfl rfl rfl dX10_lay_29 rfl ?_
      refine V_iload_n (q := 33) dX10_lay_32 rfl rfl rfl ?_
      obtain ⟨hi10, h⟩ := aL_i h
      refine V_aaload (q := 34) (c2 := 1) rfl (Or.inl rfl) hi10 dX10_lay_33 rfl ?_
      obtain ⟨v11, μ12, hc13, h⟩ := bd_i h
      refine V_cV0 (q := 37) (kX1_prepare (d - 1) (by omega) rfl rfl (kA17 hi10) hc13) (by omega) mv_X10_284 rfl rfl rfl rfl rfl rfl dX10_lay_34 rfl ?_
      refine V_aload_n (q := 38) dX10_lay_37 rfl rfl rfl ?_
      refine V_getO (q := 41) (t := 4) fl_X10_30 rfl rfl rfl rfl dX10_lay_38 rfl ?_
      refine V_aload_n (q := 42) dX10_lay_41 rfl rfl rfl ?_
      refine V_getO (q := 45) (t := 17) fl_X10_49 rfl rfl rfl rfl dX10_lay_42 rfl ?_
      refine V_iload_n (q := 46) dX10_lay_45 rfl rfl rfl ?_
      obtain ⟨hi15, h⟩ := aL_i h
      refine V_aaload (q := 47) (c2 := 1) rfl (Or.inl rfl) hi15 dX10_lay_46 rfl ?_
      refine V_aload_n (q := 48) dX10_lay_47 rfl rfl rfl ?_
      obtain ⟨v16, μ17, hc18, h⟩ := bd_i h
      refine V_cV1 (q := 51) (v := vC v16) (kX10_lawThatHolds (d - 1) (by omega) hc18) (by omega) mv_X10_231 rfl rfl rfl rfl rfl rfl dX10_lay_48 rfl ?_
      refine V_aload_n (q := 52) dX10_lay_51 rfl rfl rfl ?_
      refine V_getO (q := 55) (t := 5) fl_X10_37 rfl rfl rfl rfl dX10_lay_52 rfl ?_
      refine V_getI (q := 58) fl_X10_223 rfl rfl rfl dX10_lay_55 rfl ?_
      refine V_aload_n (q := 59) dX10_lay_58 rfl rfl rfl ?_
      refine V_getO (q := 62) (t := 48) fl_X10_74 rfl rfl rfl rfl dX10_lay_59 rfl ?_
      refine V_getO (q := 65) (t := 50) fl_X10_235 rfl rfl rfl rfl dX10_lay_62 rfl ?_
      obtain ⟨v19, μ20, hc21, h⟩ := bd_i h
      refine V_cV0 (q := 68) (kX2_fillTimes (d - 1) (by omega) (kA17 hi15) rfl hc21) (by omega) mv_X10_239 rfl rfl rfl rfl rfl rfl dX10_lay_65 rfl ?_
      refine V_iconst (q := 69) dX10_lay_68 rfl rfl ?_
      exact V_zret rfl (Or.inr rfl) h dX10_lay_69
    · have h := ifT hc8 h
      refine V_iconst (q := 19) dX10_lay_18 rfl rfl ?_
      exact V_zret rfl (Or.inl rfl) h dX10_lay_19
abbrev mX10_runs : Mth := (yX10_runs, cX10_runs, 3, some .boolean)
set_option maxRecDepth 100000 in
theorem mi_X10_runs : Cond.instanceMethod yX10_runs ∈ tG ∧ Cond.selects yX10_runs.cls yX10_runs yX10_runs ∈ tG ∧ Cond.initialized yX10_runs.cls ∈ tG ∧ Cond.code yX10_runs cX10_runs 3 (some .boolean) ∈ tG ∧ (yX10_runs.cls ≠ "java/lang/invoke/MethodHandle" ∧ yX10_runs.cls ≠ "java/lang/invoke/VarHandle" ∧ (parseMethodDescriptor yX10_runs.desc).map (fun d => d.parameters.length) = some 2) ∧ 3 ≤ 60 := ⟨(tG_of (tb3 (List.mem_of_getElem? (i := 226) rfl)) (by decide +kernel)), (tG_of (List.mem_of_getElem? (i := 22) (by decide +kernel)) (by decide +kernel)), (tG_of (tb1 (List.mem_of_getElem? (i := 1) rfl)) (by decide +kernel)), (tG_of (tb3 (List.mem_of_getElem? (i := 227) rfl)) (by decide +kernel)), ⟨by decide, by decide, by decide +kernel⟩, by decide⟩
set_option maxRecDepth 100000 in
theorem mv_X10_249 : mV RX10 249 mX10_runs 2 := ⟨(tG_of (tb3 (List.mem_of_getElem? (i := 224) rfl)) (by decide +kernel)), mi_X10_runs⟩
theorem dX10_runs_0 : decode cX10_runs 0 = .ok (.aload_n 0, 1) := dc_42 (byA eNcX10_runs (p := 0) (v := 42) (by decide +kernel))
theorem dX10_runs_1 : decode cX10_runs 1 = .ok (.iload_n 1, 1) := dc_27 (byA eNcX10_runs (p := 1) (v := 27) (by decide +kernel))
theorem dX10_runs_2 : decode cX10_runs 2 = .ok (.invokevirtual 288, 3) := dc_182 (byA eNcX10_runs (p := 2) (v := 182) (by decide +kernel)) (byA eNcX10_runs (p := 3) (v := 1) (by decide +kernel)) (byA eNcX10_runs (p := 4) (v := 32) (by decide +kernel)) rfl
theorem dX10_runs_5 : decode cX10_runs 5 = .ok (.ifCond .eq 39, 3) := dc_153 (byA eNcX10_runs (p := 5) (v := 153) (by decide +kernel)) (byA eNcX10_runs (p := 6) (v := 0) (by decide +kernel)) (byA eNcX10_runs (p := 7) (v := 39) (by decide +kernel)) (by decide +kernel)
theorem dX10_runs_8 : decode cX10_runs 8 = .ok (.aload_n 0, 1) := dc_42 (byA eNcX10_runs (p := 8) (v := 42) (by decide +kernel))
theorem dX10_runs_9 : decode cX10_runs 9 = .ok (.getfield 84, 3) := dc_180 (byA eNcX10_runs (p := 9) (v := 180) (by decide +kernel)) (byA eNcX10_runs (p := 10) (v := 0) (by decide +kernel)) (byA eNcX10_runs (p := 11) (v := 84) (by decide +kernel)) rfl
theorem dX10_runs_12 : decode cX10_runs 12 = .ok (.iload_n 2, 1) := dc_28 (byA eNcX10_runs (p := 12) (v := 28) (by decide +kernel))
theorem dX10_runs_13 : decode cX10_runs 13 = .ok (.aload_n 0, 1) := dc_42 (byA eNcX10_runs (p := 13) (v := 42) (by decide +kernel))
theorem dX10_runs_14 : decode cX10_runs 14 = .ok (.getfield 74, 3) := dc_180 (byA eNcX10_runs (p := 14) (v := 180) (by decide +kernel)) (byA eNcX10_runs (p := 15) (v := 0) (by decide +kernel)) (byA eNcX10_runs (p := 16) (v := 74) (by decide +kernel)) rfl
theorem dX10_runs_17 : decode cX10_runs 17 = .ok (.getfield 264, 3) := dc_180 (byA eNcX10_runs (p := 17) (v := 180) (by decide +kernel)) (byA eNcX10_runs (p := 18) (v := 1) (by decide +kernel)) (byA eNcX10_runs (p := 19) (v := 8) (by decide +kernel)) rfl
theorem dX10_runs_20 : decode cX10_runs 20 = .ok (.invokevirtual 291, 3) := dc_182 (byA eNcX10_runs (p := 20) (v := 182) (by decide +kernel)) (byA eNcX10_runs (p := 21) (v := 1) (by decide +kernel)) (byA eNcX10_runs (p := 22) (v := 35) (by decide +kernel)) rfl
theorem dX10_runs_23 : decode cX10_runs 23 = .ok (.ifCond .eq 21, 3) := dc_153 (byA eNcX10_runs (p := 23) (v := 153) (by decide +kernel)) (byA eNcX10_runs (p := 24) (v := 0) (by decide +kernel)) (byA eNcX10_runs (p := 25) (v := 21) (by decide +kernel)) (by decide +kernel)
theorem dX10_runs_26 : decode cX10_runs 26 = .ok (.aload_n 0, 1) := dc_42 (byA eNcX10_runs (p := 26) (v := 42) (by decide +kernel))
theorem dX10_runs_27 : decode cX10_runs 27 = .ok (.getfield 84, 3) := dc_180 (byA eNcX10_runs (p := 27) (v := 180) (by decide +kernel)) (byA eNcX10_runs (p := 28) (v := 0) (by decide +kernel)) (byA eNcX10_runs (p := 29) (v := 84) (by decide +kernel)) rfl
theorem dX10_runs_30 : decode cX10_runs 30 = .ok (.aload_n 0, 1) := dc_42 (byA eNcX10_runs (p := 30) (v := 42) (by decide +kernel))
theorem dX10_runs_31 : decode cX10_runs 31 = .ok (.getfield 74, 3) := dc_180 (byA eNcX10_runs (p := 31) (v := 180) (by decide +kernel)) (byA eNcX10_runs (p := 32) (v := 0) (by decide +kernel)) (byA eNcX10_runs (p := 33) (v := 74) (by decide +kernel)) rfl
theorem dX10_runs_34 : decode cX10_runs 34 = .ok (.invokevirtual 294, 3) := dc_182 (byA eNcX10_runs (p := 34) (v := 182) (by decide +kernel)) (byA eNcX10_runs (p := 35) (v := 1) (by decide +kernel)) (byA eNcX10_runs (p := 36) (v := 38) (by decide +kernel)) rfl
theorem dX10_runs_37 : decode cX10_runs 37 = .ok (.ifCond .eq 7, 3) := dc_153 (byA eNcX10_runs (p := 37) (v := 153) (by decide +kernel)) (byA eNcX10_runs (p := 38) (v := 0) (by decide +kernel)) (byA eNcX10_runs (p := 39) (v := 7) (by decide +kernel)) (by decide +kernel)
theorem dX10_runs_40 : decode cX10_runs 40 = .ok (.iconst 1, 1) := dc_4 (byA eNcX10_runs (p := 40) (v := 4) (by decide +kernel))
theorem dX10_runs_41 : decode cX10_runs 41 = .ok (.goto 4, 3) := dc_167 (byA eNcX10_runs (p := 41) (v := 167) (by decide +kernel)) (byA eNcX10_runs (p := 42) (v := 0) (by decide +kernel)) (byA eNcX10_runs (p := 43) (v := 4) (by decide +kernel)) (by decide +kernel)
theorem dX10_runs_44 : decode cX10_runs 44 = .ok (.iconst 0, 1) := dc_3 (byA eNcX10_runs (p := 44) (v := 3) (by decide +kernel))
theorem dX10_runs_45 : decode cX10_runs 45 = .ok (.ireturn, 1) := dc_172 (byA eNcX10_runs (p := 45) (v := 172) (by decide +kernel))
def X10_runs (l1 : Int) (l2 : Int) (μ : Mm) : Rs := bd (X10_lay l1 μ) fun v1 μ2 => if v1 = 0 then (some (0, μ2)) else (bd (X5_takeOrder l2 (μ2 48 5) μ2) fun v5 μ6 => if v5 = 0 then (some (0, μ6)) else (bd (X5_go 48 μ6) fun v9 μ10 => if v9 = 0 then (some (0, μ10)) else (some (1, μ10))))
set_option maxHeartbeats 4000000 in
set_option maxRecDepth 100000 in
theorem kX10_runs (d : Nat) (hd : 272 ≤ d) {l1 : Int} {l2 : Int} {μ : Mm} {r : Int} {μ' : Mm} (h : X10_runs l1 l2 μ = some (r, μ')) : CC d mX10_runs [vR 0, vI l1, vI l2] μ r μ' := by
  unfold X10_runs at h
  refine V_enter (by decide) (Nat.le_of_ble_eq_true rfl) ?_
  show VV d mX10_runs 0 [some (vR 0), some (vI l1), some (vI l2)] [] μ r μ'
  refine V_aload_n (q := 1) dX10_runs_0 rfl rfl rfl ?_
  refine V_iload_n (q := 2) dX10_runs_1 rfl rfl rfl ?_
  obtain ⟨v1, μ2, hc3, h⟩ := bd_i h
  refine V_cV1 (q := 5) (v := vI v1) (kX10_lay (d - 1) (by omega) hc3) (by omega) mv_X10_288 rfl rfl rfl rfl rfl rfl dX10_runs_2 rfl ?_
  refine V_ifeq (q := 44) (q2 := 8) dX10_runs_5 (by decide) rfl (fun hc4 => ?_) (fun hc4 => ?_)
  · have h := ifT hc4 h
    refine V_iconst (q := 45) dX10_runs_44 rfl rfl ?_
    exact V_zret rfl (Or.inl rfl) h dX10_runs_45
  · have h := ifF hc4 h
    refine V_aload_n (q := 9) dX10_runs_8 rfl rfl rfl ?_
    refine V_getO (q := 12) (t := 58) fl_X10_84 rfl rfl rfl rfl dX10_runs_9 rfl ?_
    refine V_iload_n (q := 13) dX10_runs_12 rfl rfl rfl ?_
    refine V_aload_n (q := 14) dX10_runs_13 rfl rfl rfl ?_
    refine V_getO (q := 17) (t := 48) fl_X10_74 rfl rfl rfl rfl dX10_runs_14 rfl ?_
    refine V_getI (q := 20) fl_X10_264 rfl rfl rfl dX10_runs_17 rfl ?_
    obtain ⟨v5, μ6, hc7, h⟩ := bd_i h
    refine V_cV1 (q := 23) (v := vI v5) (kX5_takeOrder (d - 1) (by omega) hc7) (by omega) mv_X10_291 rfl rfl rfl rfl rfl rfl dX10_runs_20 rfl ?_
    refine V_ifeq (q := 44) (q2 := 26) dX10_runs_23 (by decide) rfl (fun hc8 => ?_) (fun hc8 => ?_)
    · have h := ifT hc8 h
      refine V_iconst (q := 45) dX10_runs_44 rfl rfl ?_
      exact V_zret rfl (Or.inl rfl) h dX10_runs_45
    · have h := ifF hc8 h
      refine V_aload_n (q := 27) dX10_runs_26 rfl rfl rfl ?_
      refine V_getO (q := 30) (t := 58) fl_X10_84 rfl rfl rfl rfl dX10_runs_27 rfl ?_
      refine V_aload_n (q := 31) dX10_runs_30 rfl rfl rfl ?_
      refine V_getO (q := 34) (t := 48) fl_X10_74 rfl rfl rfl rfl dX10_runs_31 rfl ?_
      obtain ⟨v9, μ10, hc11, h⟩ := bd_i h
      refine V_cV1 (q := 37) (v := vI v9) (kX5_go (d - 1) (by omega) rfl hc11) (by omega) mv_X10_294 rfl rfl rfl rfl rfl rfl dX10_runs_34 rfl ?_
      refine V_ifeq (q := 44) (q2 := 40) dX10_runs_37 (by decide) rfl (fun hc12 => ?_) (fun hc12 => ?_)
      · have h := ifT hc12 h
        refine V_iconst (q := 45) dX10_runs_44 rfl rfl ?_
        exact V_zret rfl (Or.inl rfl) h dX10_runs_45
      · have h := ifF hc12 h
        refine V_iconst (q := 41) dX10_runs_40 rfl rfl ?_
        refine V_goto (q := 45) dX10_runs_41 (by decide) ?_
        exact V_zret rfl (Or.inr rfl) h dX10_runs_45
