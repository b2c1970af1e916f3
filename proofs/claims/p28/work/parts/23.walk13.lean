abbrev mX11_at : Mth := (yX11_at, cX11_at, 2, some .int)
set_option maxRecDepth 100000 in
theorem mi_X11_at : Cond.instanceMethod yX11_at ∈ tG ∧ Cond.selects yX11_at.cls yX11_at yX11_at ∈ tG ∧ Cond.initialized yX11_at.cls ∈ tG ∧ Cond.code yX11_at cX11_at 2 (some .int) ∈ tG ∧ (yX11_at.cls ≠ "java/lang/invoke/MethodHandle" ∧ yX11_at.cls ≠ "java/lang/invoke/VarHandle" ∧ (parseMethodDescriptor yX11_at.desc).map (fun d => d.parameters.length) = some 1) ∧ 2 ≤ 60 := ⟨(tG_of (tb6 (List.mem_of_getElem? (i := 182) rfl)) (by decide +kernel)), (tG_of (tb6 (List.mem_of_getElem? (i := 183) rfl)) (by decide +kernel)), (tG_of (tb1 (List.mem_of_getElem? (i := 12) rfl)) (by decide +kernel)), (tG_of (tb6 (List.mem_of_getElem? (i := 184) rfl)) (by decide +kernel)), ⟨by decide, by decide, by decide +kernel⟩, by decide⟩
theorem dX11_at_0 : decode cX11_at 0 = .ok (.aload_n 0, 1) := dc_42 (byA eNcX11_at (p := 0) (v := 42) (by decide +kernel))
theorem dX11_at_1 : decode cX11_at 1 = .ok (.iload_n 1, 1) := dc_27 (byA eNcX11_at (p := 1) (v := 27) (by decide +kernel))
theorem dX11_at_2 : decode cX11_at 2 = .ok (.invokevirtual 258, 3) := dc_182 (byA eNcX11_at (p := 2) (v := 182) (by decide +kernel)) (byA eNcX11_at (p := 3) (v := 1) (by decide +kernel)) (byA eNcX11_at (p := 4) (v := 2) (by decide +kernel)) rfl
theorem dX11_at_5 : decode cX11_at 5 = .ok (.ifCond .eq 12, 3) := dc_153 (byA eNcX11_at (p := 5) (v := 153) (by decide +kernel)) (byA eNcX11_at (p := 6) (v := 0) (by decide +kernel)) (byA eNcX11_at (p := 7) (v := 12) (by decide +kernel)) (by decide +kernel)
theorem dX11_at_8 : decode cX11_at 8 = .ok (.aload_n 0, 1) := dc_42 (byA eNcX11_at (p := 8) (v := 42) (by decide +kernel))
theorem dX11_at_9 : decode cX11_at 9 = .ok (.getfield 43, 3) := dc_180 (byA eNcX11_at (p := 9) (v := 180) (by decide +kernel)) (byA eNcX11_at (p := 10) (v := 0) (by decide +kernel)) (byA eNcX11_at (p := 11) (v := 43) (by decide +kernel)) rfl
theorem dX11_at_12 : decode cX11_at 12 = .ok (.iload_n 1, 1) := dc_27 (byA eNcX11_at (p := 12) (v := 27) (by decide +kernel))
theorem dX11_at_13 : decode cX11_at 13 = .ok (.iaload, 1) := dc_46 (byA eNcX11_at (p := 13) (v := 46) (by decide +kernel))
theorem dX11_at_14 : decode cX11_at 14 = .ok (.goto 4, 3) := dc_167 (byA eNcX11_at (p := 14) (v := 167) (by decide +kernel)) (byA eNcX11_at (p := 15) (v := 0) (by decide +kernel)) (byA eNcX11_at (p := 16) (v := 4) (by decide +kernel)) (by decide +kernel)
theorem dX11_at_17 : decode cX11_at 17 = .ok (.iconst (-1), 1) := dc_2 (byA eNcX11_at (p := 17) (v := 2) (by decide +kernel))
theorem dX11_at_18 : decode cX11_at 18 = .ok (.ireturn, 1) := dc_172 (byA eNcX11_at (p := 18) (v := 172) (by decide +kernel))
def X11_at (l1 : Int) (μ : Mm) : Rs := bd (X11_isPlace l1 μ) fun v1 μ2 => if v1 = 0 then (some ((-1), μ2)) else (ldA μ2 82 l1 fun v5 => some (v5, μ2))
set_option maxHeartbeats 4000000 in
set_option maxRecDepth 100000 in
theorem kX11_at (d : Nat) (hd : 2 ≤ d) {l1 : Int} {μ : Mm} {r : Int} {μ' : Mm} (h : X11_at l1 μ = some (r, μ')) : CC d mX11_at [vR 70, vI l1] μ r μ' := by
  unfold X11_at at h
  refine V_enter (by decide) (Nat.le_of_ble_eq_true rfl) ?_
  show VV d mX11_at 0 [some (vR 70), some (vI l1)] [] μ r μ'
  refine V_aload_n (q := 1) dX11_at_0 rfl rfl rfl ?_
  refine V_iload_n (q := 2) dX11_at_1 rfl rfl rfl ?_
  obtain ⟨v1, μ2, hc3, h⟩ := bd_i h
  refine V_cV1 (q := 5) (v := vI v1) (kX11_isPlace (d - 1) (by omega) hc3) (by omega) mv_X11_258 rfl rfl rfl rfl rfl rfl dX11_at_2 rfl ?_
  refine V_ifeq (q := 17) (q2 := 8) dX11_at_5 (by decide) rfl (fun hc4 => ?_) (fun hc4 => ?_)
  · have h := ifT hc4 h
    refine V_iconst (q := 18) dX11_at_17 rfl rfl ?_
    exact V_iret rfl h dX11_at_18
  · have h := ifF hc4 h
    refine V_aload_n (q := 9) dX11_at_8 rfl rfl rfl ?_
    refine V_getO (q := 12) (t := 82) fl_X11_43 rfl rfl rfl rfl dX11_at_9 rfl ?_
    refine V_iload_n (q := 13) dX11_at_12 rfl rfl rfl ?_
    obtain ⟨hi6, h⟩ := ldA_i h
    refine V_iaload (q := 14) rfl hi6 dX11_at_13 rfl ?_
    refine V_goto (q := 18) dX11_at_14 (by decide) ?_
    exact V_iret rfl h dX11_at_18
abbrev mX11_reach : Mth := (yX11_reach, cX11_reach, 3, none)
set_option maxRecDepth 100000 in
theorem mi_X11_reach : Cond.instanceMethod yX11_reach ∈ tG ∧ Cond.selects yX11_reach.cls yX11_reach yX11_reach ∈ tG ∧ Cond.initialized yX11_reach.cls ∈ tG ∧ Cond.code yX11_reach cX11_reach 3 (none) ∈ tG ∧ (yX11_reach.cls ≠ "java/lang/invoke/MethodHandle" ∧ yX11_reach.cls ≠ "java/lang/invoke/VarHandle" ∧ (parseMethodDescriptor yX11_reach.desc).map (fun d => d.parameters.length) = some 2) ∧ 3 ≤ 60 := ⟨(tG_of (tb6 (List.mem_of_getElem? (i := 199) rfl)) (by decide +kernel)), (tG_of (List.mem_of_getElem? (i := 76) (by decide +kernel)) (by decide +kernel)), (tG_of (tb1 (List.mem_of_getElem? (i := 12) rfl)) (by decide +kernel)), (tG_of (tb6 (List.mem_of_getElem? (i := 200) rfl)) (by decide +kernel)), ⟨by decide, by decide, by decide +kernel⟩, by decide⟩
set_option maxRecDepth 100000 in
theorem mv_X11_287 : mV RX11 287 mX11_reach 2 := ⟨(tG_of (tb6 (List.mem_of_getElem? (i := 197) rfl)) (by decide +kernel)), mi_X11_reach⟩
theorem dX11_reach_0 : decode cX11_reach 0 = .ok (.aload_n 0, 1) := dc_42 (byA eNcX11_reach (p := 0) (v := 42) (by decide +kernel))
theorem dX11_reach_1 : decode cX11_reach 1 = .ok (.iload_n 1, 1) := dc_27 (byA eNcX11_reach (p := 1) (v := 27) (by decide +kernel))
theorem dX11_reach_2 : decode cX11_reach 2 = .ok (.invokevirtual 258, 3) := dc_182 (byA eNcX11_reach (p := 2) (v := 182) (by decide +kernel)) (byA eNcX11_reach (p := 3) (v := 1) (by decide +kernel)) (byA eNcX11_reach (p := 4) (v := 2) (by decide +kernel)) rfl
theorem dX11_reach_5 : decode cX11_reach 5 = .ok (.ifCond .eq 30, 3) := dc_153 (byA eNcX11_reach (p := 5) (v := 153) (by decide +kernel)) (byA eNcX11_reach (p := 6) (v := 0) (by decide +kernel)) (byA eNcX11_reach (p := 7) (v := 30) (by decide +kernel)) (by decide +kernel)
theorem dX11_reach_8 : decode cX11_reach 8 = .ok (.aload_n 0, 1) := dc_42 (byA eNcX11_reach (p := 8) (v := 42) (by decide +kernel))
theorem dX11_reach_9 : decode cX11_reach 9 = .ok (.getfield 43, 3) := dc_180 (byA eNcX11_reach (p := 9) (v := 180) (by decide +kernel)) (byA eNcX11_reach (p := 10) (v := 0) (by decide +kernel)) (byA eNcX11_reach (p := 11) (v := 43) (by decide +kernel)) rfl
theorem dX11_reach_12 : decode cX11_reach 12 = .ok (.iload_n 1, 1) := dc_27 (byA eNcX11_reach (p := 12) (v := 27) (by decide +kernel))
theorem dX11_reach_13 : decode cX11_reach 13 = .ok (.iaload, 1) := dc_46 (byA eNcX11_reach (p := 13) (v := 46) (by decide +kernel))
theorem dX11_reach_14 : decode cX11_reach 14 = .ok (.iconst 1, 1) := dc_4 (byA eNcX11_reach (p := 14) (v := 4) (by decide +kernel))
theorem dX11_reach_15 : decode cX11_reach 15 = .ok (.if_icmp .eq 20, 3) := dc_159 (byA eNcX11_reach (p := 15) (v := 159) (by decide +kernel)) (byA eNcX11_reach (p := 16) (v := 0) (by decide +kernel)) (byA eNcX11_reach (p := 17) (v := 20) (by decide +kernel)) (by decide +kernel)
theorem dX11_reach_18 : decode cX11_reach 18 = .ok (.aload_n 0, 1) := dc_42 (byA eNcX11_reach (p := 18) (v := 42) (by decide +kernel))
theorem dX11_reach_19 : decode cX11_reach 19 = .ok (.getfield 65, 3) := dc_180 (byA eNcX11_reach (p := 19) (v := 180) (by decide +kernel)) (byA eNcX11_reach (p := 20) (v := 0) (by decide +kernel)) (byA eNcX11_reach (p := 21) (v := 65) (by decide +kernel)) rfl
theorem dX11_reach_22 : decode cX11_reach 22 = .ok (.iload_n 1, 1) := dc_27 (byA eNcX11_reach (p := 22) (v := 27) (by decide +kernel))
theorem dX11_reach_23 : decode cX11_reach 23 = .ok (.iaload, 1) := dc_46 (byA eNcX11_reach (p := 23) (v := 46) (by decide +kernel))
theorem dX11_reach_24 : decode cX11_reach 24 = .ok (.iconst (-1), 1) := dc_2 (byA eNcX11_reach (p := 24) (v := 2) (by decide +kernel))
theorem dX11_reach_25 : decode cX11_reach 25 = .ok (.if_icmp .ne 10, 3) := dc_160 (byA eNcX11_reach (p := 25) (v := 160) (by decide +kernel)) (byA eNcX11_reach (p := 26) (v := 0) (by decide +kernel)) (byA eNcX11_reach (p := 27) (v := 10) (by decide +kernel)) (by decide +kernel)
theorem dX11_reach_28 : decode cX11_reach 28 = .ok (.aload_n 0, 1) := dc_42 (byA eNcX11_reach (p := 28) (v := 42) (by decide +kernel))
theorem dX11_reach_29 : decode cX11_reach 29 = .ok (.getfield 65, 3) := dc_180 (byA eNcX11_reach (p := 29) (v := 180) (by decide +kernel)) (byA eNcX11_reach (p := 30) (v := 0) (by decide +kernel)) (byA eNcX11_reach (p := 31) (v := 65) (by decide +kernel)) rfl
theorem dX11_reach_32 : decode cX11_reach 32 = .ok (.iload_n 1, 1) := dc_27 (byA eNcX11_reach (p := 32) (v := 27) (by decide +kernel))
theorem dX11_reach_33 : decode cX11_reach 33 = .ok (.iload_n 2, 1) := dc_28 (byA eNcX11_reach (p := 33) (v := 28) (by decide +kernel))
theorem dX11_reach_34 : decode cX11_reach 34 = .ok (.iastore, 1) := dc_79 (byA eNcX11_reach (p := 34) (v := 79) (by decide +kernel))
theorem dX11_reach_35 : decode cX11_reach 35 = .ok (.return_, 1) := dc_177 (byA eNcX11_reach (p := 35) (v := 177) (by decide +kernel))
def X11_reach (l1 : Int) (l2 : Int) (μ : Mm) : Rs := bd (X11_isPlace l1 μ) fun v1 μ2 => if v1 = 0 then (some (0, μ2)) else (ldA μ2 82 l1 fun v5 => if v5 = 1 then (some (0, μ2)) else (ldA μ2 87 l1 fun v8 => if v8 = (-1) then (stA μ2 87 l1 l2 fun μ11 => some (0, μ11)) else (some (0, μ2))))
set_option maxHeartbeats 4000000 in
set_option maxRecDepth 100000 in
theorem kX11_reach (d : Nat) (hd : 2 ≤ d) {l1 : Int} {l2 : Int} {μ : Mm} {r : Int} {μ' : Mm} (h : X11_reach l1 l2 μ = some (r, μ')) : CC d mX11_reach [vR 70, vI l1, vI l2] μ r μ' := by
  unfold X11_reach at h
  refine V_enter (by decide) (Nat.le_of_ble_eq_true rfl) ?_
  show VV d mX11_reach 0 [some (vR 70), some (vI l1), some (vI l2)] [] μ r μ'
  refine V_aload_n (q := 1) dX11_reach_0 rfl rfl rfl ?_
  refine V_iload_n (q := 2) dX11_reach_1 rfl rfl rfl ?_
  obtain ⟨v1, μ2, hc3, h⟩ := bd_i h
  refine V_cV1 (q := 5) (v := vI v1) (kX11_isPlace (d - 1) (by omega) hc3) (by omega) mv_X11_258 rfl rfl rfl rfl rfl rfl dX11_reach_2 rfl ?_
  refine V_ifeq (q := 35) (q2 := 8) dX11_reach_5 (by decide) rfl (fun hc4 => ?_) (fun hc4 => ?_)
  · have h := ifT hc4 h
    exact V_vret rfl h dX11_reach_35
  · have h := ifF hc4 h
    refine V_aload_n (q := 9) dX11_reach_8 rfl rfl rfl ?_
    refine V_getO (q := 12) (t := 82) fl_X11_43 rfl rfl rfl rfl dX11_reach_9 rfl ?_
    refine V_iload_n (q := 13) dX11_reach_12 rfl rfl rfl ?_
    obtain ⟨hi6, h⟩ := ldA_i h
    refine V_iaload (q := 14) rfl hi6 dX11_reach_13 rfl ?_
    refine V_iconst (q := 15) dX11_reach_14 rfl rfl ?_
    refine V_icmpeq (q := 35) (q2 := 18) dX11_reach_15 (by decide) rfl (fun hc7 => ?_) (fun hc7 => ?_)
    · have h := ifT hc7 h
      exact V_vret rfl h dX11_reach_35
    · have h := ifF hc7 h
      refine V_aload_n (q := 19) dX11_reach_18 rfl rfl rfl ?_
      refine V_getO (q := 22) (t := 87) fl_X11_65 rfl rfl rfl rfl dX11_reach_19 rfl ?_
      refine V_iload_n (q := 23) dX11_reach_22 rfl rfl rfl ?_
      obtain ⟨hi9, h⟩ := ldA_i h
      refine V_iaload (q := 24) rfl hi9 dX11_reach_23 rfl ?_
      refine V_iconst (q := 25) dX11_reach_24 rfl rfl ?_
      refine V_icmpne (q := 35) (q2 := 28) dX11_reach_25 (by decide) rfl (fun hc10 => ?_) (fun hc10 => ?_)
      · have h := ifF hc10 h
        exact V_vret rfl h dX11_reach_35
      · have h := ifT hc10 h
        refine V_aload_n (q := 29) dX11_reach_28 rfl rfl rfl ?_
        refine V_getO (q := 32) (t := 87) fl_X11_65 rfl rfl rfl rfl dX11_reach_29 rfl ?_
        refine V_iload_n (q := 33) dX11_reach_32 rfl rfl rfl ?_
        refine V_iload_n (q := 34) dX11_reach_33 rfl rfl rfl ?_
        obtain ⟨hi12, h⟩ := stA_i h
        refine V_iastore (q := 35) rfl hi12 dX11_reach_34 rfl ?_
        exact V_vret rfl h dX11_reach_35
abbrev mX11_spread : Mth := (yX11_spread, cX11_spread, 5, none)
set_option maxRecDepth 100000 in
theorem mi_X11_spread : Cond.instanceMethod yX11_spread ∈ tG ∧ Cond.selects yX11_spread.cls yX11_spread yX11_spread ∈ tG ∧ Cond.initialized yX11_spread.cls ∈ tG ∧ Cond.code yX11_spread cX11_spread 5 (none) ∈ tG ∧ (yX11_spread.cls ≠ "java/lang/invoke/MethodHandle" ∧ yX11_spread.cls ≠ "java/lang/invoke/VarHandle" ∧ (parseMethodDescriptor yX11_spread.desc).map (fun d => d.parameters.length) = some 1) ∧ 5 ≤ 60 := ⟨(tG_of (tb6 (List.mem_of_getElem? (i := 195) rfl)) (by decide +kernel)), (tG_of (List.mem_of_getElem? (i := 75) (by decide +kernel)) (by decide +kernel)), (tG_of (tb1 (List.mem_of_getElem? (i := 12) rfl)) (by decide +kernel)), (tG_of (tb6 (List.mem_of_getElem? (i := 196) rfl)) (by decide +kernel)), ⟨by decide, by decide, by decide +kernel⟩, by decide⟩
set_option maxRecDepth 100000 in
theorem mv_X11_293 : mV RX11 293 mX11_spread 1 := ⟨(tG_of (tb6 (List.mem_of_getElem? (i := 193) rfl)) (by decide +kernel)), mi_X11_spread⟩
theorem dX11_spread_0 : decode cX11_spread 0 = .ok (.iconst 0, 1) := dc_3 (byA eNcX11_spread (p := 0) (v := 3) (by decide +kernel))
theorem dX11_spread_1 : decode cX11_spread 1 = .ok (.istore_n 2, 1) := dc_61 (byA eNcX11_spread (p := 1) (v := 61) (by decide +kernel))
theorem dX11_spread_2 : decode cX11_spread 2 = .ok (.iload_n 2, 1) := dc_28 (byA eNcX11_spread (p := 2) (v := 28) (by decide +kernel))
theorem dX11_spread_3 : decode cX11_spread 3 = .ok (.bipush 60, 2) := dc_16 (byA eNcX11_spread (p := 3) (v := 16) (by decide +kernel)) (byA eNcX11_spread (p := 4) (v := 60) (by decide +kernel)) (by decide +kernel)
theorem dX11_spread_5 : decode cX11_spread 5 = .ok (.if_icmp .ge 25, 3) := dc_162 (byA eNcX11_spread (p := 5) (v := 162) (by decide +kernel)) (byA eNcX11_spread (p := 6) (v := 0) (by decide +kernel)) (byA eNcX11_spread (p := 7) (v := 25) (by decide +kernel)) (by decide +kernel)
theorem dX11_spread_8 : decode cX11_spread 8 = .ok (.aload_n 0, 1) := dc_42 (byA eNcX11_spread (p := 8) (v := 42) (by decide +kernel))
theorem dX11_spread_9 : decode cX11_spread 9 = .ok (.getfield 65, 3) := dc_180 (byA eNcX11_spread (p := 9) (v := 180) (by decide +kernel)) (byA eNcX11_spread (p := 10) (v := 0) (by decide +kernel)) (byA eNcX11_spread (p := 11) (v := 65) (by decide +kernel)) rfl
theorem dX11_spread_12 : decode cX11_spread 12 = .ok (.iload_n 2, 1) := dc_28 (byA eNcX11_spread (p := 12) (v := 28) (by decide +kernel))
theorem dX11_spread_13 : decode cX11_spread 13 = .ok (.iload_n 2, 1) := dc_28 (byA eNcX11_spread (p := 13) (v := 28) (by decide +kernel))
theorem dX11_spread_14 : decode cX11_spread 14 = .ok (.iload_n 1, 1) := dc_27 (byA eNcX11_spread (p := 14) (v := 27) (by decide +kernel))
theorem dX11_spread_15 : decode cX11_spread 15 = .ok (.if_icmp .ne 7, 3) := dc_160 (byA eNcX11_spread (p := 15) (v := 160) (by decide +kernel)) (byA eNcX11_spread (p := 16) (v := 0) (by decide +kernel)) (byA eNcX11_spread (p := 17) (v := 7) (by decide +kernel)) (by decide +kernel)
theorem dX11_spread_18 : decode cX11_spread 18 = .ok (.iconst 0, 1) := dc_3 (byA eNcX11_spread (p := 18) (v := 3) (by decide +kernel))
theorem dX11_spread_19 : decode cX11_spread 19 = .ok (.goto 4, 3) := dc_167 (byA eNcX11_spread (p := 19) (v := 167) (by decide +kernel)) (byA eNcX11_spread (p := 20) (v := 0) (by decide +kernel)) (byA eNcX11_spread (p := 21) (v := 4) (by decide +kernel)) (by decide +kernel)
theorem dX11_spread_22 : decode cX11_spread 22 = .ok (.iconst (-1), 1) := dc_2 (byA eNcX11_spread (p := 22) (v := 2) (by decide +kernel))
theorem dX11_spread_23 : decode cX11_spread 23 = .ok (.iastore, 1) := dc_79 (byA eNcX11_spread (p := 23) (v := 79) (by decide +kernel))
theorem dX11_spread_24 : decode cX11_spread 24 = .ok (.iinc 2 1, 3) := dc_132 (byA eNcX11_spread (p := 24) (v := 132) (by decide +kernel)) (byA eNcX11_spread (p := 25) (v := 2) (by decide +kernel)) (byA eNcX11_spread (p := 26) (v := 1) (by decide +kernel)) (by decide +kernel)
theorem dX11_spread_27 : decode cX11_spread 27 = .ok (.goto (-25), 3) := dc_167 (byA eNcX11_spread (p := 27) (v := 167) (by decide +kernel)) (byA eNcX11_spread (p := 28) (v := 255) (by decide +kernel)) (byA eNcX11_spread (p := 29) (v := 231) (by decide +kernel)) (by decide +kernel)
theorem dX11_spread_30 : decode cX11_spread 30 = .ok (.iconst 1, 1) := dc_4 (byA eNcX11_spread (p := 30) (v := 4) (by decide +kernel))
theorem dX11_spread_31 : decode cX11_spread 31 = .ok (.istore_n 2, 1) := dc_61 (byA eNcX11_spread (p := 31) (v := 61) (by decide +kernel))
theorem dX11_spread_32 : decode cX11_spread 32 = .ok (.iconst 0, 1) := dc_3 (byA eNcX11_spread (p := 32) (v := 3) (by decide +kernel))
theorem dX11_spread_33 : decode cX11_spread 33 = .ok (.istore_n 3, 1) := dc_62 (byA eNcX11_spread (p := 33) (v := 62) (by decide +kernel))
theorem dX11_spread_34 : decode cX11_spread 34 = .ok (.iload_n 2, 1) := dc_28 (byA eNcX11_spread (p := 34) (v := 28) (by decide +kernel))
theorem dX11_spread_35 : decode cX11_spread 35 = .ok (.ifCond .eq 112, 3) := dc_153 (byA eNcX11_spread (p := 35) (v := 153) (by decide +kernel)) (byA eNcX11_spread (p := 36) (v := 0) (by decide +kernel)) (byA eNcX11_spread (p := 37) (v := 112) (by decide +kernel)) (by decide +kernel)
theorem dX11_spread_38 : decode cX11_spread 38 = .ok (.iconst 0, 1) := dc_3 (byA eNcX11_spread (p := 38) (v := 3) (by decide +kernel))
theorem dX11_spread_39 : decode cX11_spread 39 = .ok (.istore_n 2, 1) := dc_61 (byA eNcX11_spread (p := 39) (v := 61) (by decide +kernel))
theorem dX11_spread_40 : decode cX11_spread 40 = .ok (.iconst 0, 1) := dc_3 (byA eNcX11_spread (p := 40) (v := 3) (by decide +kernel))
theorem dX11_spread_41 : decode cX11_spread 41 = .ok (.istore 4, 2) := dc_54 (byA eNcX11_spread (p := 41) (v := 54) (by decide +kernel)) (byA eNcX11_spread (p := 42) (v := 4) (by decide +kernel))
theorem dX11_spread_43 : decode cX11_spread 43 = .ok (.iload 4, 2) := dc_21 (byA eNcX11_spread (p := 43) (v := 21) (by decide +kernel)) (byA eNcX11_spread (p := 44) (v := 4) (by decide +kernel))
theorem dX11_spread_45 : decode cX11_spread 45 = .ok (.bipush 60, 2) := dc_16 (byA eNcX11_spread (p := 45) (v := 16) (by decide +kernel)) (byA eNcX11_spread (p := 46) (v := 60) (by decide +kernel)) (by decide +kernel)
theorem dX11_spread_47 : decode cX11_spread 47 = .ok (.if_icmp .ge 94, 3) := dc_162 (byA eNcX11_spread (p := 47) (v := 162) (by decide +kernel)) (byA eNcX11_spread (p := 48) (v := 0) (by decide +kernel)) (byA eNcX11_spread (p := 49) (v := 94) (by decide +kernel)) (by decide +kernel)
theorem dX11_spread_50 : decode cX11_spread 50 = .ok (.aload_n 0, 1) := dc_42 (byA eNcX11_spread (p := 50) (v := 42) (by decide +kernel))
theorem dX11_spread_51 : decode cX11_spread 51 = .ok (.getfield 65, 3) := dc_180 (byA eNcX11_spread (p := 51) (v := 180) (by decide +kernel)) (byA eNcX11_spread (p := 52) (v := 0) (by decide +kernel)) (byA eNcX11_spread (p := 53) (v := 65) (by decide +kernel)) rfl
theorem dX11_spread_54 : decode cX11_spread 54 = .ok (.iload 4, 2) := dc_21 (byA eNcX11_spread (p := 54) (v := 21) (by decide +kernel)) (byA eNcX11_spread (p := 55) (v := 4) (by decide +kernel))
theorem dX11_spread_56 : decode cX11_spread 56 = .ok (.iaload, 1) := dc_46 (byA eNcX11_spread (p := 56) (v := 46) (by decide +kernel))
theorem dX11_spread_57 : decode cX11_spread 57 = .ok (.iload_n 3, 1) := dc_29 (byA eNcX11_spread (p := 57) (v := 29) (by decide +kernel))
theorem dX11_spread_58 : decode cX11_spread 58 = .ok (.if_icmp .ne 77, 3) := dc_160 (byA eNcX11_spread (p := 58) (v := 160) (by decide +kernel)) (byA eNcX11_spread (p := 59) (v := 0) (by decide +kernel)) (byA eNcX11_spread (p := 60) (v := 77) (by decide +kernel)) (by decide +kernel)
theorem dX11_spread_61 : decode cX11_spread 61 = .ok (.iconst 1, 1) := dc_4 (byA eNcX11_spread (p := 61) (v := 4) (by decide +kernel))
theorem dX11_spread_62 : decode cX11_spread 62 = .ok (.istore_n 2, 1) := dc_61 (byA eNcX11_spread (p := 62) (v := 61) (by decide +kernel))
theorem dX11_spread_63 : decode cX11_spread 63 = .ok (.aload_n 0, 1) := dc_42 (byA eNcX11_spread (p := 63) (v := 42) (by decide +kernel))
theorem dX11_spread_64 : decode cX11_spread 64 = .ok (.iload 4, 2) := dc_21 (byA eNcX11_spread (p := 64) (v := 21) (by decide +kernel)) (byA eNcX11_spread (p := 65) (v := 4) (by decide +kernel))
theorem dX11_spread_66 : decode cX11_spread 66 = .ok (.bipush 10, 2) := dc_16 (byA eNcX11_spread (p := 66) (v := 16) (by decide +kernel)) (byA eNcX11_spread (p := 67) (v := 10) (by decide +kernel)) (by decide +kernel)
theorem dX11_spread_68 : decode cX11_spread 68 = .ok (.isub, 1) := dc_100 (byA eNcX11_spread (p := 68) (v := 100) (by decide +kernel))
theorem dX11_spread_69 : decode cX11_spread 69 = .ok (.iload_n 3, 1) := dc_29 (byA eNcX11_spread (p := 69) (v := 29) (by decide +kernel))
theorem dX11_spread_70 : decode cX11_spread 70 = .ok (.iconst 1, 1) := dc_4 (byA eNcX11_spread (p := 70) (v := 4) (by decide +kernel))
theorem dX11_spread_71 : decode cX11_spread 71 = .ok (.iadd, 1) := dc_96 (byA eNcX11_spread (p := 71) (v := 96) (by decide +kernel))
theorem dX11_spread_72 : decode cX11_spread 72 = .ok (.invokevirtual 287, 3) := dc_182 (byA eNcX11_spread (p := 72) (v := 182) (by decide +kernel)) (byA eNcX11_spread (p := 73) (v := 1) (by decide +kernel)) (byA eNcX11_spread (p := 74) (v := 31) (by decide +kernel)) rfl
theorem dX11_spread_75 : decode cX11_spread 75 = .ok (.aload_n 0, 1) := dc_42 (byA eNcX11_spread (p := 75) (v := 42) (by decide +kernel))
theorem dX11_spread_76 : decode cX11_spread 76 = .ok (.iload 4, 2) := dc_21 (byA eNcX11_spread (p := 76) (v := 21) (by decide +kernel)) (byA eNcX11_spread (p := 77) (v := 4) (by decide +kernel))
theorem dX11_spread_78 : decode cX11_spread 78 = .ok (.bipush 10, 2) := dc_16 (byA eNcX11_spread (p := 78) (v := 16) (by decide +kernel)) (byA eNcX11_spread (p := 79) (v := 10) (by decide +kernel)) (by decide +kernel)
theorem dX11_spread_80 : decode cX11_spread 80 = .ok (.iadd, 1) := dc_96 (byA eNcX11_spread (p := 80) (v := 96) (by decide +kernel))
theorem dX11_spread_81 : decode cX11_spread 81 = .ok (.iload_n 3, 1) := dc_29 (byA eNcX11_spread (p := 81) (v := 29) (by decide +kernel))
theorem dX11_spread_82 : decode cX11_spread 82 = .ok (.iconst 1, 1) := dc_4 (byA eNcX11_spread (p := 82) (v := 4) (by decide +kernel))
theorem dX11_spread_83 : decode cX11_spread 83 = .ok (.iadd, 1) := dc_96 (byA eNcX11_spread (p := 83) (v := 96) (by decide +kernel))
theorem dX11_spread_84 : decode cX11_spread 84 = .ok (.invokevirtual 287, 3) := dc_182 (byA eNcX11_spread (p := 84) (v := 182) (by decide +kernel)) (byA eNcX11_spread (p := 85) (v := 1) (by decide +kernel)) (byA eNcX11_spread (p := 86) (v := 31) (by decide +kernel)) rfl
theorem dX11_spread_87 : decode cX11_spread 87 = .ok (.aload_n 0, 1) := dc_42 (byA eNcX11_spread (p := 87) (v := 42) (by decide +kernel))
theorem dX11_spread_88 : decode cX11_spread 88 = .ok (.iload 4, 2) := dc_21 (byA eNcX11_spread (p := 88) (v := 21) (by decide +kernel)) (byA eNcX11_spread (p := 89) (v := 4) (by decide +kernel))
theorem dX11_spread_90 : decode cX11_spread 90 = .ok (.bipush 10, 2) := dc_16 (byA eNcX11_spread (p := 90) (v := 16) (by decide +kernel)) (byA eNcX11_spread (p := 91) (v := 10) (by decide +kernel)) (by decide +kernel)
theorem dX11_spread_92 : decode cX11_spread 92 = .ok (.irem, 1) := dc_112 (byA eNcX11_spread (p := 92) (v := 112) (by decide +kernel))
theorem dX11_spread_93 : decode cX11_spread 93 = .ok (.ifCond .le 10, 3) := dc_158 (byA eNcX11_spread (p := 93) (v := 158) (by decide +kernel)) (byA eNcX11_spread (p := 94) (v := 0) (by decide +kernel)) (byA eNcX11_spread (p := 95) (v := 10) (by decide +kernel)) (by decide +kernel)
theorem dX11_spread_96 : decode cX11_spread 96 = .ok (.iload 4, 2) := dc_21 (byA eNcX11_spread (p := 96) (v := 21) (by decide +kernel)) (byA eNcX11_spread (p := 97) (v := 4) (by decide +kernel))
theorem dX11_spread_98 : decode cX11_spread 98 = .ok (.iconst 1, 1) := dc_4 (byA eNcX11_spread (p := 98) (v := 4) (by decide +kernel))
theorem dX11_spread_99 : decode cX11_spread 99 = .ok (.isub, 1) := dc_100 (byA eNcX11_spread (p := 99) (v := 100) (by decide +kernel))
theorem dX11_spread_100 : decode cX11_spread 100 = .ok (.goto 4, 3) := dc_167 (byA eNcX11_spread (p := 100) (v := 167) (by decide +kernel)) (byA eNcX11_spread (p := 101) (v := 0) (by decide +kernel)) (byA eNcX11_spread (p := 102) (v := 4) (by decide +kernel)) (by decide +kernel)
theorem dX11_spread_103 : decode cX11_spread 103 = .ok (.iconst (-1), 1) := dc_2 (byA eNcX11_spread (p := 103) (v := 2) (by decide +kernel))
theorem dX11_spread_104 : decode cX11_spread 104 = .ok (.iload_n 3, 1) := dc_29 (byA eNcX11_spread (p := 104) (v := 29) (by decide +kernel))
theorem dX11_spread_105 : decode cX11_spread 105 = .ok (.iconst 1, 1) := dc_4 (byA eNcX11_spread (p := 105) (v := 4) (by decide +kernel))
theorem dX11_spread_106 : decode cX11_spread 106 = .ok (.iadd, 1) := dc_96 (byA eNcX11_spread (p := 106) (v := 96) (by decide +kernel))
theorem dX11_spread_107 : decode cX11_spread 107 = .ok (.invokevirtual 287, 3) := dc_182 (byA eNcX11_spread (p := 107) (v := 182) (by decide +kernel)) (byA eNcX11_spread (p := 108) (v := 1) (by decide +kernel)) (byA eNcX11_spread (p := 109) (v := 31) (by decide +kernel)) rfl
theorem dX11_spread_110 : decode cX11_spread 110 = .ok (.aload_n 0, 1) := dc_42 (byA eNcX11_spread (p := 110) (v := 42) (by decide +kernel))
theorem dX11_spread_111 : decode cX11_spread 111 = .ok (.iload 4, 2) := dc_21 (byA eNcX11_spread (p := 111) (v := 21) (by decide +kernel)) (byA eNcX11_spread (p := 112) (v := 4) (by decide +kernel))
theorem dX11_spread_113 : decode cX11_spread 113 = .ok (.bipush 10, 2) := dc_16 (byA eNcX11_spread (p := 113) (v := 16) (by decide +kernel)) (byA eNcX11_spread (p := 114) (v := 10) (by decide +kernel)) (by decide +kernel)
theorem dX11_spread_115 : decode cX11_spread 115 = .ok (.irem, 1) := dc_112 (byA eNcX11_spread (p := 115) (v := 112) (by decide +kernel))
theorem dX11_spread_116 : decode cX11_spread 116 = .ok (.bipush 9, 2) := dc_16 (byA eNcX11_spread (p := 116) (v := 16) (by decide +kernel)) (byA eNcX11_spread (p := 117) (v := 9) (by decide +kernel)) (by decide +kernel)
theorem dX11_spread_118 : decode cX11_spread 118 = .ok (.if_icmp .ge 10, 3) := dc_162 (byA eNcX11_spread (p := 118) (v := 162) (by decide +kernel)) (byA eNcX11_spread (p := 119) (v := 0) (by decide +kernel)) (byA eNcX11_spread (p := 120) (v := 10) (by decide +kernel)) (by decide +kernel)
theorem dX11_spread_121 : decode cX11_spread 121 = .ok (.iload 4, 2) := dc_21 (byA eNcX11_spread (p := 121) (v := 21) (by decide +kernel)) (byA eNcX11_spread (p := 122) (v := 4) (by decide +kernel))
theorem dX11_spread_123 : decode cX11_spread 123 = .ok (.iconst 1, 1) := dc_4 (byA eNcX11_spread (p := 123) (v := 4) (by decide +kernel))
theorem dX11_spread_124 : decode cX11_spread 124 = .ok (.iadd, 1) := dc_96 (byA eNcX11_spread (p := 124) (v := 96) (by decide +kernel))
theorem dX11_spread_125 : decode cX11_spread 125 = .ok (.goto 4, 3) := dc_167 (byA eNcX11_spread (p := 125) (v := 167) (by decide +kernel)) (byA eNcX11_spread (p := 126) (v := 0) (by decide +kernel)) (byA eNcX11_spread (p := 127) (v := 4) (by decide +kernel)) (by decide +kernel)
theorem dX11_spread_128 : decode cX11_spread 128 = .ok (.iconst (-1), 1) := dc_2 (byA eNcX11_spread (p := 128) (v := 2) (by decide +kernel))
theorem dX11_spread_129 : decode cX11_spread 129 = .ok (.iload_n 3, 1) := dc_29 (byA eNcX11_spread (p := 129) (v := 29) (by decide +kernel))
theorem dX11_spread_130 : decode cX11_spread 130 = .ok (.iconst 1, 1) := dc_4 (byA eNcX11_spread (p := 130) (v := 4) (by decide +kernel))
theorem dX11_spread_131 : decode cX11_spread 131 = .ok (.iadd, 1) := dc_96 (byA eNcX11_spread (p := 131) (v := 96) (by decide +kernel))
theorem dX11_spread_132 : decode cX11_spread 132 = .ok (.invokevirtual 287, 3) := dc_182 (byA eNcX11_spread (p := 132) (v := 182) (by decide +kernel)) (byA eNcX11_spread (p := 133) (v := 1) (by decide +kernel)) (byA eNcX11_spread (p := 134) (v := 31) (by decide +kernel)) rfl
theorem dX11_spread_135 : decode cX11_spread 135 = .ok (.iinc 4 1, 3) := dc_132 (byA eNcX11_spread (p := 135) (v := 132) (by decide +kernel)) (byA eNcX11_spread (p := 136) (v := 4) (by decide +kernel)) (byA eNcX11_spread (p := 137) (v := 1) (by decide +kernel)) (by decide +kernel)
theorem dX11_spread_138 : decode cX11_spread 138 = .ok (.goto (-95), 3) := dc_167 (byA eNcX11_spread (p := 138) (v := 167) (by decide +kernel)) (byA eNcX11_spread (p := 139) (v := 255) (by decide +kernel)) (byA eNcX11_spread (p := 140) (v := 161) (by decide +kernel)) (by decide +kernel)
theorem dX11_spread_141 : decode cX11_spread 141 = .ok (.iinc 3 1, 3) := dc_132 (byA eNcX11_spread (p := 141) (v := 132) (by decide +kernel)) (byA eNcX11_spread (p := 142) (v := 3) (by decide +kernel)) (byA eNcX11_spread (p := 143) (v := 1) (by decide +kernel)) (by decide +kernel)
theorem dX11_spread_144 : decode cX11_spread 144 = .ok (.goto (-110), 3) := dc_167 (byA eNcX11_spread (p := 144) (v := 167) (by decide +kernel)) (byA eNcX11_spread (p := 145) (v := 255) (by decide +kernel)) (byA eNcX11_spread (p := 146) (v := 146) (by decide +kernel)) (by decide +kernel)
theorem dX11_spread_147 : decode cX11_spread 147 = .ok (.return_, 1) := dc_177 (byA eNcX11_spread (p := 147) (v := 177) (by decide +kernel))
def X11_spread_L2 (l1 : Int) (k30 : Mm → Rs) : Nat → Int → Mm → Rs
  | 0, _, _ => none
  | n + 1, l2, μ => if 60 ≤ l2 then (k30 μ) else (if l2 = l1 then (stA μ 87 l2 0 fun μ5 => X11_spread_L2 l1 k30 n (iA l2 1) μ5) else (stA μ 87 l2 (-1) fun μ3 => X11_spread_L2 l1 k30 n (iA l2 1) μ3))
def X11_spread_J104 (k43 : Int → Int → Mm → Rs) (l2 : Int) (l3 : Int) (l4 : Int) (s1 : Int) (μ : Mm) : Rs := bd (X11_reach s1 (iA l3 1) μ) fun v20 μ21 => if 9 ≤ (iR l4 10) then (bd (X11_reach (-1) (iA l3 1) μ21) fun v24 μ25 => k43 l2 (iA l4 1) μ25) else (bd (X11_reach (iA l4 1) (iA l3 1) μ21) fun v27 μ28 => k43 l2 (iA l4 1) μ28)
def X11_spread_L43 (l3 : Int) (k141 : Int → Mm → Rs) : Nat → Int → Int → Mm → Rs
  | 0, _, _, _ => none
  | n + 1, l2, l4, μ => if 60 ≤ l4 then (k141 l2 μ) else (ldA μ 87 l4 fun v10 => if v10 = l3 then (bd (X11_reach (iS l4 10) (iA l3 1) μ) fun v13 μ14 => bd (X11_reach (iA l4 10) (iA l3 1) μ14) fun v16 μ17 => if (iR l4 10) ≤ 0 then (X11_spread_J104 (fun w2 w4 μq => X11_spread_L43 l3 k141 n w2 w4 μq) 1 l3 l4 (-1) μ17) else (X11_spread_J104 (fun w2 w4 μq => X11_spread_L43 l3 k141 n w2 w4 μq) 1 l3 l4 (iS l4 1) μ17)) else (X11_spread_L43 l3 k141 n l2 (iA l4 1) μ))
def X11_spread_L34 : Nat → Int → Int → Mm → Rs
  | 0, _, _, _ => none
  | n + 1, l2, l3, μ => if l2 = 0 then (some (0, μ)) else (X11_spread_L43 l3 (fun v30 μ31 => X11_spread_L34 n v30 (iA l3 1) μ31) FU 0 0 μ)
def X11_spread (l1 : Int) (μ : Mm) : Rs := X11_spread_L2 l1 (fun μ7 => X11_spread_L34 FU 1 0 μ7) FU 0 μ
set_option maxHeartbeats 4000000 in
set_option maxRecDepth 100000 in
theorem kX11_spread_L2 (d : Nat) (hd : 3 ≤ d) {l1 : Int} {k30 : Mm → Rs} {r : Int} {μ' : Mm} (hk_30 : ∀ (μ1 : Mm), k30 μ1 = some (r, μ') → VV d mX11_spread 30 [some (vR 70), none, none, none, none] [] μ1 r μ') : ∀ (n : Nat) {l2 : Int} {μ : Mm}, X11_spread_L2 l1 k30 n l2 μ = some (r, μ') → VV d mX11_spread 2 [some (vR 70), some (vI l1), some (vI l2), none, none] [] μ r μ' := by
  intro n
  induction n with
  | zero => intro l2 μ h; rw [X11_spread_L2] at h; cases h
  | succ n ih =>
    intro l2 μ h
    rw [X11_spread_L2] at h
    refine V_iload_n (q := 3) dX11_spread_2 rfl rfl rfl ?_
    refine V_bipush (q := 5) dX11_spread_3 rfl rfl rfl ?_
    refine V_icmpge (q := 30) (q2 := 8) dX11_spread_5 (by decide) rfl (fun hc1 => ?_) (fun hc1 => ?_)
    · have h := ifT hc1 h
      exact V_weak (hk_30 _ h) (sb_s rfl (sb_n (sb_n (sb_n (sb_n sb_0)))))
    · have h := ifF hc1 h
      refine V_aload_n (q := 9) dX11_spread_8 rfl rfl rfl ?_
      refine V_getO (q := 12) (t := 87) fl_X11_65 rfl rfl rfl rfl dX11_spread_9 rfl ?_
      refine V_iload_n (q := 13) dX11_spread_12 rfl rfl rfl ?_
      refine V_iload_n (q := 14) dX11_spread_13 rfl rfl rfl ?_
      refine V_iload_n (q := 15) dX11_spread_14 rfl rfl rfl ?_
      refine V_icmpne (q := 22) (q2 := 18) dX11_spread_15 (by decide) rfl (fun hc2 => ?_) (fun hc2 => ?_)
      · have h := ifF hc2 h
        refine V_iconst (q := 23) dX11_spread_22 rfl rfl ?_
        obtain ⟨hi4, h⟩ := stA_i h
        refine V_iastore (q := 24) rfl hi4 dX11_spread_23 rfl ?_
        refine V_iinc (q := 27) dX11_spread_24 rfl (Nat.le_of_ble_eq_true rfl) trivial rfl ?_
        refine V_goto (q := 2) dX11_spread_27 (by decide) ?_
        exact V_weak (ih h) (sb_s rfl (sb_s rfl (sb_s rfl (sb_n (sb_n sb_0)))))
      · have h := ifT hc2 h
        refine V_iconst (q := 19) dX11_spread_18 rfl rfl ?_
        refine V_goto (q := 23) dX11_spread_19 (by decide) ?_
        obtain ⟨hi6, h⟩ := stA_i h
        refine V_iastore (q := 24) rfl hi6 dX11_spread_23 rfl ?_
        refine V_iinc (q := 27) dX11_spread_24 rfl (Nat.le_of_ble_eq_true rfl) trivial rfl ?_
        refine V_goto (q := 2) dX11_spread_27 (by decide) ?_
        exact V_weak (ih h) (sb_s rfl (sb_s rfl (sb_s rfl (sb_n (sb_n sb_0)))))
set_option maxHeartbeats 4000000 in
set_option maxRecDepth 100000 in
theorem kX11_spread_J104 (d : Nat) (hd : 3 ≤ d) {k43 : Int → Int → Mm → Rs} {l2 : Int} {l3 : Int} {l4 : Int} {s1 : Int} {μ : Mm} {r : Int} {μ' : Mm} (hk_43 : ∀ (v2 v4 : Int) (μ1 : Mm), k43 v2 v4 μ1 = some (r, μ') → VV d mX11_spread 43 [some (vR 70), none, some (vI v2), some (vI l3), some (vI v4)] [] μ1 r μ') (h : X11_spread_J104 k43 l2 l3 l4 s1 μ = some (r, μ')) : VV d mX11_spread 104 [some (vR 70), none, some (vI l2), some (vI l3), some (vI l4)] [vI s1, vR 70] μ r μ' := by
  unfold X11_spread_J104 at h
  refine V_iload_n (q := 105) dX11_spread_104 rfl rfl rfl ?_
  refine V_iconst (q := 106) dX11_spread_105 rfl rfl ?_
  refine V_iadd (q := 107) dX11_spread_106 rfl ?_
  obtain ⟨v20, μ21, hc22, h⟩ := bd_i h
  refine V_cV0 (q := 110) (kX11_reach (d - 1) (by omega) hc22) (by omega) mv_X11_287 rfl rfl rfl rfl rfl rfl dX11_spread_107 rfl ?_
  refine V_aload_n (q := 111) dX11_spread_110 rfl rfl rfl ?_
  refine V_iload (q := 113) dX11_spread_111 rfl rfl ?_
  refine V_bipush (q := 115) dX11_spread_113 rfl rfl rfl ?_
  refine V_irem (q := 116) dX11_spread_115 (by decide) rfl ?_
  refine V_bipush (q := 118) dX11_spread_116 rfl rfl rfl ?_
  refine V_icmpge (q := 128) (q2 := 121) dX11_spread_118 (by decide) rfl (fun hc23 => ?_) (fun hc23 => ?_)
  · have h := ifT hc23 h
    refine V_iconst (q := 129) dX11_spread_128 rfl rfl ?_
    refine V_iload_n (q := 130) dX11_spread_129 rfl rfl rfl ?_
    refine V_iconst (q := 131) dX11_spread_130 rfl rfl ?_
    refine V_iadd (q := 132) dX11_spread_131 rfl ?_
    obtain ⟨v24, μ25, hc26, h⟩ := bd_i h
    refine V_cV0 (q := 135) (kX11_reach (d - 1) (by omega) hc26) (by omega) mv_X11_287 rfl rfl rfl rfl rfl rfl dX11_spread_132 rfl ?_
    refine V_iinc (q := 138) dX11_spread_135 rfl (Nat.le_of_ble_eq_true rfl) trivial rfl ?_
    refine V_goto (q := 43) dX11_spread_138 (by decide) ?_
    exact V_weak (hk_43 _ _ _ h) (sb_s rfl (sb_n (sb_s rfl (sb_s rfl (sb_s rfl sb_0)))))
  · have h := ifF hc23 h
    refine V_iload (q := 123) dX11_spread_121 rfl rfl ?_
    refine V_iconst (q := 124) dX11_spread_123 rfl rfl ?_
    refine V_iadd (q := 125) dX11_spread_124 rfl ?_
    refine V_goto (q := 129) dX11_spread_125 (by decide) ?_
    refine V_iload_n (q := 130) dX11_spread_129 rfl rfl rfl ?_
    refine V_iconst (q := 131) dX11_spread_130 rfl rfl ?_
    refine V_iadd (q := 132) dX11_spread_131 rfl ?_
    obtain ⟨v27, μ28, hc29, h⟩ := bd_i h
    refine V_cV0 (q := 135) (kX11_reach (d - 1) (by omega) hc29) (by omega) mv_X11_287 rfl rfl rfl rfl rfl rfl dX11_spread_132 rfl ?_
    refine V_iinc (q := 138) dX11_spread_135 rfl (Nat.le_of_ble_eq_true rfl) trivial rfl ?_
    refine V_goto (q := 43) dX11_spread_138 (by decide) ?_
    exact V_weak (hk_43 _ _ _ h) (sb_s rfl (sb_n (sb_s rfl (sb_s rfl (sb_s rfl sb_0)))))
set_option maxHeartbeats 4000000 in
set_option maxRecDepth 100000 in
theorem kX11_spread_L43 (d : Nat) (hd : 3 ≤ d) {l3 : Int} {k141 : Int → Mm → Rs} {r : Int} {μ' : Mm} (hk_141 : ∀ (v2 : Int) (μ1 : Mm), k141 v2 μ1 = some (r, μ') → VV d mX11_spread 141 [some (vR 70), none, some (vI v2), some (vI l3), none] [] μ1 r μ') : ∀ (n : Nat) {l2 l4 : Int} {μ : Mm}, X11_spread_L43 l3 k141 n l2 l4 μ = some (r, μ') → VV d mX11_spread 43 [some (vR 70), none, some (vI l2), some (vI l3), some (vI l4)] [] μ r μ' := by
  intro n
  induction n with
  | zero => intro l2 l4 μ h; rw [X11_spread_L43] at h; cases h
  | succ n ih =>
    intro l2 l4 μ h
    rw [X11_spread_L43] at h
    refine V_iload (q := 45) dX11_spread_43 rfl rfl ?_
    refine V_bipush (q := 47) dX11_spread_45 rfl rfl rfl ?_
    refine V_icmpge (q := 141) (q2 := 50) dX11_spread_47 (by decide) rfl (fun hc9 => ?_) (fun hc9 => ?_)
    · have h := ifT hc9 h
      exact V_weak (hk_141 _ _ h) (sb_s rfl (sb_n (sb_s rfl (sb_s rfl (sb_n sb_0)))))
    · have h := ifF hc9 h
      refine V_aload_n (q := 51) dX11_spread_50 rfl rfl rfl ?_
      refine V_getO (q := 54) (t := 87) fl_X11_65 rfl rfl rfl rfl dX11_spread_51 rfl ?_
      refine V_iload (q := 56) dX11_spread_54 rfl rfl ?_
      obtain ⟨hi11, h⟩ := ldA_i h
      refine V_iaload (q := 57) rfl hi11 dX11_spread_56 rfl ?_
      refine V_iload_n (q := 58) dX11_spread_57 rfl rfl rfl ?_
      refine V_icmpne (q := 135) (q2 := 61) dX11_spread_58 (by decide) rfl (fun hc12 => ?_) (fun hc12 => ?_)
      · have h := ifF hc12 h
        refine V_iinc (q := 138) dX11_spread_135 rfl (Nat.le_of_ble_eq_true rfl) trivial rfl ?_
        refine V_goto (q := 43) dX11_spread_138 (by decide) ?_
        exact V_weak (ih h) (sb_s rfl (sb_n (sb_s rfl (sb_s rfl (sb_s rfl sb_0)))))
      · have h := ifT hc12 h
        refine V_iconst (q := 62) dX11_spread_61 rfl rfl ?_
        refine V_istore_n (q := 63) dX11_spread_62 rfl (Nat.le_of_ble_eq_true rfl) trivial rfl ?_
        refine V_aload_n (q := 64) dX11_spread_63 rfl rfl rfl ?_
        refine V_iload (q := 66) dX11_spread_64 rfl rfl ?_
        refine V_bipush (q := 68) dX11_spread_66 rfl rfl rfl ?_
        refine V_isub (q := 69) dX11_spread_68 rfl ?_
        refine V_iload_n (q := 70) dX11_spread_69 rfl rfl rfl ?_
        refine V_iconst (q := 71) dX11_spread_70 rfl rfl ?_
        refine V_iadd (q := 72) dX11_spread_71 rfl ?_
        obtain ⟨v13, μ14, hc15, h⟩ := bd_i h
        refine V_cV0 (q := 75) (kX11_reach (d - 1) (by omega) hc15) (by omega) mv_X11_287 rfl rfl rfl rfl rfl rfl dX11_spread_72 rfl ?_
        refine V_aload_n (q := 76) dX11_spread_75 rfl rfl rfl ?_
        refine V_iload (q := 78) dX11_spread_76 rfl rfl ?_
        refine V_bipush (q := 80) dX11_spread_78 rfl rfl rfl ?_
        refine V_iadd (q := 81) dX11_spread_80 rfl ?_
        refine V_iload_n (q := 82) dX11_spread_81 rfl rfl rfl ?_
        refine V_iconst (q := 83) dX11_spread_82 rfl rfl ?_
        refine V_iadd (q := 84) dX11_spread_83 rfl ?_
        obtain ⟨v16, μ17, hc18, h⟩ := bd_i h
        refine V_cV0 (q := 87) (kX11_reach (d - 1) (by omega) hc18) (by omega) mv_X11_287 rfl rfl rfl rfl rfl rfl dX11_spread_84 rfl ?_
        refine V_aload_n (q := 88) dX11_spread_87 rfl rfl rfl ?_
        refine V_iload (q := 90) dX11_spread_88 rfl rfl ?_
        refine V_bipush (q := 92) dX11_spread_90 rfl rfl rfl ?_
        refine V_irem (q := 93) dX11_spread_92 (by decide) rfl ?_
        refine V_ifle (q := 103) (q2 := 96) dX11_spread_93 (by decide) rfl (fun hc19 => ?_) (fun hc19 => ?_)
        · have h := ifT hc19 h
          refine V_iconst (q := 104) dX11_spread_103 rfl rfl ?_
          exact V_weak (kX11_spread_J104 d hd (fun _ _ _ h => ih h) h) (sb_s rfl (sb_n (sb_s rfl (sb_s rfl (sb_s rfl sb_0)))))
        · have h := ifF hc19 h
          refine V_iload (q := 98) dX11_spread_96 rfl rfl ?_
          refine V_iconst (q := 99) dX11_spread_98 rfl rfl ?_
          refine V_isub (q := 100) dX11_spread_99 rfl ?_
          refine V_goto (q := 104) dX11_spread_100 (by decide) ?_
          exact V_weak (kX11_spread_J104 d hd (fun _ _ _ h => ih h) h) (sb_s rfl (sb_n (sb_s rfl (sb_s rfl (sb_s rfl sb_0)))))
set_option maxHeartbeats 4000000 in
set_option maxRecDepth 100000 in
theorem kX11_spread_L34 (d : Nat) (hd : 3 ≤ d) {r : Int} {μ' : Mm} : ∀ (n : Nat) {l2 l3 : Int} {μ : Mm}, X11_spread_L34 n l2 l3 μ = some (r, μ') → VV d mX11_spread 34 [some (vR 70), none, some (vI l2), some (vI l3), none] [] μ r μ' := by
  intro n
  induction n with
  | zero => intro l2 l3 μ h; rw [X11_spread_L34] at h; cases h
  | succ n ih =>
    intro l2 l3 μ h
    rw [X11_spread_L34] at h
    refine V_iload_n (q := 35) dX11_spread_34 rfl rfl rfl ?_
    refine V_ifeq (q := 147) (q2 := 38) dX11_spread_35 (by decide) rfl (fun hc8 => ?_) (fun hc8 => ?_)
    · have h := ifT hc8 h
      exact V_vret rfl h dX11_spread_147
    · have h := ifF hc8 h
      refine V_iconst (q := 39) dX11_spread_38 rfl rfl ?_
      refine V_istore_n (q := 40) dX11_spread_39 rfl (Nat.le_of_ble_eq_true rfl) trivial rfl ?_
      refine V_iconst (q := 41) dX11_spread_40 rfl rfl ?_
      refine V_istore (q := 43) dX11_spread_41 (Nat.le_of_ble_eq_true rfl) trivial rfl ?_
      refine V_weak (kX11_spread_L43 d hd (fun v30 μ31 h => ?_) FU h) (sb_s rfl (sb_n (sb_s rfl (sb_s rfl (sb_s rfl sb_0)))))
      refine V_iinc (q := 144) dX11_spread_141 rfl (Nat.le_of_ble_eq_true rfl) trivial rfl ?_
      refine V_goto (q := 34) dX11_spread_144 (by decide) ?_
      exact V_weak (ih h) (sb_s rfl (sb_n (sb_s rfl (sb_s rfl (sb_n sb_0)))))
set_option maxHeartbeats 4000000 in
set_option maxRecDepth 100000 in
theorem kX11_spread (d : Nat) (hd : 3 ≤ d) {l1 : Int} {μ : Mm} {r : Int} {μ' : Mm} (h : X11_spread l1 μ = some (r, μ')) : CC d mX11_spread [vR 70, vI l1] μ r μ' := by
  unfold X11_spread at h
  refine V_enter (by decide) (Nat.le_of_ble_eq_true rfl) ?_
  show VV d mX11_spread 0 [some (vR 70), some (vI l1), none, none, none] [] μ r μ'
  refine V_iconst (q := 1) dX11_spread_0 rfl rfl ?_
  refine V_istore_n (q := 2) dX11_spread_1 rfl (Nat.le_of_ble_eq_true rfl) trivial rfl ?_
  refine V_weak (kX11_spread_L2 d hd (fun μ7 h => ?_) FU h) (sb_s rfl (sb_s rfl (sb_s rfl (sb_n (sb_n sb_0)))))
  refine V_iconst (q := 31) dX11_spread_30 rfl rfl ?_
  refine V_istore_n (q := 32) dX11_spread_31 rfl (Nat.le_of_ble_eq_true rfl) trivial rfl ?_
  refine V_iconst (q := 33) dX11_spread_32 rfl rfl ?_
  refine V_istore_n (q := 34) dX11_spread_33 rfl (Nat.le_of_ble_eq_true rfl) trivial rfl ?_
  exact V_weak (kX11_spread_L34 d hd  FU h) (sb_s rfl (sb_n (sb_s rfl (sb_s rfl (sb_n sb_0)))))
abbrev mX11_isOpen : Mth := (yX11_isOpen, cX11_isOpen, 2, some .boolean)
set_option maxRecDepth 100000 in
theorem mi_X11_isOpen : Cond.instanceMethod yX11_isOpen ∈ tG ∧ Cond.selects yX11_isOpen.cls yX11_isOpen yX11_isOpen ∈ tG ∧ Cond.initialized yX11_isOpen.cls ∈ tG ∧ Cond.code yX11_isOpen cX11_isOpen 2 (some .boolean) ∈ tG ∧ (yX11_isOpen.cls ≠ "java/lang/invoke/MethodHandle" ∧ yX11_isOpen.cls ≠ "java/lang/invoke/VarHandle" ∧ (parseMethodDescriptor yX11_isOpen.desc).map (fun d => d.parameters.length) = some 1) ∧ 2 ≤ 60 := ⟨(tG_of (tb6 (List.mem_of_getElem? (i := 191) rfl)) (by decide +kernel)), (tG_of (List.mem_of_getElem? (i := 74) (by decide +kernel)) (by decide +kernel)), (tG_of (tb1 (List.mem_of_getElem? (i := 12) rfl)) (by decide +kernel)), (tG_of (tb6 (List.mem_of_getElem? (i := 192) rfl)) (by decide +kernel)), ⟨by decide, by decide, by decide +kernel⟩, by decide⟩
set_option maxRecDepth 100000 in
theorem mv_X11_290 : mV RX11 290 mX11_isOpen 1 := ⟨(tG_of (tb6 (List.mem_of_getElem? (i := 189) rfl)) (by decide +kernel)), mi_X11_isOpen⟩
theorem dX11_isOpen_0 : decode cX11_isOpen 0 = .ok (.aload_n 0, 1) := dc_42 (byA eNcX11_isOpen (p := 0) (v := 42) (by decide +kernel))
theorem dX11_isOpen_1 : decode cX11_isOpen 1 = .ok (.iload_n 1, 1) := dc_27 (byA eNcX11_isOpen (p := 1) (v := 27) (by decide +kernel))
theorem dX11_isOpen_2 : decode cX11_isOpen 2 = .ok (.invokevirtual 258, 3) := dc_182 (byA eNcX11_isOpen (p := 2) (v := 182) (by decide +kernel)) (byA eNcX11_isOpen (p := 3) (v := 1) (by decide +kernel)) (byA eNcX11_isOpen (p := 4) (v := 2) (by decide +kernel)) rfl
theorem dX11_isOpen_5 : decode cX11_isOpen 5 = .ok (.ifCond .eq 17, 3) := dc_153 (byA eNcX11_isOpen (p := 5) (v := 153) (by decide +kernel)) (byA eNcX11_isOpen (p := 6) (v := 0) (by decide +kernel)) (byA eNcX11_isOpen (p := 7) (v := 17) (by decide +kernel)) (by decide +kernel)
theorem dX11_isOpen_8 : decode cX11_isOpen 8 = .ok (.aload_n 0, 1) := dc_42 (byA eNcX11_isOpen (p := 8) (v := 42) (by decide +kernel))
theorem dX11_isOpen_9 : decode cX11_isOpen 9 = .ok (.getfield 43, 3) := dc_180 (byA eNcX11_isOpen (p := 9) (v := 180) (by decide +kernel)) (byA eNcX11_isOpen (p := 10) (v := 0) (by decide +kernel)) (byA eNcX11_isOpen (p := 11) (v := 43) (by decide +kernel)) rfl
theorem dX11_isOpen_12 : decode cX11_isOpen 12 = .ok (.iload_n 1, 1) := dc_27 (byA eNcX11_isOpen (p := 12) (v := 27) (by decide +kernel))
theorem dX11_isOpen_13 : decode cX11_isOpen 13 = .ok (.iaload, 1) := dc_46 (byA eNcX11_isOpen (p := 13) (v := 46) (by decide +kernel))
theorem dX11_isOpen_14 : decode cX11_isOpen 14 = .ok (.iconst 1, 1) := dc_4 (byA eNcX11_isOpen (p := 14) (v := 4) (by decide +kernel))
theorem dX11_isOpen_15 : decode cX11_isOpen 15 = .ok (.if_icmp .eq 7, 3) := dc_159 (byA eNcX11_isOpen (p := 15) (v := 159) (by decide +kernel)) (byA eNcX11_isOpen (p := 16) (v := 0) (by decide +kernel)) (byA eNcX11_isOpen (p := 17) (v := 7) (by decide +kernel)) (by decide +kernel)
theorem dX11_isOpen_18 : decode cX11_isOpen 18 = .ok (.iconst 1, 1) := dc_4 (byA eNcX11_isOpen (p := 18) (v := 4) (by decide +kernel))
theorem dX11_isOpen_19 : decode cX11_isOpen 19 = .ok (.goto 4, 3) := dc_167 (byA eNcX11_isOpen (p := 19) (v := 167) (by decide +kernel)) (byA eNcX11_isOpen (p := 20) (v := 0) (by decide +kernel)) (byA eNcX11_isOpen (p := 21) (v := 4) (by decide +kernel)) (by decide +kernel)
theorem dX11_isOpen_22 : decode cX11_isOpen 22 = .ok (.iconst 0, 1) := dc_3 (byA eNcX11_isOpen (p := 22) (v := 3) (by decide +kernel))
theorem dX11_isOpen_23 : decode cX11_isOpen 23 = .ok (.ireturn, 1) := dc_172 (byA eNcX11_isOpen (p := 23) (v := 172) (by decide +kernel))
def X11_isOpen (l1 : Int) (μ : Mm) : Rs := bd (X11_isPlace l1 μ) fun v1 μ2 => if v1 = 0 then (some (0, μ2)) else (ldA μ2 82 l1 fun v5 => if v5 = 1 then (some (0, μ2)) else (some (1, μ2)))
set_option maxHeartbeats 4000000 in
set_option maxRecDepth 100000 in
theorem kX11_isOpen (d : Nat) (hd : 2 ≤ d) {l1 : Int} {μ : Mm} {r : Int} {μ' : Mm} (h : X11_isOpen l1 μ = some (r, μ')) : CC d mX11_isOpen [vR 70, vI l1] μ r μ' := by
  unfold X11_isOpen at h
  refine V_enter (by decide) (Nat.le_of_ble_eq_true rfl) ?_
  show VV d mX11_isOpen 0 [some (vR 70), some (vI l1)] [] μ r μ'
  refine V_aload_n (q := 1) dX11_isOpen_0 rfl rfl rfl ?_
  refine V_iload_n (q := 2) dX11_isOpen_1 rfl rfl rfl ?_
  obtain ⟨v1, μ2, hc3, h⟩ := bd_i h
  refine V_cV1 (q := 5) (v := vI v1) (kX11_isPlace (d - 1) (by omega) hc3) (by omega) mv_X11_258 rfl rfl rfl rfl rfl rfl dX11_isOpen_2 rfl ?_
  refine V_ifeq (q := 22) (q2 := 8) dX11_isOpen_5 (by decide) rfl (fun hc4 => ?_) (fun hc4 => ?_)
  · have h := ifT hc4 h
    refine V_iconst (q := 23) dX11_isOpen_22 rfl rfl ?_
    exact V_zret rfl (Or.inl rfl) h dX11_isOpen_23
  · have h := ifF hc4 h
    refine V_aload_n (q := 9) dX11_isOpen_8 rfl rfl rfl ?_
    refine V_getO (q := 12) (t := 82) fl_X11_43 rfl rfl rfl rfl dX11_isOpen_9 rfl ?_
    refine V_iload_n (q := 13) dX11_isOpen_12 rfl rfl rfl ?_
    obtain ⟨hi6, h⟩ := ldA_i h
    refine V_iaload (q := 14) rfl hi6 dX11_isOpen_13 rfl ?_
    refine V_iconst (q := 15) dX11_isOpen_14 rfl rfl ?_
    refine V_icmpeq (q := 22) (q2 := 18) dX11_isOpen_15 (by decide) rfl (fun hc7 => ?_) (fun hc7 => ?_)
    · have h := ifT hc7 h
      refine V_iconst (q := 23) dX11_isOpen_22 rfl rfl ?_
      exact V_zret rfl (Or.inl rfl) h dX11_isOpen_23
    · have h := ifF hc7 h
      refine V_iconst (q := 19) dX11_isOpen_18 rfl rfl ?_
      refine V_goto (q := 23) dX11_isOpen_19 (by decide) ?_
      exact V_zret rfl (Or.inr rfl) h dX11_isOpen_23
abbrev mX11_way : Mth := (yX11_way, cX11_way, 3, some .int)
set_option maxRecDepth 100000 in
theorem mi_X11_way : Cond.instanceMethod yX11_way ∈ tG ∧ Cond.selects yX11_way.cls yX11_way yX11_way ∈ tG ∧ Cond.initialized yX11_way.cls ∈ tG ∧ Cond.code yX11_way cX11_way 3 (some .int) ∈ tG ∧ (yX11_way.cls ≠ "java/lang/invoke/MethodHandle" ∧ yX11_way.cls ≠ "java/lang/invoke/VarHandle" ∧ (parseMethodDescriptor yX11_way.desc).map (fun d => d.parameters.length) = some 2) ∧ 3 ≤ 60 := ⟨(tG_of (tb6 (List.mem_of_getElem? (i := 186) rfl)) (by decide +kernel)), (tG_of (tb6 (List.mem_of_getElem? (i := 187) rfl)) (by decide +kernel)), (tG_of (tb1 (List.mem_of_getElem? (i := 12) rfl)) (by decide +kernel)), (tG_of (tb6 (List.mem_of_getElem? (i := 188) rfl)) (by decide +kernel)), ⟨by decide, by decide, by decide +kernel⟩, by decide⟩
theorem dX11_way_0 : decode cX11_way 0 = .ok (.aload_n 0, 1) := dc_42 (byA eNcX11_way (p := 0) (v := 42) (by decide +kernel))
theorem dX11_way_1 : decode cX11_way 1 = .ok (.iload_n 1, 1) := dc_27 (byA eNcX11_way (p := 1) (v := 27) (by decide +kernel))
theorem dX11_way_2 : decode cX11_way 2 = .ok (.invokevirtual 290, 3) := dc_182 (byA eNcX11_way (p := 2) (v := 182) (by decide +kernel)) (byA eNcX11_way (p := 3) (v := 1) (by decide +kernel)) (byA eNcX11_way (p := 4) (v := 34) (by decide +kernel)) rfl
theorem dX11_way_5 : decode cX11_way 5 = .ok (.ifCond .eq 11, 3) := dc_153 (byA eNcX11_way (p := 5) (v := 153) (by decide +kernel)) (byA eNcX11_way (p := 6) (v := 0) (by decide +kernel)) (byA eNcX11_way (p := 7) (v := 11) (by decide +kernel)) (by decide +kernel)
theorem dX11_way_8 : decode cX11_way 8 = .ok (.aload_n 0, 1) := dc_42 (byA eNcX11_way (p := 8) (v := 42) (by decide +kernel))
theorem dX11_way_9 : decode cX11_way 9 = .ok (.iload_n 2, 1) := dc_28 (byA eNcX11_way (p := 9) (v := 28) (by decide +kernel))
theorem dX11_way_10 : decode cX11_way 10 = .ok (.invokevirtual 290, 3) := dc_182 (byA eNcX11_way (p := 10) (v := 182) (by decide +kernel)) (byA eNcX11_way (p := 11) (v := 1) (by decide +kernel)) (byA eNcX11_way (p := 12) (v := 34) (by decide +kernel)) rfl
theorem dX11_way_13 : decode cX11_way 13 = .ok (.ifCond .ne 5, 3) := dc_154 (byA eNcX11_way (p := 13) (v := 154) (by decide +kernel)) (byA eNcX11_way (p := 14) (v := 0) (by decide +kernel)) (byA eNcX11_way (p := 15) (v := 5) (by decide +kernel)) (by decide +kernel)
theorem dX11_way_16 : decode cX11_way 16 = .ok (.iconst (-1), 1) := dc_2 (byA eNcX11_way (p := 16) (v := 2) (by decide +kernel))
theorem dX11_way_17 : decode cX11_way 17 = .ok (.ireturn, 1) := dc_172 (byA eNcX11_way (p := 17) (v := 172) (by decide +kernel))
theorem dX11_way_18 : decode cX11_way 18 = .ok (.aload_n 0, 1) := dc_42 (byA eNcX11_way (p := 18) (v := 42) (by decide +kernel))
theorem dX11_way_19 : decode cX11_way 19 = .ok (.iload_n 1, 1) := dc_27 (byA eNcX11_way (p := 19) (v := 27) (by decide +kernel))
theorem dX11_way_20 : decode cX11_way 20 = .ok (.invokevirtual 293, 3) := dc_182 (byA eNcX11_way (p := 20) (v := 182) (by decide +kernel)) (byA eNcX11_way (p := 21) (v := 1) (by decide +kernel)) (byA eNcX11_way (p := 22) (v := 37) (by decide +kernel)) rfl
theorem dX11_way_23 : decode cX11_way 23 = .ok (.aload_n 0, 1) := dc_42 (byA eNcX11_way (p := 23) (v := 42) (by decide +kernel))
theorem dX11_way_24 : decode cX11_way 24 = .ok (.getfield 65, 3) := dc_180 (byA eNcX11_way (p := 24) (v := 180) (by decide +kernel)) (byA eNcX11_way (p := 25) (v := 0) (by decide +kernel)) (byA eNcX11_way (p := 26) (v := 65) (by decide +kernel)) rfl
theorem dX11_way_27 : decode cX11_way 27 = .ok (.iload_n 2, 1) := dc_28 (byA eNcX11_way (p := 27) (v := 28) (by decide +kernel))
theorem dX11_way_28 : decode cX11_way 28 = .ok (.iaload, 1) := dc_46 (byA eNcX11_way (p := 28) (v := 46) (by decide +kernel))
theorem dX11_way_29 : decode cX11_way 29 = .ok (.ireturn, 1) := dc_172 (byA eNcX11_way (p := 29) (v := 172) (by decide +kernel))
def X11_way (l1 : Int) (l2 : Int) (μ : Mm) : Rs := bd (X11_isOpen l1 μ) fun v1 μ2 => if v1 = 0 then (some ((-1), μ2)) else (bd (X11_isOpen l2 μ2) fun v5 μ6 => if v5 = 0 then (some ((-1), μ6)) else (bd (X11_spread l1 μ6) fun v9 μ10 => ldA μ10 87 l2 fun v12 => some (v12, μ10)))
set_option maxHeartbeats 4000000 in
set_option maxRecDepth 100000 in
theorem kX11_way (d : Nat) (hd : 4 ≤ d) {l1 : Int} {l2 : Int} {μ : Mm} {r : Int} {μ' : Mm} (h : X11_way l1 l2 μ = some (r, μ')) : CC d mX11_way [vR 70, vI l1, vI l2] μ r μ' := by
  unfold X11_way at h
  refine V_enter (by decide) (Nat.le_of_ble_eq_true rfl) ?_
  show VV d mX11_way 0 [some (vR 70), some (vI l1), some (vI l2)] [] μ r μ'
  refine V_aload_n (q := 1) dX11_way_0 rfl rfl rfl ?_
  refine V_iload_n (q := 2) dX11_way_1 rfl rfl rfl ?_
  obtain ⟨v1, μ2, hc3, h⟩ := bd_i h
  refine V_cV1 (q := 5) (v := vI v1) (kX11_isOpen (d - 1) (by omega) hc3) (by omega) mv_X11_290 rfl rfl rfl rfl rfl rfl dX11_way_2 rfl ?_
  refine V_ifeq (q := 16) (q2 := 8) dX11_way_5 (by decide) rfl (fun hc4 => ?_) (fun hc4 => ?_)
  · have h := ifT hc4 h
    refine V_iconst (q := 17) dX11_way_16 rfl rfl ?_
    exact V_iret rfl h dX11_way_17
  · have h := ifF hc4 h
    refine V_aload_n (q := 9) dX11_way_8 rfl rfl rfl ?_
    refine V_iload_n (q := 10) dX11_way_9 rfl rfl rfl ?_
    obtain ⟨v5, μ6, hc7, h⟩ := bd_i h
    refine V_cV1 (q := 13) (v := vI v5) (kX11_isOpen (d - 1) (by omega) hc7) (by omega) mv_X11_290 rfl rfl rfl rfl rfl rfl dX11_way_10 rfl ?_
    refine V_ifne (q := 18) (q2 := 16) dX11_way_13 (by decide) rfl (fun hc8 => ?_) (fun hc8 => ?_)
    · have h := ifF hc8 h
      refine V_aload_n (q := 19) dX11_way_18 rfl rfl rfl ?_
      refine V_iload_n (q := 20) dX11_way_19 rfl rfl rfl ?_
      obtain ⟨v9, μ10, hc11, h⟩ := bd_i h
      refine V_cV0 (q := 23) (kX11_spread (d - 1) (by omega) hc11) (by omega) mv_X11_293 rfl rfl rfl rfl rfl rfl dX11_way_20 rfl ?_
      refine V_aload_n (q := 24) dX11_way_23 rfl rfl rfl ?_
      refine V_getO (q := 27) (t := 87) fl_X11_65 rfl rfl rfl rfl dX11_way_24 rfl ?_
      refine V_iload_n (q := 28) dX11_way_27 rfl rfl rfl ?_
      obtain ⟨hi13, h⟩ := ldA_i h
      refine V_iaload (q := 29) rfl hi13 dX11_way_28 rfl ?_
      exact V_iret rfl h dX11_way_29
    · have h := ifT hc8 h
      refine V_iconst (q := 17) dX11_way_16 rfl rfl ?_
      exact V_iret rfl h dX11_way_17
abbrev mX11_isPlay : Mth := (yX11_isPlay, cX11_isPlay, 2, some .boolean)
set_option maxRecDepth 100000 in
theorem mi_X11_isPlay : Cond.instanceMethod yX11_isPlay ∈ tG ∧ Cond.selects yX11_isPlay.cls yX11_isPlay yX11_isPlay ∈ tG ∧ Cond.initialized yX11_isPlay.cls ∈ tG ∧ Cond.code yX11_isPlay cX11_isPlay 2 (some .boolean) ∈ tG ∧ (yX11_isPlay.cls ≠ "java/lang/invoke/MethodHandle" ∧ yX11_isPlay.cls ≠ "java/lang/invoke/VarHandle" ∧ (parseMethodDescriptor yX11_isPlay.desc).map (fun d => d.parameters.length) = some 1) ∧ 2 ≤ 60 := ⟨(tG_of (tb6 (List.mem_of_getElem? (i := 207) rfl)) (by decide +kernel)), (tG_of (List.mem_of_getElem? (i := 77) (by decide +kernel)) (by decide +kernel)), (tG_of (tb1 (List.mem_of_getElem? (i := 12) rfl)) (by decide +kernel)), (tG_of (tb6 (List.mem_of_getElem? (i := 208) rfl)) (by decide +kernel)), ⟨by decide, by decide, by decide +kernel⟩, by decide⟩
set_option maxRecDepth 100000 in
theorem mv_X11_304 : mV RX11 304 mX11_isPlay 1 := ⟨(tG_of (tb6 (List.mem_of_getElem? (i := 205) rfl)) (by decide +kernel)), mi_X11_isPlay⟩
theorem dX11_isPlay_0 : decode cX11_isPlay 0 = .ok (.iload_n 1, 1) := dc_27 (byA eNcX11_isPlay (p := 0) (v := 27) (by decide +kernel))
theorem dX11_isPlay_1 : decode cX11_isPlay 1 = .ok (.iconst 0, 1) := dc_3 (byA eNcX11_isPlay (p := 1) (v := 3) (by decide +kernel))
theorem dX11_isPlay_2 : decode cX11_isPlay 2 = .ok (.aload_n 0, 1) := dc_42 (byA eNcX11_isPlay (p := 2) (v := 42) (by decide +kernel))
theorem dX11_isPlay_3 : decode cX11_isPlay 3 = .ok (.getfield 275, 3) := dc_180 (byA eNcX11_isPlay (p := 3) (v := 180) (by decide +kernel)) (byA eNcX11_isPlay (p := 4) (v := 1) (by decide +kernel)) (byA eNcX11_isPlay (p := 5) (v := 19) (by decide +kernel)) rfl
theorem dX11_isPlay_6 : decode cX11_isPlay 6 = .ok (.iconst 1, 1) := dc_4 (byA eNcX11_isPlay (p := 6) (v := 4) (by decide +kernel))
theorem dX11_isPlay_7 : decode cX11_isPlay 7 = .ok (.isub, 1) := dc_100 (byA eNcX11_isPlay (p := 7) (v := 100) (by decide +kernel))
theorem dX11_isPlay_8 : decode cX11_isPlay 8 = .ok (.invokestatic 213, 3) := dc_184 (byA eNcX11_isPlay (p := 8) (v := 184) (by decide +kernel)) (byA eNcX11_isPlay (p := 9) (v := 0) (by decide +kernel)) (byA eNcX11_isPlay (p := 10) (v := 213) (by decide +kernel)) rfl
theorem dX11_isPlay_11 : decode cX11_isPlay 11 = .ok (.ireturn, 1) := dc_172 (byA eNcX11_isPlay (p := 11) (v := 172) (by decide +kernel))
def X11_isPlay (l1 : Int) (μ : Mm) : Rs := bd (X11_in l1 0 (iS (μ 70 28) 1) μ) fun v1 μ2 => rZ v1 μ2
set_option maxHeartbeats 4000000 in
set_option maxRecDepth 100000 in
theorem kX11_isPlay (d : Nat) (hd : 2 ≤ d) {l1 : Int} {μ : Mm} {r : Int} {μ' : Mm} (h : X11_isPlay l1 μ = some (r, μ')) : CC d mX11_isPlay [vR 70, vI l1] μ r μ' := by
  unfold X11_isPlay at h
  refine V_enter (by decide) (Nat.le_of_ble_eq_true rfl) ?_
  show VV d mX11_isPlay 0 [some (vR 70), some (vI l1)] [] μ r μ'
  refine V_iload_n (q := 1) dX11_isPlay_0 rfl rfl rfl ?_
  refine V_iconst (q := 2) dX11_isPlay_1 rfl rfl ?_
  refine V_aload_n (q := 3) dX11_isPlay_2 rfl rfl rfl ?_
  refine V_getI (q := 6) fl_X11_275 rfl rfl rfl dX11_isPlay_3 rfl ?_
  refine V_iconst (q := 7) dX11_isPlay_6 rfl rfl ?_
  refine V_isub (q := 8) dX11_isPlay_7 rfl ?_
  obtain ⟨v1, μ2, hc3, h⟩ := bd_i h
  refine V_cS1 (q := 11) (v := vI v1) (kX11_in (d - 1) (by omega) hc3) (by omega) mv_X11_213 rfl rfl rfl rfl dX11_isPlay_8 rfl ?_
  obtain ⟨hz4, h⟩ := rZ_i h
  exact V_zret rfl hz4 h dX11_isPlay_11
abbrev mX11_layTimes : Mth := (yX11_layTimes, cX11_layTimes, 5, none)
set_option maxRecDepth 100000 in
theorem mi_X11_layTimes : Cond.instanceMethod yX11_layTimes ∈ tG ∧ Cond.selects yX11_layTimes.cls yX11_layTimes yX11_layTimes ∈ tG ∧ Cond.initialized yX11_layTimes.cls ∈ tG ∧ Cond.code yX11_layTimes cX11_layTimes 5 (none) ∈ tG ∧ (yX11_layTimes.cls ≠ "java/lang/invoke/MethodHandle" ∧ yX11_layTimes.cls ≠ "java/lang/invoke/VarHandle" ∧ (parseMethodDescriptor yX11_layTimes.desc).map (fun d => d.parameters.length) = some 2) ∧ 5 ≤ 60 := ⟨(tG_of (tb6 (List.mem_of_getElem? (i := 211) rfl)) (by decide +kernel)), (tG_of (List.mem_of_getElem? (i := 78) (by decide +kernel)) (by decide +kernel)), (tG_of (tb1 (List.mem_of_getElem? (i := 12) rfl)) (by decide +kernel)), (tG_of (tb6 (List.mem_of_getElem? (i := 212) rfl)) (by decide +kernel)), ⟨by decide, by decide, by decide +kernel⟩, by decide⟩
set_option maxRecDepth 100000 in
theorem mv_X11_310 : mV RX11 310 mX11_layTimes 2 := ⟨(tG_of (tb6 (List.mem_of_getElem? (i := 209) rfl)) (by decide +kernel)), mi_X11_layTimes⟩
theorem dX11_layTimes_0 : decode cX11_layTimes 0 = .ok (.iconst 0, 1) := dc_3 (byA eNcX11_layTimes (p := 0) (v := 3) (by decide +kernel))
theorem dX11_layTimes_1 : decode cX11_layTimes 1 = .ok (.istore_n 3, 1) := dc_62 (byA eNcX11_layTimes (p := 1) (v := 62) (by decide +kernel))
theorem dX11_layTimes_2 : decode cX11_layTimes 2 = .ok (.iload_n 3, 1) := dc_29 (byA eNcX11_layTimes (p := 2) (v := 29) (by decide +kernel))
theorem dX11_layTimes_3 : decode cX11_layTimes 3 = .ok (.aload_n 0, 1) := dc_42 (byA eNcX11_layTimes (p := 3) (v := 42) (by decide +kernel))
theorem dX11_layTimes_4 : decode cX11_layTimes 4 = .ok (.getfield 52, 3) := dc_180 (byA eNcX11_layTimes (p := 4) (v := 180) (by decide +kernel)) (byA eNcX11_layTimes (p := 5) (v := 0) (by decide +kernel)) (byA eNcX11_layTimes (p := 6) (v := 52) (by decide +kernel)) rfl
theorem dX11_layTimes_7 : decode cX11_layTimes 7 = .ok (.iload_n 1, 1) := dc_27 (byA eNcX11_layTimes (p := 7) (v := 27) (by decide +kernel))
theorem dX11_layTimes_8 : decode cX11_layTimes 8 = .ok (.iaload, 1) := dc_46 (byA eNcX11_layTimes (p := 8) (v := 46) (by decide +kernel))
theorem dX11_layTimes_9 : decode cX11_layTimes 9 = .ok (.if_icmp .ge 131, 3) := dc_162 (byA eNcX11_layTimes (p := 9) (v := 162) (by decide +kernel)) (byA eNcX11_layTimes (p := 10) (v := 0) (by decide +kernel)) (byA eNcX11_layTimes (p := 11) (v := 131) (by decide +kernel)) (by decide +kernel)
theorem dX11_layTimes_12 : decode cX11_layTimes 12 = .ok (.aload_n 0, 1) := dc_42 (byA eNcX11_layTimes (p := 12) (v := 42) (by decide +kernel))
theorem dX11_layTimes_13 : decode cX11_layTimes 13 = .ok (.getfield 49, 3) := dc_180 (byA eNcX11_layTimes (p := 13) (v := 180) (by decide +kernel)) (byA eNcX11_layTimes (p := 14) (v := 0) (by decide +kernel)) (byA eNcX11_layTimes (p := 15) (v := 49) (by decide +kernel)) rfl
theorem dX11_layTimes_16 : decode cX11_layTimes 16 = .ok (.bipush 8, 2) := dc_16 (byA eNcX11_layTimes (p := 16) (v := 16) (by decide +kernel)) (byA eNcX11_layTimes (p := 17) (v := 8) (by decide +kernel)) (by decide +kernel)
theorem dX11_layTimes_18 : decode cX11_layTimes 18 = .ok (.iload_n 1, 1) := dc_27 (byA eNcX11_layTimes (p := 18) (v := 27) (by decide +kernel))
theorem dX11_layTimes_19 : decode cX11_layTimes 19 = .ok (.imul, 1) := dc_104 (byA eNcX11_layTimes (p := 19) (v := 104) (by decide +kernel))
theorem dX11_layTimes_20 : decode cX11_layTimes 20 = .ok (.iload_n 3, 1) := dc_29 (byA eNcX11_layTimes (p := 20) (v := 29) (by decide +kernel))
theorem dX11_layTimes_21 : decode cX11_layTimes 21 = .ok (.iadd, 1) := dc_96 (byA eNcX11_layTimes (p := 21) (v := 96) (by decide +kernel))
theorem dX11_layTimes_22 : decode cX11_layTimes 22 = .ok (.iaload, 1) := dc_46 (byA eNcX11_layTimes (p := 22) (v := 46) (by decide +kernel))
theorem dX11_layTimes_23 : decode cX11_layTimes 23 = .ok (.istore 4, 2) := dc_54 (byA eNcX11_layTimes (p := 23) (v := 54) (by decide +kernel)) (byA eNcX11_layTimes (p := 24) (v := 4) (by decide +kernel))
theorem dX11_layTimes_25 : decode cX11_layTimes 25 = .ok (.aload_n 0, 1) := dc_42 (byA eNcX11_layTimes (p := 25) (v := 42) (by decide +kernel))
theorem dX11_layTimes_26 : decode cX11_layTimes 26 = .ok (.getfield 62, 3) := dc_180 (byA eNcX11_layTimes (p := 26) (v := 180) (by decide +kernel)) (byA eNcX11_layTimes (p := 27) (v := 0) (by decide +kernel)) (byA eNcX11_layTimes (p := 28) (v := 62) (by decide +kernel)) rfl
theorem dX11_layTimes_29 : decode cX11_layTimes 29 = .ok (.iconst (-1), 1) := dc_2 (byA eNcX11_layTimes (p := 29) (v := 2) (by decide +kernel))
theorem dX11_layTimes_30 : decode cX11_layTimes 30 = .ok (.if_icmp .eq 77, 3) := dc_159 (byA eNcX11_layTimes (p := 30) (v := 159) (by decide +kernel)) (byA eNcX11_layTimes (p := 31) (v := 0) (by decide +kernel)) (byA eNcX11_layTimes (p := 32) (v := 77) (by decide +kernel)) (by decide +kernel)
theorem dX11_layTimes_33 : decode cX11_layTimes 33 = .ok (.aload_n 0, 1) := dc_42 (byA eNcX11_layTimes (p := 33) (v := 42) (by decide +kernel))
theorem dX11_layTimes_34 : decode cX11_layTimes 34 = .ok (.getfield 34, 3) := dc_180 (byA eNcX11_layTimes (p := 34) (v := 180) (by decide +kernel)) (byA eNcX11_layTimes (p := 35) (v := 0) (by decide +kernel)) (byA eNcX11_layTimes (p := 36) (v := 34) (by decide +kernel)) rfl
theorem dX11_layTimes_37 : decode cX11_layTimes 37 = .ok (.iconst 0, 1) := dc_3 (byA eNcX11_layTimes (p := 37) (v := 3) (by decide +kernel))
theorem dX11_layTimes_38 : decode cX11_layTimes 38 = .ok (.iload 4, 2) := dc_21 (byA eNcX11_layTimes (p := 38) (v := 21) (by decide +kernel)) (byA eNcX11_layTimes (p := 39) (v := 4) (by decide +kernel))
theorem dX11_layTimes_40 : decode cX11_layTimes 40 = .ok (.iastore, 1) := dc_79 (byA eNcX11_layTimes (p := 40) (v := 79) (by decide +kernel))
theorem dX11_layTimes_41 : decode cX11_layTimes 41 = .ok (.aload_n 0, 1) := dc_42 (byA eNcX11_layTimes (p := 41) (v := 42) (by decide +kernel))
theorem dX11_layTimes_42 : decode cX11_layTimes 42 = .ok (.getfield 34, 3) := dc_180 (byA eNcX11_layTimes (p := 42) (v := 180) (by decide +kernel)) (byA eNcX11_layTimes (p := 43) (v := 0) (by decide +kernel)) (byA eNcX11_layTimes (p := 44) (v := 34) (by decide +kernel)) rfl
theorem dX11_layTimes_45 : decode cX11_layTimes 45 = .ok (.iconst 1, 1) := dc_4 (byA eNcX11_layTimes (p := 45) (v := 4) (by decide +kernel))
theorem dX11_layTimes_46 : decode cX11_layTimes 46 = .ok (.iload_n 3, 1) := dc_29 (byA eNcX11_layTimes (p := 46) (v := 29) (by decide +kernel))
theorem dX11_layTimes_47 : decode cX11_layTimes 47 = .ok (.iastore, 1) := dc_79 (byA eNcX11_layTimes (p := 47) (v := 79) (by decide +kernel))
theorem dX11_layTimes_48 : decode cX11_layTimes 48 = .ok (.aload_n 0, 1) := dc_42 (byA eNcX11_layTimes (p := 48) (v := 42) (by decide +kernel))
theorem dX11_layTimes_49 : decode cX11_layTimes 49 = .ok (.getfield 34, 3) := dc_180 (byA eNcX11_layTimes (p := 49) (v := 180) (by decide +kernel)) (byA eNcX11_layTimes (p := 50) (v := 0) (by decide +kernel)) (byA eNcX11_layTimes (p := 51) (v := 34) (by decide +kernel)) rfl
theorem dX11_layTimes_52 : decode cX11_layTimes 52 = .ok (.iconst 2, 1) := dc_5 (byA eNcX11_layTimes (p := 52) (v := 5) (by decide +kernel))
theorem dX11_layTimes_53 : decode cX11_layTimes 53 = .ok (.iload_n 2, 1) := dc_28 (byA eNcX11_layTimes (p := 53) (v := 28) (by decide +kernel))
theorem dX11_layTimes_54 : decode cX11_layTimes 54 = .ok (.iastore, 1) := dc_79 (byA eNcX11_layTimes (p := 54) (v := 79) (by decide +kernel))
theorem dX11_layTimes_55 : decode cX11_layTimes 55 = .ok (.aload_n 0, 1) := dc_42 (byA eNcX11_layTimes (p := 55) (v := 42) (by decide +kernel))
theorem dX11_layTimes_56 : decode cX11_layTimes 56 = .ok (.getfield 34, 3) := dc_180 (byA eNcX11_layTimes (p := 56) (v := 180) (by decide +kernel)) (byA eNcX11_layTimes (p := 57) (v := 0) (by decide +kernel)) (byA eNcX11_layTimes (p := 58) (v := 34) (by decide +kernel)) rfl
theorem dX11_layTimes_59 : decode cX11_layTimes 59 = .ok (.iconst 3, 1) := dc_6 (byA eNcX11_layTimes (p := 59) (v := 6) (by decide +kernel))
theorem dX11_layTimes_60 : decode cX11_layTimes 60 = .ok (.aload_n 0, 1) := dc_42 (byA eNcX11_layTimes (p := 60) (v := 42) (by decide +kernel))
theorem dX11_layTimes_61 : decode cX11_layTimes 61 = .ok (.getfield 46, 3) := dc_180 (byA eNcX11_layTimes (p := 61) (v := 180) (by decide +kernel)) (byA eNcX11_layTimes (p := 62) (v := 0) (by decide +kernel)) (byA eNcX11_layTimes (p := 63) (v := 46) (by decide +kernel)) rfl
theorem dX11_layTimes_64 : decode cX11_layTimes 64 = .ok (.bipush 8, 2) := dc_16 (byA eNcX11_layTimes (p := 64) (v := 16) (by decide +kernel)) (byA eNcX11_layTimes (p := 65) (v := 8) (by decide +kernel)) (by decide +kernel)
theorem dX11_layTimes_66 : decode cX11_layTimes 66 = .ok (.iload_n 1, 1) := dc_27 (byA eNcX11_layTimes (p := 66) (v := 27) (by decide +kernel))
theorem dX11_layTimes_67 : decode cX11_layTimes 67 = .ok (.imul, 1) := dc_104 (byA eNcX11_layTimes (p := 67) (v := 104) (by decide +kernel))
theorem dX11_layTimes_68 : decode cX11_layTimes 68 = .ok (.iload_n 3, 1) := dc_29 (byA eNcX11_layTimes (p := 68) (v := 29) (by decide +kernel))
theorem dX11_layTimes_69 : decode cX11_layTimes 69 = .ok (.iadd, 1) := dc_96 (byA eNcX11_layTimes (p := 69) (v := 96) (by decide +kernel))
theorem dX11_layTimes_70 : decode cX11_layTimes 70 = .ok (.iaload, 1) := dc_46 (byA eNcX11_layTimes (p := 70) (v := 46) (by decide +kernel))
theorem dX11_layTimes_71 : decode cX11_layTimes 71 = .ok (.iastore, 1) := dc_79 (byA eNcX11_layTimes (p := 71) (v := 79) (by decide +kernel))
theorem dX11_layTimes_72 : decode cX11_layTimes 72 = .ok (.aload_n 0, 1) := dc_42 (byA eNcX11_layTimes (p := 72) (v := 42) (by decide +kernel))
theorem dX11_layTimes_73 : decode cX11_layTimes 73 = .ok (.getfield 34, 3) := dc_180 (byA eNcX11_layTimes (p := 73) (v := 180) (by decide +kernel)) (byA eNcX11_layTimes (p := 74) (v := 0) (by decide +kernel)) (byA eNcX11_layTimes (p := 75) (v := 34) (by decide +kernel)) rfl
theorem dX11_layTimes_76 : decode cX11_layTimes 76 = .ok (.iconst 4, 1) := dc_7 (byA eNcX11_layTimes (p := 76) (v := 7) (by decide +kernel))
theorem dX11_layTimes_77 : decode cX11_layTimes 77 = .ok (.aload_n 0, 1) := dc_42 (byA eNcX11_layTimes (p := 77) (v := 42) (by decide +kernel))
theorem dX11_layTimes_78 : decode cX11_layTimes 78 = .ok (.getfield 52, 3) := dc_180 (byA eNcX11_layTimes (p := 78) (v := 180) (by decide +kernel)) (byA eNcX11_layTimes (p := 79) (v := 0) (by decide +kernel)) (byA eNcX11_layTimes (p := 80) (v := 52) (by decide +kernel)) rfl
theorem dX11_layTimes_81 : decode cX11_layTimes 81 = .ok (.iload_n 1, 1) := dc_27 (byA eNcX11_layTimes (p := 81) (v := 27) (by decide +kernel))
theorem dX11_layTimes_82 : decode cX11_layTimes 82 = .ok (.iaload, 1) := dc_46 (byA eNcX11_layTimes (p := 82) (v := 46) (by decide +kernel))
theorem dX11_layTimes_83 : decode cX11_layTimes 83 = .ok (.iastore, 1) := dc_79 (byA eNcX11_layTimes (p := 83) (v := 79) (by decide +kernel))
theorem dX11_layTimes_84 : decode cX11_layTimes 84 = .ok (.iload 4, 2) := dc_21 (byA eNcX11_layTimes (p := 84) (v := 21) (by decide +kernel)) (byA eNcX11_layTimes (p := 85) (v := 4) (by decide +kernel))
theorem dX11_layTimes_86 : decode cX11_layTimes 86 = .ok (.bipush (-99), 2) := dc_16 (byA eNcX11_layTimes (p := 86) (v := 16) (by decide +kernel)) (byA eNcX11_layTimes (p := 87) (v := 157) (by decide +kernel)) (by decide +kernel)
theorem dX11_layTimes_88 : decode cX11_layTimes 88 = .ok (.bipush 99, 2) := dc_16 (byA eNcX11_layTimes (p := 88) (v := 16) (by decide +kernel)) (byA eNcX11_layTimes (p := 89) (v := 99) (by decide +kernel)) (by decide +kernel)
theorem dX11_layTimes_90 : decode cX11_layTimes 90 = .ok (.aload_n 0, 1) := dc_42 (byA eNcX11_layTimes (p := 90) (v := 42) (by decide +kernel))
theorem dX11_layTimes_91 : decode cX11_layTimes 91 = .ok (.aload_n 0, 1) := dc_42 (byA eNcX11_layTimes (p := 91) (v := 42) (by decide +kernel))
theorem dX11_layTimes_92 : decode cX11_layTimes 92 = .ok (.getfield 62, 3) := dc_180 (byA eNcX11_layTimes (p := 92) (v := 180) (by decide +kernel)) (byA eNcX11_layTimes (p := 93) (v := 0) (by decide +kernel)) (byA eNcX11_layTimes (p := 94) (v := 62) (by decide +kernel)) rfl
theorem dX11_layTimes_95 : decode cX11_layTimes 95 = .ok (.invokevirtual 296, 3) := dc_182 (byA eNcX11_layTimes (p := 95) (v := 182) (by decide +kernel)) (byA eNcX11_layTimes (p := 96) (v := 1) (by decide +kernel)) (byA eNcX11_layTimes (p := 97) (v := 40) (by decide +kernel)) rfl
theorem dX11_layTimes_98 : decode cX11_layTimes 98 = .ok (.invokestatic 299, 3) := dc_184 (byA eNcX11_layTimes (p := 98) (v := 184) (by decide +kernel)) (byA eNcX11_layTimes (p := 99) (v := 1) (by decide +kernel)) (byA eNcX11_layTimes (p := 100) (v := 43) (by decide +kernel)) rfl
theorem dX11_layTimes_101 : decode cX11_layTimes 101 = .ok (.invokestatic 302, 3) := dc_184 (byA eNcX11_layTimes (p := 101) (v := 184) (by decide +kernel)) (byA eNcX11_layTimes (p := 102) (v := 1) (by decide +kernel)) (byA eNcX11_layTimes (p := 103) (v := 46) (by decide +kernel)) rfl
theorem dX11_layTimes_104 : decode cX11_layTimes 104 = .ok (.iadd, 1) := dc_96 (byA eNcX11_layTimes (p := 104) (v := 96) (by decide +kernel))
theorem dX11_layTimes_105 : decode cX11_layTimes 105 = .ok (.istore 4, 2) := dc_54 (byA eNcX11_layTimes (p := 105) (v := 54) (by decide +kernel)) (byA eNcX11_layTimes (p := 106) (v := 4) (by decide +kernel))
theorem dX11_layTimes_107 : decode cX11_layTimes 107 = .ok (.aload_n 0, 1) := dc_42 (byA eNcX11_layTimes (p := 107) (v := 42) (by decide +kernel))
theorem dX11_layTimes_108 : decode cX11_layTimes 108 = .ok (.getfield 68, 3) := dc_180 (byA eNcX11_layTimes (p := 108) (v := 180) (by decide +kernel)) (byA eNcX11_layTimes (p := 109) (v := 0) (by decide +kernel)) (byA eNcX11_layTimes (p := 110) (v := 68) (by decide +kernel)) rfl
theorem dX11_layTimes_111 : decode cX11_layTimes 111 = .ok (.iload_n 3, 1) := dc_29 (byA eNcX11_layTimes (p := 111) (v := 29) (by decide +kernel))
theorem dX11_layTimes_112 : decode cX11_layTimes 112 = .ok (.iload_n 3, 1) := dc_29 (byA eNcX11_layTimes (p := 112) (v := 29) (by decide +kernel))
theorem dX11_layTimes_113 : decode cX11_layTimes 113 = .ok (.ifCond .ne 7, 3) := dc_154 (byA eNcX11_layTimes (p := 113) (v := 154) (by decide +kernel)) (byA eNcX11_layTimes (p := 114) (v := 0) (by decide +kernel)) (byA eNcX11_layTimes (p := 115) (v := 7) (by decide +kernel)) (by decide +kernel)
theorem dX11_layTimes_116 : decode cX11_layTimes 116 = .ok (.iconst 0, 1) := dc_3 (byA eNcX11_layTimes (p := 116) (v := 3) (by decide +kernel))
theorem dX11_layTimes_117 : decode cX11_layTimes 117 = .ok (.goto 11, 3) := dc_167 (byA eNcX11_layTimes (p := 117) (v := 167) (by decide +kernel)) (byA eNcX11_layTimes (p := 118) (v := 0) (by decide +kernel)) (byA eNcX11_layTimes (p := 119) (v := 11) (by decide +kernel)) (by decide +kernel)
theorem dX11_layTimes_120 : decode cX11_layTimes 120 = .ok (.aload_n 0, 1) := dc_42 (byA eNcX11_layTimes (p := 120) (v := 42) (by decide +kernel))
theorem dX11_layTimes_121 : decode cX11_layTimes 121 = .ok (.getfield 68, 3) := dc_180 (byA eNcX11_layTimes (p := 121) (v := 180) (by decide +kernel)) (byA eNcX11_layTimes (p := 122) (v := 0) (by decide +kernel)) (byA eNcX11_layTimes (p := 123) (v := 68) (by decide +kernel)) rfl
theorem dX11_layTimes_124 : decode cX11_layTimes 124 = .ok (.iload_n 3, 1) := dc_29 (byA eNcX11_layTimes (p := 124) (v := 29) (by decide +kernel))
theorem dX11_layTimes_125 : decode cX11_layTimes 125 = .ok (.iconst 1, 1) := dc_4 (byA eNcX11_layTimes (p := 125) (v := 4) (by decide +kernel))
theorem dX11_layTimes_126 : decode cX11_layTimes 126 = .ok (.isub, 1) := dc_100 (byA eNcX11_layTimes (p := 126) (v := 100) (by decide +kernel))
theorem dX11_layTimes_127 : decode cX11_layTimes 127 = .ok (.iaload, 1) := dc_46 (byA eNcX11_layTimes (p := 127) (v := 46) (by decide +kernel))
theorem dX11_layTimes_128 : decode cX11_layTimes 128 = .ok (.iload 4, 2) := dc_21 (byA eNcX11_layTimes (p := 128) (v := 21) (by decide +kernel)) (byA eNcX11_layTimes (p := 129) (v := 4) (by decide +kernel))
theorem dX11_layTimes_130 : decode cX11_layTimes 130 = .ok (.invokestatic 302, 3) := dc_184 (byA eNcX11_layTimes (p := 130) (v := 184) (by decide +kernel)) (byA eNcX11_layTimes (p := 131) (v := 1) (by decide +kernel)) (byA eNcX11_layTimes (p := 132) (v := 46) (by decide +kernel)) rfl
theorem dX11_layTimes_133 : decode cX11_layTimes 133 = .ok (.iastore, 1) := dc_79 (byA eNcX11_layTimes (p := 133) (v := 79) (by decide +kernel))
theorem dX11_layTimes_134 : decode cX11_layTimes 134 = .ok (.iinc 3 1, 3) := dc_132 (byA eNcX11_layTimes (p := 134) (v := 132) (by decide +kernel)) (byA eNcX11_layTimes (p := 135) (v := 3) (by decide +kernel)) (byA eNcX11_layTimes (p := 136) (v := 1) (by decide +kernel)) (by decide +kernel)
theorem dX11_layTimes_137 : decode cX11_layTimes 137 = .ok (.goto (-135), 3) := dc_167 (byA eNcX11_layTimes (p := 137) (v := 167) (by decide +kernel)) (byA eNcX11_layTimes (p := 138) (v := 255) (by decide +kernel)) (byA eNcX11_layTimes (p := 139) (v := 121) (by decide +kernel)) (by decide +kernel)
theorem dX11_layTimes_140 : decode cX11_layTimes 140 = .ok (.return_, 1) := dc_177 (byA eNcX11_layTimes (p := 140) (v := 177) (by decide +kernel))
def X11_layTimes_J107 (k2 : Int → Mm → Rs) (l1 : Int) (l2 : Int) (l3 : Int) (l4 : Int) (μ : Mm) : Rs := if l3 = 0 then (stA μ 88 l3 (mX 0 l4) fun μ12 => k2 (iA l3 1) μ12) else (ldA μ 88 (iS l3 1) fun v8 => stA μ 88 l3 (mX v8 l4) fun μ10 => k2 (iA l3 1) μ10)
def X11_layTimes_L2 (l1 : Int) (l2 : Int) : Nat → Int → Mm → Rs
  | 0, _, _ => none
  | n + 1, l3, μ => ldA μ 85 l1 fun v1 => if v1 ≤ l3 then (some (0, μ)) else (ldA μ 84 (iA (iM 8 l1) l3) fun v4 => if (μ 70 32) = (-1) then (X11_layTimes_J107 (fun w3 μq => X11_layTimes_L2 l1 l2 n w3 μq) l1 l2 l3 v4 μ) else (stA μ 79 0 v4 fun μ14 => stA μ14 79 1 l3 fun μ16 => stA μ16 79 2 l2 fun μ18 => ldA μ18 83 (iA (iM 8 l1) l3) fun v20 => stA μ18 79 3 v20 fun μ22 => ldA μ22 85 l1 fun v24 => stA μ22 79 4 v24 fun μ26 => bd (X11_worthOf (μ26 70 32) μ26) fun v28 μ29 => lt_ (iA v4 (mX (-99) (mN 99 v28))) fun v31 => X11_layTimes_J107 (fun w3 μq => X11_layTimes_L2 l1 l2 n w3 μq) l1 l2 l3 v31 μ29))
def X11_layTimes (l1 : Int) (l2 : Int) (μ : Mm) : Rs := X11_layTimes_L2 l1 l2 FU 0 μ
set_option maxHeartbeats 4000000 in
set_option maxRecDepth 100000 in
theorem kX11_layTimes_J107 (d : Nat) (hd : 5 ≤ d) {k2 : Int → Mm → Rs} {l1 : Int} {l2 : Int} {l3 : Int} {l4 : Int} {μ : Mm} {r : Int} {μ' : Mm} (hk_2 : ∀ (v3 : Int) (μ1 : Mm), k2 v3 μ1 = some (r, μ') → VV d mX11_layTimes 2 [some (vR 70), some (vI l1), some (vI l2), some (vI v3), none] [] μ1 r μ') (h : X11_layTimes_J107 k2 l1 l2 l3 l4 μ = some (r, μ')) : VV d mX11_layTimes 107 [some (vR 70), some (vI l1), some (vI l2), some (vI l3), some (vI l4)] [] μ r μ' := by
  unfold X11_layTimes_J107 at h
  refine V_aload_n (q := 108) dX11_layTimes_107 rfl rfl rfl ?_
  refine V_getO (q := 111) (t := 88) fl_X11_68 rfl rfl rfl rfl dX11_layTimes_108 rfl ?_
  refine V_iload_n (q := 112) dX11_layTimes_111 rfl rfl rfl ?_
  refine V_iload_n (q := 113) dX11_layTimes_112 rfl rfl rfl ?_
  refine V_ifne (q := 120) (q2 := 116) dX11_layTimes_113 (by decide) rfl (fun hc7 => ?_) (fun hc7 => ?_)
  · have h := ifF hc7 h
    refine V_aload_n (q := 121) dX11_layTimes_120 rfl rfl rfl ?_
    refine V_getO (q := 124) (t := 88) fl_X11_68 rfl rfl rfl rfl dX11_layTimes_121 rfl ?_
    refine V_iload_n (q := 125) dX11_layTimes_124 rfl rfl rfl ?_
    refine V_iconst (q := 126) dX11_layTimes_125 rfl rfl ?_
    refine V_isub (q := 127) dX11_layTimes_126 rfl ?_
    obtain ⟨hi9, h⟩ := ldA_i h
    refine V_iaload (q := 128) rfl hi9 dX11_layTimes_127 rfl ?_
    refine V_iload (q := 130) dX11_layTimes_128 rfl rfl ?_
    refine V_mmax (q := 133) mx_X11_302 (by omega) rfl dX11_layTimes_130 rfl ?_
    obtain ⟨hi11, h⟩ := stA_i h
    refine V_iastore (q := 134) rfl hi11 dX11_layTimes_133 rfl ?_
    refine V_iinc (q := 137) dX11_layTimes_134 rfl (Nat.le_of_ble_eq_true rfl) trivial rfl ?_
    refine V_goto (q := 2) dX11_layTimes_137 (by decide) ?_
    exact V_weak (hk_2 _ _ h) (sb_s rfl (sb_s rfl (sb_s rfl (sb_s rfl (sb_n sb_0)))))
  · have h := ifT hc7 h
    refine V_iconst (q := 117) dX11_layTimes_116 rfl rfl ?_
    refine V_goto (q := 128) dX11_layTimes_117 (by decide) ?_
    refine V_iload (q := 130) dX11_layTimes_128 rfl rfl ?_
    refine V_mmax (q := 133) mx_X11_302 (by omega) rfl dX11_layTimes_130 rfl ?_
    obtain ⟨hi13, h⟩ := stA_i h
    refine V_iastore (q := 134) rfl hi13 dX11_layTimes_133 rfl ?_
    refine V_iinc (q := 137) dX11_layTimes_134 rfl (Nat.le_of_ble_eq_true rfl) trivial rfl ?_
    refine V_goto (q := 2) dX11_layTimes_137 (by decide) ?_
    exact V_weak (hk_2 _ _ h) (sb_s rfl (sb_s rfl (sb_s rfl (sb_s rfl (sb_n sb_0)))))
set_option maxHeartbeats 4000000 in
set_option maxRecDepth 100000 in
theorem kX11_layTimes_L2 (d : Nat) (hd : 5 ≤ d) {l1 : Int} {l2 : Int} {r : Int} {μ' : Mm} : ∀ (n : Nat) {l3 : Int} {μ : Mm}, X11_layTimes_L2 l1 l2 n l3 μ = some (r, μ') → VV d mX11_layTimes 2 [some (vR 70), some (vI l1), some (vI l2), some (vI l3), none] [] μ r μ' := by
  intro n
  induction n with
  | zero => intro l3 μ h; rw [X11_layTimes_L2] at h; cases h
  | succ n ih =>
    intro l3 μ h
    rw [X11_layTimes_L2] at h
    refine V_iload_n (q := 3) dX11_layTimes_2 rfl rfl rfl ?_
    refine V_aload_n (q := 4) dX11_layTimes_3 rfl rfl rfl ?_
    refine V_getO (q := 7) (t := 85) fl_X11_52 rfl rfl rfl rfl dX11_layTimes_4 rfl ?_
    refine V_iload_n (q := 8) dX11_layTimes_7 rfl rfl rfl ?_
    obtain ⟨hi2, h⟩ := ldA_i h
    refine V_iaload (q := 9) rfl hi2 dX11_layTimes_8 rfl ?_
    refine V_icmpge (q := 140) (q2 := 12) dX11_layTimes_9 (by decide) rfl (fun hc3 => ?_) (fun hc3 => ?_)
    · have h := ifT hc3 h
      exact V_vret rfl h dX11_layTimes_140
    · have h := ifF hc3 h
      refine V_aload_n (q := 13) dX11_layTimes_12 rfl rfl rfl ?_
      refine V_getO (q := 16) (t := 84) fl_X11_49 rfl rfl rfl rfl dX11_layTimes_13 rfl ?_
      refine V_bipush (q := 18) dX11_layTimes_16 rfl rfl rfl ?_
      refine V_iload_n (q := 19) dX11_layTimes_18 rfl rfl rfl ?_
      refine V_imul (q := 20) dX11_layTimes_19 rfl ?_
      refine V_iload_n (q := 21) dX11_layTimes_20 rfl rfl rfl ?_
      refine V_iadd (q := 22) dX11_layTimes_21 rfl ?_
      obtain ⟨hi5, h⟩ := ldA_i h
      refine V_iaload (q := 23) rfl hi5 dX11_layTimes_22 rfl ?_
      refine V_istore (q := 25) dX11_layTimes_23 (Nat.le_of_ble_eq_true rfl) trivial rfl ?_
      refine V_aload_n (q := 26) dX11_layTimes_25 rfl rfl rfl ?_
      refine V_getI (q := 29) fl_X11_62 rfl rfl rfl dX11_layTimes_26 rfl ?_
      refine V_iconst (q := 30) dX11_layTimes_29 rfl rfl ?_
      refine V_icmpeq (q := 107) (q2 := 33) dX11_layTimes_30 (by decide) rfl (fun hc6 => ?_) (fun hc6 => ?_)
      · have h := ifT hc6 h
        exact V_weak (kX11_layTimes_J107 d hd (fun _ _ h => ih h) h) (sb_s rfl (sb_s rfl (sb_s rfl (sb_s rfl (sb_s rfl sb_0)))))
      · have h := ifF hc6 h
        refine V_aload_n (q := 34) dX11_layTimes_33 rfl rfl rfl ?_
        refine V_getO (q := 37) (t := 79) fl_X11_34 rfl rfl rfl rfl dX11_layTimes_34 rfl ?_
        refine V_iconst (q := 38) dX11_layTimes_37 rfl rfl ?_
        refine V_iload (q := 40) dX11_layTimes_38 rfl rfl ?_
        obtain ⟨hi15, h⟩ := stA_i h
        refine V_iastore (q := 41) rfl hi15 dX11_layTimes_40 rfl ?_
        refine V_aload_n (q := 42) dX11_layTimes_41 rfl rfl rfl ?_
        refine V_getO (q := 45) (t := 79) fl_X11_34 rfl rfl rfl rfl dX11_layTimes_42 rfl ?_
        refine V_iconst (q := 46) dX11_layTimes_45 rfl rfl ?_
        refine V_iload_n (q := 47) dX11_layTimes_46 rfl rfl rfl ?_
        obtain ⟨hi17, h⟩ := stA_i h
        refine V_iastore (q := 48) rfl hi17 dX11_layTimes_47 rfl ?_
        refine V_aload_n (q := 49) dX11_layTimes_48 rfl rfl rfl ?_
        refine V_getO (q := 52) (t := 79) fl_X11_34 rfl rfl rfl rfl dX11_layTimes_49 rfl ?_
        refine V_iconst (q := 53) dX11_layTimes_52 rfl rfl ?_
        refine V_iload_n (q := 54) dX11_layTimes_53 rfl rfl rfl ?_
        obtain ⟨hi19, h⟩ := stA_i h
        refine V_iastore (q := 55) rfl hi19 dX11_layTimes_54 rfl ?_
        refine V_aload_n (q := 56) dX11_layTimes_55 rfl rfl rfl ?_
        refine V_getO (q := 59) (t := 79) fl_X11_34 rfl rfl rfl rfl dX11_layTimes_56 rfl ?_
        refine V_iconst (q := 60) dX11_layTimes_59 rfl rfl ?_
        refine V_aload_n (q := 61) dX11_layTimes_60 rfl rfl rfl ?_
        refine V_getO (q := 64) (t := 83) fl_X11_46 rfl rfl rfl rfl dX11_layTimes_61 rfl ?_
        refine V_bipush (q := 66) dX11_layTimes_64 rfl rfl rfl ?_
        refine V_iload_n (q := 67) dX11_layTimes_66 rfl rfl rfl ?_
        refine V_imul (q := 68) dX11_layTimes_67 rfl ?_
        refine V_iload_n (q := 69) dX11_layTimes_68 rfl rfl rfl ?_
        refine V_iadd (q := 70) dX11_layTimes_69 rfl ?_
        obtain ⟨hi21, h⟩ := ldA_i h
        refine V_iaload (q := 71) rfl hi21 dX11_layTimes_70 rfl ?_
        obtain ⟨hi23, h⟩ := stA_i h
        refine V_iastore (q := 72) rfl hi23 dX11_layTimes_71 rfl ?_
        refine V_aload_n (q := 73) dX11_layTimes_72 rfl rfl rfl ?_
        refine V_getO (q := 76) (t := 79) fl_X11_34 rfl rfl rfl rfl dX11_layTimes_73 rfl ?_
        refine V_iconst (q := 77) dX11_layTimes_76 rfl rfl ?_
        refine V_aload_n (q := 78) dX11_layTimes_77 rfl rfl rfl ?_
        refine V_getO (q := 81) (t := 85) fl_X11_52 rfl rfl rfl rfl dX11_layTimes_78 rfl ?_
        refine V_iload_n (q := 82) dX11_layTimes_81 rfl rfl rfl ?_
        obtain ⟨hi25, h⟩ := ldA_i h
        refine V_iaload (q := 83) rfl hi25 dX11_layTimes_82 rfl ?_
        obtain ⟨hi27, h⟩ := stA_i h
        refine V_iastore (q := 84) rfl hi27 dX11_layTimes_83 rfl ?_
        refine V_iload (q := 86) dX11_layTimes_84 rfl rfl ?_
        refine V_bipush (q := 88) dX11_layTimes_86 rfl rfl rfl ?_
        refine V_bipush (q := 90) dX11_layTimes_88 rfl rfl rfl ?_
        refine V_aload_n (q := 91) dX11_layTimes_90 rfl rfl rfl ?_
        refine V_aload_n (q := 92) dX11_layTimes_91 rfl rfl rfl ?_
        refine V_getI (q := 95) fl_X11_62 rfl rfl rfl dX11_layTimes_92 rfl ?_
        obtain ⟨v28, μ29, hc30, h⟩ := bd_i h
        refine V_cV1 (q := 98) (v := vI v28) (kX11_worthOf (d - 1) (by omega) hc30) (by omega) mv_X11_296 rfl rfl rfl rfl rfl rfl dX11_layTimes_95 rfl ?_
        refine V_mmin (q := 101) mx_X11_299 (by omega) rfl dX11_layTimes_98 rfl ?_
        refine V_mmax (q := 104) mx_X11_302 (by omega) rfl dX11_layTimes_101 rfl ?_
        refine V_iadd (q := 105) dX11_layTimes_104 rfl ?_
        have h := lt_i h
        refine V_istore (q := 107) dX11_layTimes_105 (Nat.le_of_ble_eq_true rfl) trivial rfl ?_
        exact V_weak (kX11_layTimes_J107 d hd (fun _ _ h => ih h) h) (sb_s rfl (sb_s rfl (sb_s rfl (sb_s rfl (sb_s rfl sb_0)))))
set_option maxHeartbeats 4000000 in
set_option maxRecDepth 100000 in
theorem kX11_layTimes (d : Nat) (hd : 5 ≤ d) {l1 : Int} {l2 : Int} {μ : Mm} {r : Int} {μ' : Mm} (h : X11_layTimes l1 l2 μ = some (r, μ')) : CC d mX11_layTimes [vR 70, vI l1, vI l2] μ r μ' := by
  unfold X11_layTimes at h
  refine V_enter (by decide) (Nat.le_of_ble_eq_true rfl) ?_
  show VV d mX11_layTimes 0 [some (vR 70), some (vI l1), some (vI l2), none, none] [] μ r μ'
  refine V_iconst (q := 1) dX11_layTimes_0 rfl rfl ?_
  refine V_istore_n (q := 2) dX11_layTimes_1 rfl (Nat.le_of_ble_eq_true rfl) trivial rfl ?_
  exact V_weak (kX11_layTimes_L2 d hd  FU h) (sb_s rfl (sb_s rfl (sb_s rfl (sb_s rfl (sb_n sb_0)))))
abbrev mX11_cue : Mth := (yX11_cue, cX11_cue, 4, some .int)
set_option maxRecDepth 100000 in
theorem mi_X11_cue : Cond.instanceMethod yX11_cue ∈ tG ∧ Cond.selects yX11_cue.cls yX11_cue yX11_cue ∈ tG ∧ Cond.initialized yX11_cue.cls ∈ tG ∧ Cond.code yX11_cue cX11_cue 4 (some .int) ∈ tG ∧ (yX11_cue.cls ≠ "java/lang/invoke/MethodHandle" ∧ yX11_cue.cls ≠ "java/lang/invoke/VarHandle" ∧ (parseMethodDescriptor yX11_cue.desc).map (fun d => d.parameters.length) = some 3) ∧ 4 ≤ 60 := ⟨(tG_of (tb6 (List.mem_of_getElem? (i := 202) rfl)) (by decide +kernel)), (tG_of (tb6 (List.mem_of_getElem? (i := 203) rfl)) (by decide +kernel)), (tG_of (tb1 (List.mem_of_getElem? (i := 12) rfl)) (by decide +kernel)), (tG_of (tb6 (List.mem_of_getElem? (i := 204) rfl)) (by decide +kernel)), ⟨by decide, by decide, by decide +kernel⟩, by decide⟩
theorem dX11_cue_0 : decode cX11_cue 0 = .ok (.aload_n 0, 1) := dc_42 (byA eNcX11_cue (p := 0) (v := 42) (by decide +kernel))
theorem dX11_cue_1 : decode cX11_cue 1 = .ok (.iload_n 1, 1) := dc_27 (byA eNcX11_cue (p := 1) (v := 27) (by decide +kernel))
theorem dX11_cue_2 : decode cX11_cue 2 = .ok (.invokevirtual 304, 3) := dc_182 (byA eNcX11_cue (p := 2) (v := 182) (by decide +kernel)) (byA eNcX11_cue (p := 3) (v := 1) (by decide +kernel)) (byA eNcX11_cue (p := 4) (v := 48) (by decide +kernel)) rfl
theorem dX11_cue_5 : decode cX11_cue 5 = .ok (.ifCond .eq 37, 3) := dc_153 (byA eNcX11_cue (p := 5) (v := 153) (by decide +kernel)) (byA eNcX11_cue (p := 6) (v := 0) (by decide +kernel)) (byA eNcX11_cue (p := 7) (v := 37) (by decide +kernel)) (by decide +kernel)
theorem dX11_cue_8 : decode cX11_cue 8 = .ok (.iload_n 3, 1) := dc_29 (byA eNcX11_cue (p := 8) (v := 29) (by decide +kernel))
theorem dX11_cue_9 : decode cX11_cue 9 = .ok (.iconst 0, 1) := dc_3 (byA eNcX11_cue (p := 9) (v := 3) (by decide +kernel))
theorem dX11_cue_10 : decode cX11_cue 10 = .ok (.iconst 2, 1) := dc_5 (byA eNcX11_cue (p := 10) (v := 5) (by decide +kernel))
theorem dX11_cue_11 : decode cX11_cue 11 = .ok (.invokestatic 213, 3) := dc_184 (byA eNcX11_cue (p := 11) (v := 184) (by decide +kernel)) (byA eNcX11_cue (p := 12) (v := 0) (by decide +kernel)) (byA eNcX11_cue (p := 13) (v := 213) (by decide +kernel)) rfl
theorem dX11_cue_14 : decode cX11_cue 14 = .ok (.ifCond .eq 28, 3) := dc_153 (byA eNcX11_cue (p := 14) (v := 153) (by decide +kernel)) (byA eNcX11_cue (p := 15) (v := 0) (by decide +kernel)) (byA eNcX11_cue (p := 16) (v := 28) (by decide +kernel)) (by decide +kernel)
theorem dX11_cue_17 : decode cX11_cue 17 = .ok (.iload_n 2, 1) := dc_28 (byA eNcX11_cue (p := 17) (v := 28) (by decide +kernel))
theorem dX11_cue_18 : decode cX11_cue 18 = .ok (.iconst (-1), 1) := dc_2 (byA eNcX11_cue (p := 18) (v := 2) (by decide +kernel))
theorem dX11_cue_19 : decode cX11_cue 19 = .ok (.aload_n 0, 1) := dc_42 (byA eNcX11_cue (p := 19) (v := 42) (by decide +kernel))
theorem dX11_cue_20 : decode cX11_cue 20 = .ok (.getfield 52, 3) := dc_180 (byA eNcX11_cue (p := 20) (v := 180) (by decide +kernel)) (byA eNcX11_cue (p := 21) (v := 0) (by decide +kernel)) (byA eNcX11_cue (p := 22) (v := 52) (by decide +kernel)) rfl
theorem dX11_cue_23 : decode cX11_cue 23 = .ok (.iload_n 1, 1) := dc_27 (byA eNcX11_cue (p := 23) (v := 27) (by decide +kernel))
theorem dX11_cue_24 : decode cX11_cue 24 = .ok (.iaload, 1) := dc_46 (byA eNcX11_cue (p := 24) (v := 46) (by decide +kernel))
theorem dX11_cue_25 : decode cX11_cue 25 = .ok (.iconst 1, 1) := dc_4 (byA eNcX11_cue (p := 25) (v := 4) (by decide +kernel))
theorem dX11_cue_26 : decode cX11_cue 26 = .ok (.isub, 1) := dc_100 (byA eNcX11_cue (p := 26) (v := 100) (by decide +kernel))
theorem dX11_cue_27 : decode cX11_cue 27 = .ok (.invokestatic 213, 3) := dc_184 (byA eNcX11_cue (p := 27) (v := 184) (by decide +kernel)) (byA eNcX11_cue (p := 28) (v := 0) (by decide +kernel)) (byA eNcX11_cue (p := 29) (v := 213) (by decide +kernel)) rfl
theorem dX11_cue_30 : decode cX11_cue 30 = .ok (.ifCond .eq 12, 3) := dc_153 (byA eNcX11_cue (p := 30) (v := 153) (by decide +kernel)) (byA eNcX11_cue (p := 31) (v := 0) (by decide +kernel)) (byA eNcX11_cue (p := 32) (v := 12) (by decide +kernel)) (by decide +kernel)
theorem dX11_cue_33 : decode cX11_cue 33 = .ok (.iload_n 2, 1) := dc_28 (byA eNcX11_cue (p := 33) (v := 28) (by decide +kernel))
theorem dX11_cue_34 : decode cX11_cue 34 = .ok (.iconst (-1), 1) := dc_2 (byA eNcX11_cue (p := 34) (v := 2) (by decide +kernel))
theorem dX11_cue_35 : decode cX11_cue 35 = .ok (.if_icmp .ne 9, 3) := dc_160 (byA eNcX11_cue (p := 35) (v := 160) (by decide +kernel)) (byA eNcX11_cue (p := 36) (v := 0) (by decide +kernel)) (byA eNcX11_cue (p := 37) (v := 9) (by decide +kernel)) (by decide +kernel)
theorem dX11_cue_38 : decode cX11_cue 38 = .ok (.iload_n 3, 1) := dc_29 (byA eNcX11_cue (p := 38) (v := 29) (by decide +kernel))
theorem dX11_cue_39 : decode cX11_cue 39 = .ok (.ifCond .eq 5, 3) := dc_153 (byA eNcX11_cue (p := 39) (v := 153) (by decide +kernel)) (byA eNcX11_cue (p := 40) (v := 0) (by decide +kernel)) (byA eNcX11_cue (p := 41) (v := 5) (by decide +kernel)) (by decide +kernel)
theorem dX11_cue_42 : decode cX11_cue 42 = .ok (.iconst (-1), 1) := dc_2 (byA eNcX11_cue (p := 42) (v := 2) (by decide +kernel))
theorem dX11_cue_43 : decode cX11_cue 43 = .ok (.ireturn, 1) := dc_172 (byA eNcX11_cue (p := 43) (v := 172) (by decide +kernel))
theorem dX11_cue_44 : decode cX11_cue 44 = .ok (.aload_n 0, 1) := dc_42 (byA eNcX11_cue (p := 44) (v := 42) (by decide +kernel))
theorem dX11_cue_45 : decode cX11_cue 45 = .ok (.iload_n 1, 1) := dc_27 (byA eNcX11_cue (p := 45) (v := 27) (by decide +kernel))
theorem dX11_cue_46 : decode cX11_cue 46 = .ok (.aload_n 0, 1) := dc_42 (byA eNcX11_cue (p := 46) (v := 42) (by decide +kernel))
theorem dX11_cue_47 : decode cX11_cue 47 = .ok (.getfield 307, 3) := dc_180 (byA eNcX11_cue (p := 47) (v := 180) (by decide +kernel)) (byA eNcX11_cue (p := 48) (v := 1) (by decide +kernel)) (byA eNcX11_cue (p := 49) (v := 51) (by decide +kernel)) rfl
theorem dX11_cue_50 : decode cX11_cue 50 = .ok (.invokevirtual 310, 3) := dc_182 (byA eNcX11_cue (p := 50) (v := 182) (by decide +kernel)) (byA eNcX11_cue (p := 51) (v := 1) (by decide +kernel)) (byA eNcX11_cue (p := 52) (v := 54) (by decide +kernel)) rfl
theorem dX11_cue_53 : decode cX11_cue 53 = .ok (.iload_n 2, 1) := dc_28 (byA eNcX11_cue (p := 53) (v := 28) (by decide +kernel))
theorem dX11_cue_54 : decode cX11_cue 54 = .ok (.iconst (-1), 1) := dc_2 (byA eNcX11_cue (p := 54) (v := 2) (by decide +kernel))
theorem dX11_cue_55 : decode cX11_cue 55 = .ok (.if_icmp .ne 12, 3) := dc_160 (byA eNcX11_cue (p := 55) (v := 160) (by decide +kernel)) (byA eNcX11_cue (p := 56) (v := 0) (by decide +kernel)) (byA eNcX11_cue (p := 57) (v := 12) (by decide +kernel)) (by decide +kernel)
theorem dX11_cue_58 : decode cX11_cue 58 = .ok (.aload_n 0, 1) := dc_42 (byA eNcX11_cue (p := 58) (v := 42) (by decide +kernel))
theorem dX11_cue_59 : decode cX11_cue 59 = .ok (.getfield 52, 3) := dc_180 (byA eNcX11_cue (p := 59) (v := 180) (by decide +kernel)) (byA eNcX11_cue (p := 60) (v := 0) (by decide +kernel)) (byA eNcX11_cue (p := 61) (v := 52) (by decide +kernel)) rfl
theorem dX11_cue_62 : decode cX11_cue 62 = .ok (.iload_n 1, 1) := dc_27 (byA eNcX11_cue (p := 62) (v := 27) (by decide +kernel))
theorem dX11_cue_63 : decode cX11_cue 63 = .ok (.iaload, 1) := dc_46 (byA eNcX11_cue (p := 63) (v := 46) (by decide +kernel))
theorem dX11_cue_64 : decode cX11_cue 64 = .ok (.goto 46, 3) := dc_167 (byA eNcX11_cue (p := 64) (v := 167) (by decide +kernel)) (byA eNcX11_cue (p := 65) (v := 0) (by decide +kernel)) (byA eNcX11_cue (p := 66) (v := 46) (by decide +kernel)) (by decide +kernel)
theorem dX11_cue_67 : decode cX11_cue 67 = .ok (.iload_n 3, 1) := dc_29 (byA eNcX11_cue (p := 67) (v := 29) (by decide +kernel))
theorem dX11_cue_68 : decode cX11_cue 68 = .ok (.ifCond .ne 17, 3) := dc_154 (byA eNcX11_cue (p := 68) (v := 154) (by decide +kernel)) (byA eNcX11_cue (p := 69) (v := 0) (by decide +kernel)) (byA eNcX11_cue (p := 70) (v := 17) (by decide +kernel)) (by decide +kernel)
theorem dX11_cue_71 : decode cX11_cue 71 = .ok (.aload_n 0, 1) := dc_42 (byA eNcX11_cue (p := 71) (v := 42) (by decide +kernel))
theorem dX11_cue_72 : decode cX11_cue 72 = .ok (.getfield 46, 3) := dc_180 (byA eNcX11_cue (p := 72) (v := 180) (by decide +kernel)) (byA eNcX11_cue (p := 73) (v := 0) (by decide +kernel)) (byA eNcX11_cue (p := 74) (v := 46) (by decide +kernel)) rfl
theorem dX11_cue_75 : decode cX11_cue 75 = .ok (.bipush 8, 2) := dc_16 (byA eNcX11_cue (p := 75) (v := 16) (by decide +kernel)) (byA eNcX11_cue (p := 76) (v := 8) (by decide +kernel)) (by decide +kernel)
theorem dX11_cue_77 : decode cX11_cue 77 = .ok (.iload_n 1, 1) := dc_27 (byA eNcX11_cue (p := 77) (v := 27) (by decide +kernel))
theorem dX11_cue_78 : decode cX11_cue 78 = .ok (.imul, 1) := dc_104 (byA eNcX11_cue (p := 78) (v := 104) (by decide +kernel))
theorem dX11_cue_79 : decode cX11_cue 79 = .ok (.iload_n 2, 1) := dc_28 (byA eNcX11_cue (p := 79) (v := 28) (by decide +kernel))
theorem dX11_cue_80 : decode cX11_cue 80 = .ok (.iadd, 1) := dc_96 (byA eNcX11_cue (p := 80) (v := 96) (by decide +kernel))
theorem dX11_cue_81 : decode cX11_cue 81 = .ok (.iaload, 1) := dc_46 (byA eNcX11_cue (p := 81) (v := 46) (by decide +kernel))
theorem dX11_cue_82 : decode cX11_cue 82 = .ok (.goto 28, 3) := dc_167 (byA eNcX11_cue (p := 82) (v := 167) (by decide +kernel)) (byA eNcX11_cue (p := 83) (v := 0) (by decide +kernel)) (byA eNcX11_cue (p := 84) (v := 28) (by decide +kernel)) (by decide +kernel)
theorem dX11_cue_85 : decode cX11_cue 85 = .ok (.iload_n 3, 1) := dc_29 (byA eNcX11_cue (p := 85) (v := 29) (by decide +kernel))
theorem dX11_cue_86 : decode cX11_cue 86 = .ok (.iconst 1, 1) := dc_4 (byA eNcX11_cue (p := 86) (v := 4) (by decide +kernel))
theorem dX11_cue_87 : decode cX11_cue 87 = .ok (.if_icmp .ne 17, 3) := dc_160 (byA eNcX11_cue (p := 87) (v := 160) (by decide +kernel)) (byA eNcX11_cue (p := 88) (v := 0) (by decide +kernel)) (byA eNcX11_cue (p := 89) (v := 17) (by decide +kernel)) (by decide +kernel)
theorem dX11_cue_90 : decode cX11_cue 90 = .ok (.aload_n 0, 1) := dc_42 (byA eNcX11_cue (p := 90) (v := 42) (by decide +kernel))
theorem dX11_cue_91 : decode cX11_cue 91 = .ok (.getfield 49, 3) := dc_180 (byA eNcX11_cue (p := 91) (v := 180) (by decide +kernel)) (byA eNcX11_cue (p := 92) (v := 0) (by decide +kernel)) (byA eNcX11_cue (p := 93) (v := 49) (by decide +kernel)) rfl
theorem dX11_cue_94 : decode cX11_cue 94 = .ok (.bipush 8, 2) := dc_16 (byA eNcX11_cue (p := 94) (v := 16) (by decide +kernel)) (byA eNcX11_cue (p := 95) (v := 8) (by decide +kernel)) (by decide +kernel)
theorem dX11_cue_96 : decode cX11_cue 96 = .ok (.iload_n 1, 1) := dc_27 (byA eNcX11_cue (p := 96) (v := 27) (by decide +kernel))
theorem dX11_cue_97 : decode cX11_cue 97 = .ok (.imul, 1) := dc_104 (byA eNcX11_cue (p := 97) (v := 104) (by decide +kernel))
theorem dX11_cue_98 : decode cX11_cue 98 = .ok (.iload_n 2, 1) := dc_28 (byA eNcX11_cue (p := 98) (v := 28) (by decide +kernel))
theorem dX11_cue_99 : decode cX11_cue 99 = .ok (.iadd, 1) := dc_96 (byA eNcX11_cue (p := 99) (v := 96) (by decide +kernel))
theorem dX11_cue_100 : decode cX11_cue 100 = .ok (.iaload, 1) := dc_46 (byA eNcX11_cue (p := 100) (v := 46) (by decide +kernel))
theorem dX11_cue_101 : decode cX11_cue 101 = .ok (.goto 9, 3) := dc_167 (byA eNcX11_cue (p := 101) (v := 167) (by decide +kernel)) (byA eNcX11_cue (p := 102) (v := 0) (by decide +kernel)) (byA eNcX11_cue (p := 103) (v := 9) (by decide +kernel)) (by decide +kernel)
theorem dX11_cue_104 : decode cX11_cue 104 = .ok (.aload_n 0, 1) := dc_42 (byA eNcX11_cue (p := 104) (v := 42) (by decide +kernel))
theorem dX11_cue_105 : decode cX11_cue 105 = .ok (.getfield 68, 3) := dc_180 (byA eNcX11_cue (p := 105) (v := 180) (by decide +kernel)) (byA eNcX11_cue (p := 106) (v := 0) (by decide +kernel)) (byA eNcX11_cue (p := 107) (v := 68) (by decide +kernel)) rfl
theorem dX11_cue_108 : decode cX11_cue 108 = .ok (.iload_n 2, 1) := dc_28 (byA eNcX11_cue (p := 108) (v := 28) (by decide +kernel))
theorem dX11_cue_109 : decode cX11_cue 109 = .ok (.iaload, 1) := dc_46 (byA eNcX11_cue (p := 109) (v := 46) (by decide +kernel))
theorem dX11_cue_110 : decode cX11_cue 110 = .ok (.ireturn, 1) := dc_172 (byA eNcX11_cue (p := 110) (v := 172) (by decide +kernel))
def X11_cue_J44 (l1 : Int) (l2 : Int) (l3 : Int) (μ : Mm) : Rs := bd (X11_layTimes l1 (μ 70 31) μ) fun v16 μ17 => if l2 = (-1) then (ldA μ17 85 l1 fun v28 => some (v28, μ17)) else (if l3 = 0 then (ldA μ17 83 (iA (iM 8 l1) l2) fun v26 => some (v26, μ17)) else (if l3 = 1 then (ldA μ17 84 (iA (iM 8 l1) l2) fun v24 => some (v24, μ17)) else (ldA μ17 88 l2 fun v22 => some (v22, μ17))))
def X11_cue (l1 : Int) (l2 : Int) (l3 : Int) (μ : Mm) : Rs := bd (X11_isPlay l1 μ) fun v1 μ2 => if v1 = 0 then (some ((-1), μ2)) else (bd (X11_in l3 0 2 μ2) fun v5 μ6 => if v5 = 0 then (some ((-1), μ6)) else (ldA μ6 85 l1 fun v9 => bd (X11_in l2 (-1) (iS v9 1) μ6) fun v11 μ12 => if v11 = 0 then (some ((-1), μ12)) else (if l2 = (-1) then (if l3 = 0 then (X11_cue_J44 l1 l2 l3 μ12) else (some ((-1), μ12))) else (X11_cue_J44 l1 l2 l3 μ12))))
set_option maxHeartbeats 4000000 in
set_option maxRecDepth 100000 in
theorem kX11_cue_J44 (d : Nat) (hd : 6 ≤ d) {l1 : Int} {l2 : Int} {l3 : Int} {μ : Mm} {r : Int} {μ' : Mm} (h : X11_cue_J44 l1 l2 l3 μ = some (r, μ')) : VV d mX11_cue 44 [some (vR 70), some (vI l1), some (vI l2), some (vI l3)] [] μ r μ' := by
  unfold X11_cue_J44 at h
  refine V_aload_n (q := 45) dX11_cue_44 rfl rfl rfl ?_
  refine V_iload_n (q := 46) dX11_cue_45 rfl rfl rfl ?_
  refine V_aload_n (q := 47) dX11_cue_46 rfl rfl rfl ?_
  refine V_getI (q := 50) fl_X11_307 rfl rfl rfl dX11_cue_47 rfl ?_
  obtain ⟨v16, μ17, hc18, h⟩ := bd_i h
  refine V_cV0 (q := 53) (kX11_layTimes (d - 1) (by omega) hc18) (by omega) mv_X11_310 rfl rfl rfl rfl rfl rfl dX11_cue_50 rfl ?_
  refine V_iload_n (q := 54) dX11_cue_53 rfl rfl rfl ?_
  refine V_iconst (q := 55) dX11_cue_54 rfl rfl ?_
  refine V_icmpne (q := 67) (q2 := 58) dX11_cue_55 (by decide) rfl (fun hc19 => ?_) (fun hc19 => ?_)
  · have h := ifF hc19 h
    refine V_iload_n (q := 68) dX11_cue_67 rfl rfl rfl ?_
    refine V_ifne (q := 85) (q2 := 71) dX11_cue_68 (by decide) rfl (fun hc20 => ?_) (fun hc20 => ?_)
    · have h := ifF hc20 h
      refine V_iload_n (q := 86) dX11_cue_85 rfl rfl rfl ?_
      refine V_iconst (q := 87) dX11_cue_86 rfl rfl ?_
      refine V_icmpne (q := 104) (q2 := 90) dX11_cue_87 (by decide) rfl (fun hc21 => ?_) (fun hc21 => ?_)
      · have h := ifF hc21 h
        refine V_aload_n (q := 105) dX11_cue_104 rfl rfl rfl ?_
        refine V_getO (q := 108) (t := 88) fl_X11_68 rfl rfl rfl rfl dX11_cue_105 rfl ?_
        refine V_iload_n (q := 109) dX11_cue_108 rfl rfl rfl ?_
        obtain ⟨hi23, h⟩ := ldA_i h
        refine V_iaload (q := 110) rfl hi23 dX11_cue_109 rfl ?_
        exact V_iret rfl h dX11_cue_110
      · have h := ifT hc21 h
        refine V_aload_n (q := 91) dX11_cue_90 rfl rfl rfl ?_
        refine V_getO (q := 94) (t := 84) fl_X11_49 rfl rfl rfl rfl dX11_cue_91 rfl ?_
        refine V_bipush (q := 96) dX11_cue_94 rfl rfl rfl ?_
        refine V_iload_n (q := 97) dX11_cue_96 rfl rfl rfl ?_
        refine V_imul (q := 98) dX11_cue_97 rfl ?_
        refine V_iload_n (q := 99) dX11_cue_98 rfl rfl rfl ?_
        refine V_iadd (q := 100) dX11_cue_99 rfl ?_
        obtain ⟨hi25, h⟩ := ldA_i h
        refine V_iaload (q := 101) rfl hi25 dX11_cue_100 rfl ?_
        refine V_goto (q := 110) dX11_cue_101 (by decide) ?_
        exact V_iret rfl h dX11_cue_110
    · have h := ifT hc20 h
      refine V_aload_n (q := 72) dX11_cue_71 rfl rfl rfl ?_
      refine V_getO (q := 75) (t := 83) fl_X11_46 rfl rfl rfl rfl dX11_cue_72 rfl ?_
      refine V_bipush (q := 77) dX11_cue_75 rfl rfl rfl ?_
      refine V_iload_n (q := 78) dX11_cue_77 rfl rfl rfl ?_
      refine V_imul (q := 79) dX11_cue_78 rfl ?_
      refine V_iload_n (q := 80) dX11_cue_79 rfl rfl rfl ?_
      refine V_iadd (q := 81) dX11_cue_80 rfl ?_
      obtain ⟨hi27, h⟩ := ldA_i h
      refine V_iaload (q := 82) rfl hi27 dX11_cue_81 rfl ?_
      refine V_goto (q := 110) dX11_cue_82 (by decide) ?_
      exact V_iret rfl h dX11_cue_110
  · have h := ifT hc19 h
    refine V_aload_n (q := 59) dX11_cue_58 rfl rfl rfl ?_
    refine V_getO (q := 62) (t := 85) fl_X11_52 rfl rfl rfl rfl dX11_cue_59 rfl ?_
    refine V_iload_n (q := 63) dX11_cue_62 rfl rfl rfl ?_
    obtain ⟨hi29, h⟩ := ldA_i h
    refine V_iaload (q := 64) rfl hi29 dX11_cue_63 rfl ?_
    refine V_goto (q := 110) dX11_cue_64 (by decide) ?_
    exact V_iret rfl h dX11_cue_110
set_option maxHeartbeats 4000000 in
set_option maxRecDepth 100000 in
theorem kX11_cue (d : Nat) (hd : 6 ≤ d) {l1 : Int} {l2 : Int} {l3 : Int} {μ : Mm} {r : Int} {μ' : Mm} (h : X11_cue l1 l2 l3 μ = some (r, μ')) : CC d mX11_cue [vR 70, vI l1, vI l2, vI l3] μ r μ' := by
  unfold X11_cue at h
  refine V_enter (by decide) (Nat.le_of_ble_eq_true rfl) ?_
  show VV d mX11_cue 0 [some (vR 70), some (vI l1), some (vI l2), some (vI l3)] [] μ r μ'
  refine V_aload_n (q := 1) dX11_cue_0 rfl rfl rfl ?_
  refine V_iload_n (q := 2) dX11_cue_1 rfl rfl rfl ?_
  obtain ⟨v1, μ2, hc3, h⟩ := bd_i h
  refine V_cV1 (q := 5) (v := vI v1) (kX11_isPlay (d - 1) (by omega) hc3) (by omega) mv_X11_304 rfl rfl rfl rfl rfl rfl dX11_cue_2 rfl ?_
  refine V_ifeq (q := 42) (q2 := 8) dX11_cue_5 (by decide) rfl (fun hc4 => ?_) (fun hc4 => ?_)
  · have h := ifT hc4 h
    refine V_iconst (q := 43) dX11_cue_42 rfl rfl ?_
    exact V_iret rfl h dX11_cue_43
  · have h := ifF hc4 h
    refine V_iload_n (q := 9) dX11_cue_8 rfl rfl rfl ?_
    refine V_iconst (q := 10) dX11_cue_9 rfl rfl ?_
    refine V_iconst (q := 11) dX11_cue_10 rfl rfl ?_
    obtain ⟨v5, μ6, hc7, h⟩ := bd_i h
    refine V_cS1 (q := 14) (v := vI v5) (kX11_in (d - 1) (by omega) hc7) (by omega) mv_X11_213 rfl rfl rfl rfl dX11_cue_11 rfl ?_
    refine V_ifeq (q := 42) (q2 := 17) dX11_cue_14 (by decide) rfl (fun hc8 => ?_) (fun hc8 => ?_)
    · have h := ifT hc8 h
      refine V_iconst (q := 43) dX11_cue_42 rfl rfl ?_
      exact V_iret rfl h dX11_cue_43
    · have h := ifF hc8 h
      refine V_iload_n (q := 18) dX11_cue_17 rfl rfl rfl ?_
      refine V_iconst (q := 19) dX11_cue_18 rfl rfl ?_
      refine V_aload_n (q := 20) dX11_cue_19 rfl rfl rfl ?_
      refine V_getO (q := 23) (t := 85) fl_X11_52 rfl rfl rfl rfl dX11_cue_20 rfl ?_
      refine V_iload_n (q := 24) dX11_cue_23 rfl rfl rfl ?_
      obtain ⟨hi10, h⟩ := ldA_i h
      refine V_iaload (q := 25) rfl hi10 dX11_cue_24 rfl ?_
      refine V_iconst (q := 26) dX11_cue_25 rfl rfl ?_
      refine V_isub (q := 27) dX11_cue_26 rfl ?_
      obtain ⟨v11, μ12, hc13, h⟩ := bd_i h
      refine V_cS1 (q := 30) (v := vI v11) (kX11_in (d - 1) (by omega) hc13) (by omega) mv_X11_213 rfl rfl rfl rfl dX11_cue_27 rfl ?_
      refine V_ifeq (q := 42) (q2 := 33) dX11_cue_30 (by decide) rfl (fun hc14 => ?_) (fun hc14 => ?_)
      · have h := ifT hc14 h
        refine V_iconst (q := 43) dX11_cue_42 rfl rfl ?_
        exact V_iret rfl h dX11_cue_43
      · have h := ifF hc14 h
        refine V_iload_n (q := 34) dX11_cue_33 rfl rfl rfl ?_
        refine V_iconst (q := 35) dX11_cue_34 rfl rfl ?_
        refine V_icmpne (q := 44) (q2 := 38) dX11_cue_35 (by decide) rfl (fun hc15 => ?_) (fun hc15 => ?_)
        · have h := ifF hc15 h
          exact V_weak (kX11_cue_J44 d hd h) (sb_s rfl (sb_s rfl (sb_s rfl (sb_s rfl sb_0))))
        · have h := ifT hc15 h
          refine V_iload_n (q := 39) dX11_cue_38 rfl rfl rfl ?_
          refine V_ifeq (q := 44) (q2 := 42) dX11_cue_39 (by decide) rfl (fun hc30 => ?_) (fun hc30 => ?_)
          · have h := ifT hc30 h
            exact V_weak (kX11_cue_J44 d hd h) (sb_s rfl (sb_s rfl (sb_s rfl (sb_s rfl sb_0))))
          · have h := ifF hc30 h
            refine V_iconst (q := 43) dX11_cue_42 rfl rfl ?_
            exact V_iret rfl h dX11_cue_43
abbrev mX11_set : Mth := (yX11_set, cX11_set, 3, some .boolean)
set_option maxRecDepth 100000 in
theorem mi_X11_set : Cond.instanceMethod yX11_set ∈ tG ∧ Cond.selects yX11_set.cls yX11_set yX11_set ∈ tG ∧ Cond.initialized yX11_set.cls ∈ tG ∧ Cond.code yX11_set cX11_set 3 (some .boolean) ∈ tG ∧ (yX11_set.cls ≠ "java/lang/invoke/MethodHandle" ∧ yX11_set.cls ≠ "java/lang/invoke/VarHandle" ∧ (parseMethodDescriptor yX11_set.desc).map (fun d => d.parameters.length) = some 2) ∧ 3 ≤ 60 := ⟨(tG_of (tb6 (List.mem_of_getElem? (i := 234) rfl)) (by decide +kernel)), (tG_of (tb6 (List.mem_of_getElem? (i := 235) rfl)) (by decide +kernel)), (tG_of (tb1 (List.mem_of_getElem? (i := 12) rfl)) (by decide +kernel)), (tG_of (tb6 (List.mem_of_getElem? (i := 236) rfl)) (by decide +kernel)), ⟨by decide, by decide, by decide +kernel⟩, by decide⟩
theorem dX11_set_0 : decode cX11_set 0 = .ok (.iload_n 1, 1) := dc_27 (byA eNcX11_set (p := 0) (v := 27) (by decide +kernel))
theorem dX11_set_1 : decode cX11_set 1 = .ok (.ifCond .ne 10, 3) := dc_154 (byA eNcX11_set (p := 1) (v := 154) (by decide +kernel)) (byA eNcX11_set (p := 2) (v := 0) (by decide +kernel)) (byA eNcX11_set (p := 3) (v := 10) (by decide +kernel)) (by decide +kernel)
theorem dX11_set_4 : decode cX11_set 4 = .ok (.aload_n 0, 1) := dc_42 (byA eNcX11_set (p := 4) (v := 42) (by decide +kernel))
theorem dX11_set_5 : decode cX11_set 5 = .ok (.getfield 252, 3) := dc_180 (byA eNcX11_set (p := 5) (v := 180) (by decide +kernel)) (byA eNcX11_set (p := 6) (v := 0) (by decide +kernel)) (byA eNcX11_set (p := 7) (v := 252) (by decide +kernel)) rfl
theorem dX11_set_8 : decode cX11_set 8 = .ok (.ifCond .eq 62, 3) := dc_153 (byA eNcX11_set (p := 8) (v := 153) (by decide +kernel)) (byA eNcX11_set (p := 9) (v := 0) (by decide +kernel)) (byA eNcX11_set (p := 10) (v := 62) (by decide +kernel)) (by decide +kernel)
theorem dX11_set_11 : decode cX11_set 11 = .ok (.iload_n 1, 1) := dc_27 (byA eNcX11_set (p := 11) (v := 27) (by decide +kernel))
theorem dX11_set_12 : decode cX11_set 12 = .ok (.iconst 0, 1) := dc_3 (byA eNcX11_set (p := 12) (v := 3) (by decide +kernel))
theorem dX11_set_13 : decode cX11_set 13 = .ok (.iconst 2, 1) := dc_5 (byA eNcX11_set (p := 13) (v := 5) (by decide +kernel))
theorem dX11_set_14 : decode cX11_set 14 = .ok (.invokestatic 213, 3) := dc_184 (byA eNcX11_set (p := 14) (v := 184) (by decide +kernel)) (byA eNcX11_set (p := 15) (v := 0) (by decide +kernel)) (byA eNcX11_set (p := 16) (v := 213) (by decide +kernel)) rfl
theorem dX11_set_17 : decode cX11_set 17 = .ok (.ifCond .eq 53, 3) := dc_153 (byA eNcX11_set (p := 17) (v := 153) (by decide +kernel)) (byA eNcX11_set (p := 18) (v := 0) (by decide +kernel)) (byA eNcX11_set (p := 19) (v := 53) (by decide +kernel)) (by decide +kernel)
theorem dX11_set_20 : decode cX11_set 20 = .ok (.iload_n 2, 1) := dc_28 (byA eNcX11_set (p := 20) (v := 28) (by decide +kernel))
theorem dX11_set_21 : decode cX11_set 21 = .ok (.iload_n 1, 1) := dc_27 (byA eNcX11_set (p := 21) (v := 27) (by decide +kernel))
theorem dX11_set_22 : decode cX11_set 22 = .ok (.ifCond .ne 7, 3) := dc_154 (byA eNcX11_set (p := 22) (v := 154) (by decide +kernel)) (byA eNcX11_set (p := 23) (v := 0) (by decide +kernel)) (byA eNcX11_set (p := 24) (v := 7) (by decide +kernel)) (by decide +kernel)
theorem dX11_set_25 : decode cX11_set 25 = .ok (.iconst 1, 1) := dc_4 (byA eNcX11_set (p := 25) (v := 4) (by decide +kernel))
theorem dX11_set_26 : decode cX11_set 26 = .ok (.goto 13, 3) := dc_167 (byA eNcX11_set (p := 26) (v := 167) (by decide +kernel)) (byA eNcX11_set (p := 27) (v := 0) (by decide +kernel)) (byA eNcX11_set (p := 28) (v := 13) (by decide +kernel)) (by decide +kernel)
theorem dX11_set_29 : decode cX11_set 29 = .ok (.iload_n 1, 1) := dc_27 (byA eNcX11_set (p := 29) (v := 27) (by decide +kernel))
theorem dX11_set_30 : decode cX11_set 30 = .ok (.iconst 1, 1) := dc_4 (byA eNcX11_set (p := 30) (v := 4) (by decide +kernel))
theorem dX11_set_31 : decode cX11_set 31 = .ok (.if_icmp .ne 7, 3) := dc_160 (byA eNcX11_set (p := 31) (v := 160) (by decide +kernel)) (byA eNcX11_set (p := 32) (v := 0) (by decide +kernel)) (byA eNcX11_set (p := 33) (v := 7) (by decide +kernel)) (by decide +kernel)
theorem dX11_set_34 : decode cX11_set 34 = .ok (.iconst 0, 1) := dc_3 (byA eNcX11_set (p := 34) (v := 3) (by decide +kernel))
theorem dX11_set_35 : decode cX11_set 35 = .ok (.goto 4, 3) := dc_167 (byA eNcX11_set (p := 35) (v := 167) (by decide +kernel)) (byA eNcX11_set (p := 36) (v := 0) (by decide +kernel)) (byA eNcX11_set (p := 37) (v := 4) (by decide +kernel)) (by decide +kernel)
theorem dX11_set_38 : decode cX11_set 38 = .ok (.iconst (-1), 1) := dc_2 (byA eNcX11_set (p := 38) (v := 2) (by decide +kernel))
theorem dX11_set_39 : decode cX11_set 39 = .ok (.iload_n 1, 1) := dc_27 (byA eNcX11_set (p := 39) (v := 27) (by decide +kernel))
theorem dX11_set_40 : decode cX11_set 40 = .ok (.ifCond .ne 8, 3) := dc_154 (byA eNcX11_set (p := 40) (v := 154) (by decide +kernel)) (byA eNcX11_set (p := 41) (v := 0) (by decide +kernel)) (byA eNcX11_set (p := 42) (v := 8) (by decide +kernel)) (by decide +kernel)
theorem dX11_set_43 : decode cX11_set 43 = .ok (.bipush 9, 2) := dc_16 (byA eNcX11_set (p := 43) (v := 16) (by decide +kernel)) (byA eNcX11_set (p := 44) (v := 9) (by decide +kernel)) (by decide +kernel)
theorem dX11_set_45 : decode cX11_set 45 = .ok (.goto 19, 3) := dc_167 (byA eNcX11_set (p := 45) (v := 167) (by decide +kernel)) (byA eNcX11_set (p := 46) (v := 0) (by decide +kernel)) (byA eNcX11_set (p := 47) (v := 19) (by decide +kernel)) (by decide +kernel)
theorem dX11_set_48 : decode cX11_set 48 = .ok (.iload_n 1, 1) := dc_27 (byA eNcX11_set (p := 48) (v := 27) (by decide +kernel))
theorem dX11_set_49 : decode cX11_set 49 = .ok (.iconst 1, 1) := dc_4 (byA eNcX11_set (p := 49) (v := 4) (by decide +kernel))
theorem dX11_set_50 : decode cX11_set 50 = .ok (.if_icmp .ne 8, 3) := dc_160 (byA eNcX11_set (p := 50) (v := 160) (by decide +kernel)) (byA eNcX11_set (p := 51) (v := 0) (by decide +kernel)) (byA eNcX11_set (p := 52) (v := 8) (by decide +kernel)) (by decide +kernel)
theorem dX11_set_53 : decode cX11_set 53 = .ok (.bipush 99, 2) := dc_16 (byA eNcX11_set (p := 53) (v := 16) (by decide +kernel)) (byA eNcX11_set (p := 54) (v := 99) (by decide +kernel)) (by decide +kernel)
theorem dX11_set_55 : decode cX11_set 55 = .ok (.goto 9, 3) := dc_167 (byA eNcX11_set (p := 55) (v := 167) (by decide +kernel)) (byA eNcX11_set (p := 56) (v := 0) (by decide +kernel)) (byA eNcX11_set (p := 57) (v := 9) (by decide +kernel)) (by decide +kernel)
theorem dX11_set_58 : decode cX11_set 58 = .ok (.aload_n 0, 1) := dc_42 (byA eNcX11_set (p := 58) (v := 42) (by decide +kernel))
theorem dX11_set_59 : decode cX11_set 59 = .ok (.getfield 278, 3) := dc_180 (byA eNcX11_set (p := 59) (v := 180) (by decide +kernel)) (byA eNcX11_set (p := 60) (v := 1) (by decide +kernel)) (byA eNcX11_set (p := 61) (v := 22) (by decide +kernel)) rfl
theorem dX11_set_62 : decode cX11_set 62 = .ok (.iconst 1, 1) := dc_4 (byA eNcX11_set (p := 62) (v := 4) (by decide +kernel))
theorem dX11_set_63 : decode cX11_set 63 = .ok (.isub, 1) := dc_100 (byA eNcX11_set (p := 63) (v := 100) (by decide +kernel))
theorem dX11_set_64 : decode cX11_set 64 = .ok (.invokestatic 213, 3) := dc_184 (byA eNcX11_set (p := 64) (v := 184) (by decide +kernel)) (byA eNcX11_set (p := 65) (v := 0) (by decide +kernel)) (byA eNcX11_set (p := 66) (v := 213) (by decide +kernel)) rfl
theorem dX11_set_67 : decode cX11_set 67 = .ok (.ifCond .ne 5, 3) := dc_154 (byA eNcX11_set (p := 67) (v := 154) (by decide +kernel)) (byA eNcX11_set (p := 68) (v := 0) (by decide +kernel)) (byA eNcX11_set (p := 69) (v := 5) (by decide +kernel)) (by decide +kernel)
theorem dX11_set_70 : decode cX11_set 70 = .ok (.iconst 0, 1) := dc_3 (byA eNcX11_set (p := 70) (v := 3) (by decide +kernel))
theorem dX11_set_71 : decode cX11_set 71 = .ok (.ireturn, 1) := dc_172 (byA eNcX11_set (p := 71) (v := 172) (by decide +kernel))
theorem dX11_set_72 : decode cX11_set 72 = .ok (.aload_n 0, 1) := dc_42 (byA eNcX11_set (p := 72) (v := 42) (by decide +kernel))
theorem dX11_set_73 : decode cX11_set 73 = .ok (.iload_n 1, 1) := dc_27 (byA eNcX11_set (p := 73) (v := 27) (by decide +kernel))
theorem dX11_set_74 : decode cX11_set 74 = .ok (.ifCond .ne 7, 3) := dc_154 (byA eNcX11_set (p := 74) (v := 154) (by decide +kernel)) (byA eNcX11_set (p := 75) (v := 0) (by decide +kernel)) (byA eNcX11_set (p := 76) (v := 7) (by decide +kernel)) (by decide +kernel)
theorem dX11_set_77 : decode cX11_set 77 = .ok (.iload_n 2, 1) := dc_28 (byA eNcX11_set (p := 77) (v := 28) (by decide +kernel))
theorem dX11_set_78 : decode cX11_set 78 = .ok (.goto 7, 3) := dc_167 (byA eNcX11_set (p := 78) (v := 167) (by decide +kernel)) (byA eNcX11_set (p := 79) (v := 0) (by decide +kernel)) (byA eNcX11_set (p := 80) (v := 7) (by decide +kernel)) (by decide +kernel)
theorem dX11_set_81 : decode cX11_set 81 = .ok (.aload_n 0, 1) := dc_42 (byA eNcX11_set (p := 81) (v := 42) (by decide +kernel))
theorem dX11_set_82 : decode cX11_set 82 = .ok (.getfield 58, 3) := dc_180 (byA eNcX11_set (p := 82) (v := 180) (by decide +kernel)) (byA eNcX11_set (p := 83) (v := 0) (by decide +kernel)) (byA eNcX11_set (p := 84) (v := 58) (by decide +kernel)) rfl
theorem dX11_set_85 : decode cX11_set 85 = .ok (.putfield 58, 3) := dc_181 (byA eNcX11_set (p := 85) (v := 181) (by decide +kernel)) (byA eNcX11_set (p := 86) (v := 0) (by decide +kernel)) (byA eNcX11_set (p := 87) (v := 58) (by decide +kernel)) rfl
theorem dX11_set_88 : decode cX11_set 88 = .ok (.aload_n 0, 1) := dc_42 (byA eNcX11_set (p := 88) (v := 42) (by decide +kernel))
theorem dX11_set_89 : decode cX11_set 89 = .ok (.iload_n 1, 1) := dc_27 (byA eNcX11_set (p := 89) (v := 27) (by decide +kernel))
theorem dX11_set_90 : decode cX11_set 90 = .ok (.iconst 1, 1) := dc_4 (byA eNcX11_set (p := 90) (v := 4) (by decide +kernel))
theorem dX11_set_91 : decode cX11_set 91 = .ok (.if_icmp .ne 7, 3) := dc_160 (byA eNcX11_set (p := 91) (v := 160) (by decide +kernel)) (byA eNcX11_set (p := 92) (v := 0) (by decide +kernel)) (byA eNcX11_set (p := 93) (v := 7) (by decide +kernel)) (by decide +kernel)
theorem dX11_set_94 : decode cX11_set 94 = .ok (.iload_n 2, 1) := dc_28 (byA eNcX11_set (p := 94) (v := 28) (by decide +kernel))
theorem dX11_set_95 : decode cX11_set 95 = .ok (.goto 7, 3) := dc_167 (byA eNcX11_set (p := 95) (v := 167) (by decide +kernel)) (byA eNcX11_set (p := 96) (v := 0) (by decide +kernel)) (byA eNcX11_set (p := 97) (v := 7) (by decide +kernel)) (by decide +kernel)
theorem dX11_set_98 : decode cX11_set 98 = .ok (.aload_n 0, 1) := dc_42 (byA eNcX11_set (p := 98) (v := 42) (by decide +kernel))
theorem dX11_set_99 : decode cX11_set 99 = .ok (.getfield 307, 3) := dc_180 (byA eNcX11_set (p := 99) (v := 180) (by decide +kernel)) (byA eNcX11_set (p := 100) (v := 1) (by decide +kernel)) (byA eNcX11_set (p := 101) (v := 51) (by decide +kernel)) rfl
theorem dX11_set_102 : decode cX11_set 102 = .ok (.putfield 307, 3) := dc_181 (byA eNcX11_set (p := 102) (v := 181) (by decide +kernel)) (byA eNcX11_set (p := 103) (v := 1) (by decide +kernel)) (byA eNcX11_set (p := 104) (v := 51) (by decide +kernel)) rfl
theorem dX11_set_105 : decode cX11_set 105 = .ok (.aload_n 0, 1) := dc_42 (byA eNcX11_set (p := 105) (v := 42) (by decide +kernel))
theorem dX11_set_106 : decode cX11_set 106 = .ok (.iload_n 1, 1) := dc_27 (byA eNcX11_set (p := 106) (v := 27) (by decide +kernel))
theorem dX11_set_107 : decode cX11_set 107 = .ok (.iconst 2, 1) := dc_5 (byA eNcX11_set (p := 107) (v := 5) (by decide +kernel))
theorem dX11_set_108 : decode cX11_set 108 = .ok (.if_icmp .ne 7, 3) := dc_160 (byA eNcX11_set (p := 108) (v := 160) (by decide +kernel)) (byA eNcX11_set (p := 109) (v := 0) (by decide +kernel)) (byA eNcX11_set (p := 110) (v := 7) (by decide +kernel)) (by decide +kernel)
theorem dX11_set_111 : decode cX11_set 111 = .ok (.iload_n 2, 1) := dc_28 (byA eNcX11_set (p := 111) (v := 28) (by decide +kernel))
theorem dX11_set_112 : decode cX11_set 112 = .ok (.goto 7, 3) := dc_167 (byA eNcX11_set (p := 112) (v := 167) (by decide +kernel)) (byA eNcX11_set (p := 113) (v := 0) (by decide +kernel)) (byA eNcX11_set (p := 114) (v := 7) (by decide +kernel)) (by decide +kernel)
theorem dX11_set_115 : decode cX11_set 115 = .ok (.aload_n 0, 1) := dc_42 (byA eNcX11_set (p := 115) (v := 42) (by decide +kernel))
theorem dX11_set_116 : decode cX11_set 116 = .ok (.getfield 62, 3) := dc_180 (byA eNcX11_set (p := 116) (v := 180) (by decide +kernel)) (byA eNcX11_set (p := 117) (v := 0) (by decide +kernel)) (byA eNcX11_set (p := 118) (v := 62) (by decide +kernel)) rfl
theorem dX11_set_119 : decode cX11_set 119 = .ok (.putfield 62, 3) := dc_181 (byA eNcX11_set (p := 119) (v := 181) (by decide +kernel)) (byA eNcX11_set (p := 120) (v := 0) (by decide +kernel)) (byA eNcX11_set (p := 121) (v := 62) (by decide +kernel)) rfl
theorem dX11_set_122 : decode cX11_set 122 = .ok (.iconst 1, 1) := dc_4 (byA eNcX11_set (p := 122) (v := 4) (by decide +kernel))
theorem dX11_set_123 : decode cX11_set 123 = .ok (.ireturn, 1) := dc_172 (byA eNcX11_set (p := 123) (v := 172) (by decide +kernel))
def X11_set_J102 (l1 : Int) (l2 : Int) (s1 : Int) (μ : Mm) : Rs := sF μ 70 31 s1 fun μ17 => if l1 = 2 then (sF μ17 70 32 l2 fun μ20 => some (1, μ20)) else (sF μ17 70 32 (μ17 70 32) fun μ19 => some (1, μ19))
def X11_set_J85 (l1 : Int) (l2 : Int) (s1 : Int) (μ : Mm) : Rs := sF μ 70 30 s1 fun μ15 => if l1 = 1 then (X11_set_J102 l1 l2 l2 μ15) else (X11_set_J102 l1 l2 (μ15 70 31) μ15)
def X11_set_J64 (l1 : Int) (l2 : Int) (s0 : Int) (s1 : Int) (s2 : Int) (μ : Mm) : Rs := bd (X11_in s0 s1 s2 μ) fun v10 μ11 => if v10 = 0 then (some (0, μ11)) else (if l1 = 0 then (X11_set_J85 l1 l2 l2 μ11) else (X11_set_J85 l1 l2 (μ11 70 30) μ11))
def X11_set_J39 (l1 : Int) (l2 : Int) (s0 : Int) (s1 : Int) (μ : Mm) : Rs := if l1 = 0 then (X11_set_J64 l1 l2 s0 s1 9 μ) else (if l1 = 1 then (X11_set_J64 l1 l2 s0 s1 99 μ) else (X11_set_J64 l1 l2 s0 s1 (iS (μ 70 13) 1) μ))
def X11_set_J11 (l1 : Int) (l2 : Int) (μ : Mm) : Rs := bd (X11_in l1 0 2 μ) fun v2 μ3 => if v2 = 0 then (some (0, μ3)) else (if l1 = 0 then (X11_set_J39 l1 l2 l2 1 μ3) else (if l1 = 1 then (X11_set_J39 l1 l2 l2 0 μ3) else (X11_set_J39 l1 l2 l2 (-1) μ3)))
def X11_set (l1 : Int) (l2 : Int) (μ : Mm) : Rs := if l1 = 0 then (if (μ 70 23) = 0 then (some (0, μ)) else (X11_set_J11 l1 l2 μ)) else (X11_set_J11 l1 l2 μ)
set_option maxHeartbeats 4000000 in
set_option maxRecDepth 100000 in
theorem kX11_set_J102 (d : Nat) (hd : 2 ≤ d) {l1 : Int} {l2 : Int} {s1 : Int} {μ : Mm} {r : Int} {μ' : Mm} (h : X11_set_J102 l1 l2 s1 μ = some (r, μ')) : VV d mX11_set 102 [some (vR 70), some (vI l1), some (vI l2)] [vI s1, vR 70] μ r μ' := by
  unfold X11_set_J102 at h
  have h := sF_i h
  refine V_putI (q := 105) fl_X11_307 rfl rfl rfl dX11_set_102 rfl ?_
  refine V_aload_n (q := 106) dX11_set_105 rfl rfl rfl ?_
  refine V_iload_n (q := 107) dX11_set_106 rfl rfl rfl ?_
  refine V_iconst (q := 108) dX11_set_107 rfl rfl ?_
  refine V_icmpne (q := 115) (q2 := 111) dX11_set_108 (by decide) rfl (fun hc18 => ?_) (fun hc18 => ?_)
  · have h := ifF hc18 h
    refine V_aload_n (q := 116) dX11_set_115 rfl rfl rfl ?_
    refine V_getI (q := 119) fl_X11_62 rfl rfl rfl dX11_set_116 rfl ?_
    have h := sF_i h
    refine V_putI (q := 122) fl_X11_62 rfl rfl rfl dX11_set_119 rfl ?_
    refine V_iconst (q := 123) dX11_set_122 rfl rfl ?_
    exact V_zret rfl (Or.inr rfl) h dX11_set_123
  · have h := ifT hc18 h
    refine V_iload_n (q := 112) dX11_set_111 rfl rfl rfl ?_
    refine V_goto (q := 119) dX11_set_112 (by decide) ?_
    have h := sF_i h
    refine V_putI (q := 122) fl_X11_62 rfl rfl rfl dX11_set_119 rfl ?_
    refine V_iconst (q := 123) dX11_set_122 rfl rfl ?_
    exact V_zret rfl (Or.inr rfl) h dX11_set_123
set_option maxHeartbeats 4000000 in
set_option maxRecDepth 100000 in
theorem kX11_set_J85 (d : Nat) (hd : 2 ≤ d) {l1 : Int} {l2 : Int} {s1 : Int} {μ : Mm} {r : Int} {μ' : Mm} (h : X11_set_J85 l1 l2 s1 μ = some (r, μ')) : VV d mX11_set 85 [some (vR 70), some (vI l1), some (vI l2)] [vI s1, vR 70] μ r μ' := by
  unfold X11_set_J85 at h
  have h := sF_i h
  refine V_putI (q := 88) fl_X11_58 rfl rfl rfl dX11_set_85 rfl ?_
  refine V_aload_n (q := 89) dX11_set_88 rfl rfl rfl ?_
  refine V_iload_n (q := 90) dX11_set_89 rfl rfl rfl ?_
  refine V_iconst (q := 91) dX11_set_90 rfl rfl ?_
  refine V_icmpne (q := 98) (q2 := 94) dX11_set_91 (by decide) rfl (fun hc16 => ?_) (fun hc16 => ?_)
  · have h := ifF hc16 h
    refine V_aload_n (q := 99) dX11_set_98 rfl rfl rfl ?_
    refine V_getI (q := 102) fl_X11_307 rfl rfl rfl dX11_set_99 rfl ?_
    exact V_weak (kX11_set_J102 d hd h) (sb_s rfl (sb_s rfl (sb_s rfl sb_0)))
  · have h := ifT hc16 h
    refine V_iload_n (q := 95) dX11_set_94 rfl rfl rfl ?_
    refine V_goto (q := 102) dX11_set_95 (by decide) ?_
    exact V_weak (kX11_set_J102 d hd h) (sb_s rfl (sb_s rfl (sb_s rfl sb_0)))
set_option maxHeartbeats 4000000 in
set_option maxRecDepth 100000 in
theorem kX11_set_J64 (d : Nat) (hd : 2 ≤ d) {l1 : Int} {l2 : Int} {s0 : Int} {s1 : Int} {s2 : Int} {μ : Mm} {r : Int} {μ' : Mm} (h : X11_set_J64 l1 l2 s0 s1 s2 μ = some (r, μ')) : VV d mX11_set 64 [some (vR 70), some (vI l1), some (vI l2)] [vI s2, vI s1, vI s0] μ r μ' := by
  unfold X11_set_J64 at h
  obtain ⟨v10, μ11, hc12, h⟩ := bd_i h
  refine V_cS1 (q := 67) (v := vI v10) (kX11_in (d - 1) (by omega) hc12) (by omega) mv_X11_213 rfl rfl rfl rfl dX11_set_64 rfl ?_
  refine V_ifne (q := 72) (q2 := 70) dX11_set_67 (by decide) rfl (fun hc13 => ?_) (fun hc13 => ?_)
  · have h := ifF hc13 h
    refine V_aload_n (q := 73) dX11_set_72 rfl rfl rfl ?_
    refine V_iload_n (q := 74) dX11_set_73 rfl rfl rfl ?_
    refine V_ifne (q := 81) (q2 := 77) dX11_set_74 (by decide) rfl (fun hc14 => ?_) (fun hc14 => ?_)
    · have h := ifF hc14 h
      refine V_aload_n (q := 82) dX11_set_81 rfl rfl rfl ?_
      refine V_getI (q := 85) fl_X11_58 rfl rfl rfl dX11_set_82 rfl ?_
      exact V_weak (kX11_set_J85 d hd h) (sb_s rfl (sb_s rfl (sb_s rfl sb_0)))
    · have h := ifT hc14 h
      refine V_iload_n (q := 78) dX11_set_77 rfl rfl rfl ?_
      refine V_goto (q := 85) dX11_set_78 (by decide) ?_
      exact V_weak (kX11_set_J85 d hd h) (sb_s rfl (sb_s rfl (sb_s rfl sb_0)))
  · have h := ifT hc13 h
    refine V_iconst (q := 71) dX11_set_70 rfl rfl ?_
    exact V_zret rfl (Or.inl rfl) h dX11_set_71
set_option maxHeartbeats 4000000 in
set_option maxRecDepth 100000 in
theorem kX11_set_J39 (d : Nat) (hd : 2 ≤ d) {l1 : Int} {l2 : Int} {s0 : Int} {s1 : Int} {μ : Mm} {r : Int} {μ' : Mm} (h : X11_set_J39 l1 l2 s0 s1 μ = some (r, μ')) : VV d mX11_set 39 [some (vR 70), some (vI l1), some (vI l2)] [vI s1, vI s0] μ r μ' := by
  unfold X11_set_J39 at h
  refine V_iload_n (q := 40) dX11_set_39 rfl rfl rfl ?_
  refine V_ifne (q := 48) (q2 := 43) dX11_set_40 (by decide) rfl (fun hc8 => ?_) (fun hc8 => ?_)
  · have h := ifF hc8 h
    refine V_iload_n (q := 49) dX11_set_48 rfl rfl rfl ?_
    refine V_iconst (q := 50) dX11_set_49 rfl rfl ?_
    refine V_icmpne (q := 58) (q2 := 53) dX11_set_50 (by decide) rfl (fun hc9 => ?_) (fun hc9 => ?_)
    · have h := ifF hc9 h
      refine V_aload_n (q := 59) dX11_set_58 rfl rfl rfl ?_
      refine V_getI (q := 62) fl_X11_278 rfl rfl rfl dX11_set_59 rfl ?_
      refine V_iconst (q := 63) dX11_set_62 rfl rfl ?_
      refine V_isub (q := 64) dX11_set_63 rfl ?_
      exact V_weak (kX11_set_J64 d hd h) (sb_s rfl (sb_s rfl (sb_s rfl sb_0)))
    · have h := ifT hc9 h
      refine V_bipush (q := 55) dX11_set_53 rfl rfl rfl ?_
      refine V_goto (q := 64) dX11_set_55 (by decide) ?_
      exact V_weak (kX11_set_J64 d hd h) (sb_s rfl (sb_s rfl (sb_s rfl sb_0)))
  · have h := ifT hc8 h
    refine V_bipush (q := 45) dX11_set_43 rfl rfl rfl ?_
    refine V_goto (q := 64) dX11_set_45 (by decide) ?_
    exact V_weak (kX11_set_J64 d hd h) (sb_s rfl (sb_s rfl (sb_s rfl sb_0)))
set_option maxHeartbeats 4000000 in
set_option maxRecDepth 100000 in
theorem kX11_set_J11 (d : Nat) (hd : 2 ≤ d) {l1 : Int} {l2 : Int} {μ : Mm} {r : Int} {μ' : Mm} (h : X11_set_J11 l1 l2 μ = some (r, μ')) : VV d mX11_set 11 [some (vR 70), some (vI l1), some (vI l2)] [] μ r μ' := by
  unfold X11_set_J11 at h
  refine V_iload_n (q := 12) dX11_set_11 rfl rfl rfl ?_
  refine V_iconst (q := 13) dX11_set_12 rfl rfl ?_
  refine V_iconst (q := 14) dX11_set_13 rfl rfl ?_
  obtain ⟨v2, μ3, hc4, h⟩ := bd_i h
  refine V_cS1 (q := 17) (v := vI v2) (kX11_in (d - 1) (by omega) hc4) (by omega) mv_X11_213 rfl rfl rfl rfl dX11_set_14 rfl ?_
  refine V_ifeq (q := 70) (q2 := 20) dX11_set_17 (by decide) rfl (fun hc5 => ?_) (fun hc5 => ?_)
  · have h := ifT hc5 h
    refine V_iconst (q := 71) dX11_set_70 rfl rfl ?_
    exact V_zret rfl (Or.inl rfl) h dX11_set_71
  · have h := ifF hc5 h
    refine V_iload_n (q := 21) dX11_set_20 rfl rfl rfl ?_
    refine V_iload_n (q := 22) dX11_set_21 rfl rfl rfl ?_
    refine V_ifne (q := 29) (q2 := 25) dX11_set_22 (by decide) rfl (fun hc6 => ?_) (fun hc6 => ?_)
    · have h := ifF hc6 h
      refine V_iload_n (q := 30) dX11_set_29 rfl rfl rfl ?_
      refine V_iconst (q := 31) dX11_set_30 rfl rfl ?_
      refine V_icmpne (q := 38) (q2 := 34) dX11_set_31 (by decide) rfl (fun hc7 => ?_) (fun hc7 => ?_)
      · have h := ifF hc7 h
        refine V_iconst (q := 39) dX11_set_38 rfl rfl ?_
        exact V_weak (kX11_set_J39 d hd h) (sb_s rfl (sb_s rfl (sb_s rfl sb_0)))
      · have h := ifT hc7 h
        refine V_iconst (q := 35) dX11_set_34 rfl rfl ?_
        refine V_goto (q := 39) dX11_set_35 (by decide) ?_
        exact V_weak (kX11_set_J39 d hd h) (sb_s rfl (sb_s rfl (sb_s rfl sb_0)))
    · have h := ifT hc6 h
      refine V_iconst (q := 26) dX11_set_25 rfl rfl ?_
      refine V_goto (q := 39) dX11_set_26 (by decide) ?_
      exact V_weak (kX11_set_J39 d hd h) (sb_s rfl (sb_s rfl (sb_s rfl sb_0)))
set_option maxHeartbeats 4000000 in
set_option maxRecDepth 100000 in
theorem kX11_set (d : Nat) (hd : 2 ≤ d) {l1 : Int} {l2 : Int} {μ : Mm} {r : Int} {μ' : Mm} (h : X11_set l1 l2 μ = some (r, μ')) : CC d mX11_set [vR 70, vI l1, vI l2] μ r μ' := by
  unfold X11_set at h
  refine V_enter (by decide) (Nat.le_of_ble_eq_true rfl) ?_
  show VV d mX11_set 0 [some (vR 70), some (vI l1), some (vI l2)] [] μ r μ'
  refine V_iload_n (q := 1) dX11_set_0 rfl rfl rfl ?_
  refine V_ifne (q := 11) (q2 := 4) dX11_set_1 (by decide) rfl (fun hc1 => ?_) (fun hc1 => ?_)
  · have h := ifF hc1 h
    exact V_weak (kX11_set_J11 d hd h) (sb_s rfl (sb_s rfl (sb_s rfl sb_0)))
  · have h := ifT hc1 h
    refine V_aload_n (q := 5) dX11_set_4 rfl rfl rfl ?_
    refine V_getI (q := 8) fl_X11_252 rfl rfl rfl dX11_set_5 rfl ?_
    refine V_ifeq (q := 70) (q2 := 11) dX11_set_8 (by decide) rfl (fun hc21 => ?_) (fun hc21 => ?_)
    · have h := ifT hc21 h
      refine V_iconst (q := 71) dX11_set_70 rfl rfl ?_
      exact V_zret rfl (Or.inl rfl) h dX11_set_71
    · have h := ifF hc21 h
      exact V_weak (kX11_set_J11 d hd h) (sb_s rfl (sb_s rfl (sb_s rfl sb_0)))
abbrev mX11_wind : Mth := (yX11_wind, cX11_wind, 3, some .boolean)
set_option maxRecDepth 100000 in
theorem mi_X11_wind : Cond.instanceMethod yX11_wind ∈ tG ∧ Cond.selects yX11_wind.cls yX11_wind yX11_wind ∈ tG ∧ Cond.initialized yX11_wind.cls ∈ tG ∧ Cond.code yX11_wind cX11_wind 3 (some .boolean) ∈ tG ∧ (yX11_wind.cls ≠ "java/lang/invoke/MethodHandle" ∧ yX11_wind.cls ≠ "java/lang/invoke/VarHandle" ∧ (parseMethodDescriptor yX11_wind.desc).map (fun d => d.parameters.length) = some 2) ∧ 3 ≤ 60 := ⟨(tG_of (tb6 (List.mem_of_getElem? (i := 238) rfl)) (by decide +kernel)), (tG_of (tb6 (List.mem_of_getElem? (i := 239) rfl)) (by decide +kernel)), (tG_of (tb1 (List.mem_of_getElem? (i := 12) rfl)) (by decide +kernel)), (tG_of (tb7 (List.mem_of_getElem? (i := 0) rfl)) (by decide +kernel)), ⟨by decide, by decide, by decide +kernel⟩, by decide⟩
theorem dX11_wind_0 : decode cX11_wind 0 = .ok (.aload_n 0, 1) := dc_42 (byA eNcX11_wind (p := 0) (v := 42) (by decide +kernel))
theorem dX11_wind_1 : decode cX11_wind 1 = .ok (.iload_n 1, 1) := dc_27 (byA eNcX11_wind (p := 1) (v := 27) (by decide +kernel))
theorem dX11_wind_2 : decode cX11_wind 2 = .ok (.invokevirtual 284, 3) := dc_182 (byA eNcX11_wind (p := 2) (v := 182) (by decide +kernel)) (byA eNcX11_wind (p := 3) (v := 1) (by decide +kernel)) (byA eNcX11_wind (p := 4) (v := 28) (by decide +kernel)) rfl
theorem dX11_wind_5 : decode cX11_wind 5 = .ok (.ifCond .eq 13, 3) := dc_153 (byA eNcX11_wind (p := 5) (v := 153) (by decide +kernel)) (byA eNcX11_wind (p := 6) (v := 0) (by decide +kernel)) (byA eNcX11_wind (p := 7) (v := 13) (by decide +kernel)) (by decide +kernel)
theorem dX11_wind_8 : decode cX11_wind 8 = .ok (.iload_n 2, 1) := dc_28 (byA eNcX11_wind (p := 8) (v := 28) (by decide +kernel))
theorem dX11_wind_9 : decode cX11_wind 9 = .ok (.iconst 1, 1) := dc_4 (byA eNcX11_wind (p := 9) (v := 4) (by decide +kernel))
theorem dX11_wind_10 : decode cX11_wind 10 = .ok (.bipush 30, 2) := dc_16 (byA eNcX11_wind (p := 10) (v := 16) (by decide +kernel)) (byA eNcX11_wind (p := 11) (v := 30) (by decide +kernel)) (by decide +kernel)
theorem dX11_wind_12 : decode cX11_wind 12 = .ok (.invokestatic 213, 3) := dc_184 (byA eNcX11_wind (p := 12) (v := 184) (by decide +kernel)) (byA eNcX11_wind (p := 13) (v := 0) (by decide +kernel)) (byA eNcX11_wind (p := 14) (v := 213) (by decide +kernel)) rfl
theorem dX11_wind_15 : decode cX11_wind 15 = .ok (.ifCond .ne 5, 3) := dc_154 (byA eNcX11_wind (p := 15) (v := 154) (by decide +kernel)) (byA eNcX11_wind (p := 16) (v := 0) (by decide +kernel)) (byA eNcX11_wind (p := 17) (v := 5) (by decide +kernel)) (by decide +kernel)
theorem dX11_wind_18 : decode cX11_wind 18 = .ok (.iconst 0, 1) := dc_3 (byA eNcX11_wind (p := 18) (v := 3) (by decide +kernel))
theorem dX11_wind_19 : decode cX11_wind 19 = .ok (.ireturn, 1) := dc_172 (byA eNcX11_wind (p := 19) (v := 172) (by decide +kernel))
theorem dX11_wind_20 : decode cX11_wind 20 = .ok (.aload_n 0, 1) := dc_42 (byA eNcX11_wind (p := 20) (v := 42) (by decide +kernel))
theorem dX11_wind_21 : decode cX11_wind 21 = .ok (.getfield 55, 3) := dc_180 (byA eNcX11_wind (p := 21) (v := 180) (by decide +kernel)) (byA eNcX11_wind (p := 22) (v := 0) (by decide +kernel)) (byA eNcX11_wind (p := 23) (v := 55) (by decide +kernel)) rfl
theorem dX11_wind_24 : decode cX11_wind 24 = .ok (.iload_n 1, 1) := dc_27 (byA eNcX11_wind (p := 24) (v := 27) (by decide +kernel))
theorem dX11_wind_25 : decode cX11_wind 25 = .ok (.iload_n 2, 1) := dc_28 (byA eNcX11_wind (p := 25) (v := 28) (by decide +kernel))
theorem dX11_wind_26 : decode cX11_wind 26 = .ok (.iastore, 1) := dc_79 (byA eNcX11_wind (p := 26) (v := 79) (by decide +kernel))
theorem dX11_wind_27 : decode cX11_wind 27 = .ok (.iconst 1, 1) := dc_4 (byA eNcX11_wind (p := 27) (v := 4) (by decide +kernel))
theorem dX11_wind_28 : decode cX11_wind 28 = .ok (.ireturn, 1) := dc_172 (byA eNcX11_wind (p := 28) (v := 172) (by decide +kernel))
def X11_wind (l1 : Int) (l2 : Int) (μ : Mm) : Rs := bd (X11_isCrank l1 μ) fun v1 μ2 => if v1 = 0 then (some (0, μ2)) else (bd (X11_in l2 1 30 μ2) fun v5 μ6 => if v5 = 0 then (some (0, μ6)) else (stA μ6 86 l1 l2 fun μ9 => some (1, μ9)))
set_option maxHeartbeats 4000000 in
set_option maxRecDepth 100000 in
theorem kX11_wind (d : Nat) (hd : 4 ≤ d) {l1 : Int} {l2 : Int} {μ : Mm} {r : Int} {μ' : Mm} (h : X11_wind l1 l2 μ = some (r, μ')) : CC d mX11_wind [vR 70, vI l1, vI l2] μ r μ' := by
  unfold X11_wind at h
  refine V_enter (by decide) (Nat.le_of_ble_eq_true rfl) ?_
  show VV d mX11_wind 0 [some (vR 70), some (vI l1), some (vI l2)] [] μ r μ'
  refine V_aload_n (q := 1) dX11_wind_0 rfl rfl rfl ?_
  refine V_iload_n (q := 2) dX11_wind_1 rfl rfl rfl ?_
  obtain ⟨v1, μ2, hc3, h⟩ := bd_i h
  refine V_cV1 (q := 5) (v := vI v1) (kX11_isCrank (d - 1) (by omega) hc3) (by omega) mv_X11_284 rfl rfl rfl rfl rfl rfl dX11_wind_2 rfl ?_
  refine V_ifeq (q := 18) (q2 := 8) dX11_wind_5 (by decide) rfl (fun hc4 => ?_) (fun hc4 => ?_)
  · have h := ifT hc4 h
    refine V_iconst (q := 19) dX11_wind_18 rfl rfl ?_
    exact V_zret rfl (Or.inl rfl) h dX11_wind_19
  · have h := ifF hc4 h
    refine V_iload_n (q := 9) dX11_wind_8 rfl rfl rfl ?_
    refine V_iconst (q := 10) dX11_wind_9 rfl rfl ?_
    refine V_bipush (q := 12) dX11_wind_10 rfl rfl rfl ?_
    obtain ⟨v5, μ6, hc7, h⟩ := bd_i h
    refine V_cS1 (q := 15) (v := vI v5) (kX11_in (d - 1) (by omega) hc7) (by omega) mv_X11_213 rfl rfl rfl rfl dX11_wind_12 rfl ?_
    refine V_ifne (q := 20) (q2 := 18) dX11_wind_15 (by decide) rfl (fun hc8 => ?_) (fun hc8 => ?_)
    · have h := ifF hc8 h
      refine V_aload_n (q := 21) dX11_wind_20 rfl rfl rfl ?_
      refine V_getO (q := 24) (t := 86) fl_X11_55 rfl rfl rfl rfl dX11_wind_21 rfl ?_
      refine V_iload_n (q := 25) dX11_wind_24 rfl rfl rfl ?_
      refine V_iload_n (q := 26) dX11_wind_25 rfl rfl rfl ?_
      obtain ⟨hi10, h⟩ := stA_i h
      refine V_iastore (q := 27) rfl hi10 dX11_wind_26 rfl ?_
      refine V_iconst (q := 28) dX11_wind_27 rfl rfl ?_
      exact V_zret rfl (Or.inr rfl) h dX11_wind_28
    · have h := ifT hc8 h
      refine V_iconst (q := 19) dX11_wind_18 rfl rfl ?_
      exact V_zret rfl (Or.inl rfl) h dX11_wind_19
abbrev mX11_change : Mth := (yX11_change, cX11_change, 5, none)
set_option maxRecDepth 100000 in
theorem mi_X11_change : Cond.instanceMethod yX11_change ∈ tG ∧ Cond.selects yX11_change.cls yX11_change yX11_change ∈ tG ∧ Cond.initialized yX11_change.cls ∈ tG ∧ Cond.code yX11_change cX11_change 5 (none) ∈ tG ∧ (yX11_change.cls ≠ "java/lang/invoke/MethodHandle" ∧ yX11_change.cls ≠ "java/lang/invoke/VarHandle" ∧ (parseMethodDescriptor yX11_change.desc).map (fun d => d.parameters.length) = some 2) ∧ 5 ≤ 60 := ⟨(tG_of (tb7 (List.mem_of_getElem? (i := 7) rfl)) (by decide +kernel)), (tG_of (List.mem_of_getElem? (i := 81) (by decide +kernel)) (by decide +kernel)), (tG_of (tb1 (List.mem_of_getElem? (i := 12) rfl)) (by decide +kernel)), (tG_of (tb7 (List.mem_of_getElem? (i := 8) rfl)) (by decide +kernel)), ⟨by decide, by decide, by decide +kernel⟩, by decide⟩
set_option maxRecDepth 100000 in
theorem mv_X11_313 : mV RX11 313 mX11_change 2 := ⟨(tG_of (tb7 (List.mem_of_getElem? (i := 5) rfl)) (by decide +kernel)), mi_X11_change⟩
theorem dX11_change_0 : decode cX11_change 0 = .ok (.aload_n 0, 1) := dc_42 (byA eNcX11_change (p := 0) (v := 42) (by decide +kernel))
theorem dX11_change_1 : decode cX11_change 1 = .ok (.iconst 3, 1) := dc_6 (byA eNcX11_change (p := 1) (v := 6) (by decide +kernel))
theorem dX11_change_2 : decode cX11_change 2 = .ok (.iload_n 1, 1) := dc_27 (byA eNcX11_change (p := 2) (v := 27) (by decide +kernel))
theorem dX11_change_3 : decode cX11_change 3 = .ok (.iadd, 1) := dc_96 (byA eNcX11_change (p := 3) (v := 96) (by decide +kernel))
theorem dX11_change_4 : decode cX11_change 4 = .ok (.invokevirtual 281, 3) := dc_182 (byA eNcX11_change (p := 4) (v := 182) (by decide +kernel)) (byA eNcX11_change (p := 5) (v := 1) (by decide +kernel)) (byA eNcX11_change (p := 6) (v := 25) (by decide +kernel)) rfl
theorem dX11_change_7 : decode cX11_change 7 = .ok (.istore_n 3, 1) := dc_62 (byA eNcX11_change (p := 7) (v := 62) (by decide +kernel))
theorem dX11_change_8 : decode cX11_change 8 = .ok (.aload_n 0, 1) := dc_42 (byA eNcX11_change (p := 8) (v := 42) (by decide +kernel))
theorem dX11_change_9 : decode cX11_change 9 = .ok (.iconst 3, 1) := dc_6 (byA eNcX11_change (p := 9) (v := 6) (by decide +kernel))
theorem dX11_change_10 : decode cX11_change 10 = .ok (.iload_n 2, 1) := dc_28 (byA eNcX11_change (p := 10) (v := 28) (by decide +kernel))
theorem dX11_change_11 : decode cX11_change 11 = .ok (.iadd, 1) := dc_96 (byA eNcX11_change (p := 11) (v := 96) (by decide +kernel))
theorem dX11_change_12 : decode cX11_change 12 = .ok (.invokevirtual 281, 3) := dc_182 (byA eNcX11_change (p := 12) (v := 182) (by decide +kernel)) (byA eNcX11_change (p := 13) (v := 1) (by decide +kernel)) (byA eNcX11_change (p := 14) (v := 25) (by decide +kernel)) rfl
theorem dX11_change_15 : decode cX11_change 15 = .ok (.istore 4, 2) := dc_54 (byA eNcX11_change (p := 15) (v := 54) (by decide +kernel)) (byA eNcX11_change (p := 16) (v := 4) (by decide +kernel))
theorem dX11_change_17 : decode cX11_change 17 = .ok (.aload_n 0, 1) := dc_42 (byA eNcX11_change (p := 17) (v := 42) (by decide +kernel))
theorem dX11_change_18 : decode cX11_change 18 = .ok (.getfield 43, 3) := dc_180 (byA eNcX11_change (p := 18) (v := 180) (by decide +kernel)) (byA eNcX11_change (p := 19) (v := 0) (by decide +kernel)) (byA eNcX11_change (p := 20) (v := 43) (by decide +kernel)) rfl
theorem dX11_change_21 : decode cX11_change 21 = .ok (.iload_n 3, 1) := dc_29 (byA eNcX11_change (p := 21) (v := 29) (by decide +kernel))
theorem dX11_change_22 : decode cX11_change 22 = .ok (.iconst 3, 1) := dc_6 (byA eNcX11_change (p := 22) (v := 6) (by decide +kernel))
theorem dX11_change_23 : decode cX11_change 23 = .ok (.iload_n 2, 1) := dc_28 (byA eNcX11_change (p := 23) (v := 28) (by decide +kernel))
theorem dX11_change_24 : decode cX11_change 24 = .ok (.iadd, 1) := dc_96 (byA eNcX11_change (p := 24) (v := 96) (by decide +kernel))
theorem dX11_change_25 : decode cX11_change 25 = .ok (.iastore, 1) := dc_79 (byA eNcX11_change (p := 25) (v := 79) (by decide +kernel))
theorem dX11_change_26 : decode cX11_change 26 = .ok (.aload_n 0, 1) := dc_42 (byA eNcX11_change (p := 26) (v := 42) (by decide +kernel))
theorem dX11_change_27 : decode cX11_change 27 = .ok (.getfield 43, 3) := dc_180 (byA eNcX11_change (p := 27) (v := 180) (by decide +kernel)) (byA eNcX11_change (p := 28) (v := 0) (by decide +kernel)) (byA eNcX11_change (p := 29) (v := 43) (by decide +kernel)) rfl
theorem dX11_change_30 : decode cX11_change 30 = .ok (.iload 4, 2) := dc_21 (byA eNcX11_change (p := 30) (v := 21) (by decide +kernel)) (byA eNcX11_change (p := 31) (v := 4) (by decide +kernel))
theorem dX11_change_32 : decode cX11_change 32 = .ok (.iconst 3, 1) := dc_6 (byA eNcX11_change (p := 32) (v := 6) (by decide +kernel))
theorem dX11_change_33 : decode cX11_change 33 = .ok (.iload_n 1, 1) := dc_27 (byA eNcX11_change (p := 33) (v := 27) (by decide +kernel))
theorem dX11_change_34 : decode cX11_change 34 = .ok (.iadd, 1) := dc_96 (byA eNcX11_change (p := 34) (v := 96) (by decide +kernel))
theorem dX11_change_35 : decode cX11_change 35 = .ok (.iastore, 1) := dc_79 (byA eNcX11_change (p := 35) (v := 79) (by decide +kernel))
theorem dX11_change_36 : decode cX11_change 36 = .ok (.return_, 1) := dc_177 (byA eNcX11_change (p := 36) (v := 177) (by decide +kernel))
def X11_change (l1 : Int) (l2 : Int) (μ : Mm) : Rs := bd (X11_placeOf (iA 3 l1) μ) fun v1 μ2 => bd (X11_placeOf (iA 3 l2) μ2) fun v4 μ5 => stA μ5 82 v1 (iA 3 l2) fun μ7 => stA μ7 82 v4 (iA 3 l1) fun μ9 => some (0, μ9)
set_option maxHeartbeats 4000000 in
set_option maxRecDepth 100000 in
theorem kX11_change (d : Nat) (hd : 3 ≤ d) {l1 : Int} {l2 : Int} {μ : Mm} {r : Int} {μ' : Mm} (h : X11_change l1 l2 μ = some (r, μ')) : CC d mX11_change [vR 70, vI l1, vI l2] μ r μ' := by
  unfold X11_change at h
  refine V_enter (by decide) (Nat.le_of_ble_eq_true rfl) ?_
  show VV d mX11_change 0 [some (vR 70), some (vI l1), some (vI l2), none, none] [] μ r μ'
  refine V_aload_n (q := 1) dX11_change_0 rfl rfl rfl ?_
  refine V_iconst (q := 2) dX11_change_1 rfl rfl ?_
  refine V_iload_n (q := 3) dX11_change_2 rfl rfl rfl ?_
  refine V_iadd (q := 4) dX11_change_3 rfl ?_
  obtain ⟨v1, μ2, hc3, h⟩ := bd_i h
  refine V_cV1 (q := 7) (v := vI v1) (kX11_placeOf (d - 1) (by omega) hc3) (by omega) mv_X11_281 rfl rfl rfl rfl rfl rfl dX11_change_4 rfl ?_
  refine V_istore_n (q := 8) dX11_change_7 rfl (Nat.le_of_ble_eq_true rfl) trivial rfl ?_
  refine V_aload_n (q := 9) dX11_change_8 rfl rfl rfl ?_
  refine V_iconst (q := 10) dX11_change_9 rfl rfl ?_
  refine V_iload_n (q := 11) dX11_change_10 rfl rfl rfl ?_
  refine V_iadd (q := 12) dX11_change_11 rfl ?_
  obtain ⟨v4, μ5, hc6, h⟩ := bd_i h
  refine V_cV1 (q := 15) (v := vI v4) (kX11_placeOf (d - 1) (by omega) hc6) (by omega) mv_X11_281 rfl rfl rfl rfl rfl rfl dX11_change_12 rfl ?_
  refine V_istore (q := 17) dX11_change_15 (Nat.le_of_ble_eq_true rfl) trivial rfl ?_
  refine V_aload_n (q := 18) dX11_change_17 rfl rfl rfl ?_
  refine V_getO (q := 21) (t := 82) fl_X11_43 rfl rfl rfl rfl dX11_change_18 rfl ?_
  refine V_iload_n (q := 22) dX11_change_21 rfl rfl rfl ?_
  refine V_iconst (q := 23) dX11_change_22 rfl rfl ?_
  refine V_iload_n (q := 24) dX11_change_23 rfl rfl rfl ?_
  refine V_iadd (q := 25) dX11_change_24 rfl ?_
  obtain ⟨hi8, h⟩ := stA_i h
  refine V_iastore (q := 26) rfl hi8 dX11_change_25 rfl ?_
  refine V_aload_n (q := 27) dX11_change_26 rfl rfl rfl ?_
  refine V_getO (q := 30) (t := 82) fl_X11_43 rfl rfl rfl rfl dX11_change_27 rfl ?_
  refine V_iload (q := 32) dX11_change_30 rfl rfl ?_
  refine V_iconst (q := 33) dX11_change_32 rfl rfl ?_
  refine V_iload_n (q := 34) dX11_change_33 rfl rfl rfl ?_
  refine V_iadd (q := 35) dX11_change_34 rfl ?_
  obtain ⟨hi10, h⟩ := stA_i h
  refine V_iastore (q := 36) rfl hi10 dX11_change_35 rfl ?_
  exact V_vret rfl h dX11_change_36
abbrev mX11_swap : Mth := (yX11_swap, cX11_swap, 3, some .boolean)
set_option maxRecDepth 100000 in
theorem mi_X11_swap : Cond.instanceMethod yX11_swap ∈ tG ∧ Cond.selects yX11_swap.cls yX11_swap yX11_swap ∈ tG ∧ Cond.initialized yX11_swap.cls ∈ tG ∧ Cond.code yX11_swap cX11_swap 3 (some .boolean) ∈ tG ∧ (yX11_swap.cls ≠ "java/lang/invoke/MethodHandle" ∧ yX11_swap.cls ≠ "java/lang/invoke/VarHandle" ∧ (parseMethodDescriptor yX11_swap.desc).map (fun d => d.parameters.length) = some 2) ∧ 3 ≤ 60 := ⟨(tG_of (tb7 (List.mem_of_getElem? (i := 2) rfl)) (by decide +kernel)), (tG_of (tb7 (List.mem_of_getElem? (i := 3) rfl)) (by decide +kernel)), (tG_of (tb1 (List.mem_of_getElem? (i := 12) rfl)) (by decide +kernel)), (tG_of (tb7 (List.mem_of_getElem? (i := 4) rfl)) (by decide +kernel)), ⟨by decide, by decide, by decide +kernel⟩, by decide⟩
theorem dX11_swap_0 : decode cX11_swap 0 = .ok (.aload_n 0, 1) := dc_42 (byA eNcX11_swap (p := 0) (v := 42) (by decide +kernel))
theorem dX11_swap_1 : decode cX11_swap 1 = .ok (.iload_n 1, 1) := dc_27 (byA eNcX11_swap (p := 1) (v := 27) (by decide +kernel))
theorem dX11_swap_2 : decode cX11_swap 2 = .ok (.invokevirtual 284, 3) := dc_182 (byA eNcX11_swap (p := 2) (v := 182) (by decide +kernel)) (byA eNcX11_swap (p := 3) (v := 1) (by decide +kernel)) (byA eNcX11_swap (p := 4) (v := 28) (by decide +kernel)) rfl
theorem dX11_swap_5 : decode cX11_swap 5 = .ok (.ifCond .eq 16, 3) := dc_153 (byA eNcX11_swap (p := 5) (v := 153) (by decide +kernel)) (byA eNcX11_swap (p := 6) (v := 0) (by decide +kernel)) (byA eNcX11_swap (p := 7) (v := 16) (by decide +kernel)) (by decide +kernel)
theorem dX11_swap_8 : decode cX11_swap 8 = .ok (.aload_n 0, 1) := dc_42 (byA eNcX11_swap (p := 8) (v := 42) (by decide +kernel))
theorem dX11_swap_9 : decode cX11_swap 9 = .ok (.iload_n 2, 1) := dc_28 (byA eNcX11_swap (p := 9) (v := 28) (by decide +kernel))
theorem dX11_swap_10 : decode cX11_swap 10 = .ok (.invokevirtual 284, 3) := dc_182 (byA eNcX11_swap (p := 10) (v := 182) (by decide +kernel)) (byA eNcX11_swap (p := 11) (v := 1) (by decide +kernel)) (byA eNcX11_swap (p := 12) (v := 28) (by decide +kernel)) rfl
theorem dX11_swap_13 : decode cX11_swap 13 = .ok (.ifCond .eq 8, 3) := dc_153 (byA eNcX11_swap (p := 13) (v := 153) (by decide +kernel)) (byA eNcX11_swap (p := 14) (v := 0) (by decide +kernel)) (byA eNcX11_swap (p := 15) (v := 8) (by decide +kernel)) (by decide +kernel)
theorem dX11_swap_16 : decode cX11_swap 16 = .ok (.iload_n 1, 1) := dc_27 (byA eNcX11_swap (p := 16) (v := 27) (by decide +kernel))
theorem dX11_swap_17 : decode cX11_swap 17 = .ok (.iload_n 2, 1) := dc_28 (byA eNcX11_swap (p := 17) (v := 28) (by decide +kernel))
theorem dX11_swap_18 : decode cX11_swap 18 = .ok (.if_icmp .ne 5, 3) := dc_160 (byA eNcX11_swap (p := 18) (v := 160) (by decide +kernel)) (byA eNcX11_swap (p := 19) (v := 0) (by decide +kernel)) (byA eNcX11_swap (p := 20) (v := 5) (by decide +kernel)) (by decide +kernel)
theorem dX11_swap_21 : decode cX11_swap 21 = .ok (.iconst 0, 1) := dc_3 (byA eNcX11_swap (p := 21) (v := 3) (by decide +kernel))
theorem dX11_swap_22 : decode cX11_swap 22 = .ok (.ireturn, 1) := dc_172 (byA eNcX11_swap (p := 22) (v := 172) (by decide +kernel))
theorem dX11_swap_23 : decode cX11_swap 23 = .ok (.aload_n 0, 1) := dc_42 (byA eNcX11_swap (p := 23) (v := 42) (by decide +kernel))
theorem dX11_swap_24 : decode cX11_swap 24 = .ok (.iload_n 1, 1) := dc_27 (byA eNcX11_swap (p := 24) (v := 27) (by decide +kernel))
theorem dX11_swap_25 : decode cX11_swap 25 = .ok (.iload_n 2, 1) := dc_28 (byA eNcX11_swap (p := 25) (v := 28) (by decide +kernel))
theorem dX11_swap_26 : decode cX11_swap 26 = .ok (.invokevirtual 313, 3) := dc_182 (byA eNcX11_swap (p := 26) (v := 182) (by decide +kernel)) (byA eNcX11_swap (p := 27) (v := 1) (by decide +kernel)) (byA eNcX11_swap (p := 28) (v := 57) (by decide +kernel)) rfl
theorem dX11_swap_29 : decode cX11_swap 29 = .ok (.iconst 1, 1) := dc_4 (byA eNcX11_swap (p := 29) (v := 4) (by decide +kernel))
theorem dX11_swap_30 : decode cX11_swap 30 = .ok (.ireturn, 1) := dc_172 (byA eNcX11_swap (p := 30) (v := 172) (by decide +kernel))
def X11_swap (l1 : Int) (l2 : Int) (μ : Mm) : Rs := bd (X11_isCrank l1 μ) fun v1 μ2 => if v1 = 0 then (some (0, μ2)) else (bd (X11_isCrank l2 μ2) fun v5 μ6 => if v5 = 0 then (some (0, μ6)) else (if l1 = l2 then (some (0, μ6)) else (bd (X11_change l1 l2 μ6) fun v10 μ11 => some (1, μ11))))
set_option maxHeartbeats 4000000 in
set_option maxRecDepth 100000 in
theorem kX11_swap (d : Nat) (hd : 4 ≤ d) {l1 : Int} {l2 : Int} {μ : Mm} {r : Int} {μ' : Mm} (h : X11_swap l1 l2 μ = some (r, μ')) : CC d mX11_swap [vR 70, vI l1, vI l2] μ r μ' := by
  unfold X11_swap at h
  refine V_enter (by decide) (Nat.le_of_ble_eq_true rfl) ?_
  show VV d mX11_swap 0 [some (vR 70), some (vI l1), some (vI l2)] [] μ r μ'
  refine V_aload_n (q := 1) dX11_swap_0 rfl rfl rfl ?_
  refine V_iload_n (q := 2) dX11_swap_1 rfl rfl rfl ?_
  obtain ⟨v1, μ2, hc3, h⟩ := bd_i h
  refine V_cV1 (q := 5) (v := vI v1) (kX11_isCrank (d - 1) (by omega) hc3) (by omega) mv_X11_284 rfl rfl rfl rfl rfl rfl dX11_swap_2 rfl ?_
  refine V_ifeq (q := 21) (q2 := 8) dX11_swap_5 (by decide) rfl (fun hc4 => ?_) (fun hc4 => ?_)
  · have h := ifT hc4 h
    refine V_iconst (q := 22) dX11_swap_21 rfl rfl ?_
    exact V_zret rfl (Or.inl rfl) h dX11_swap_22
  · have h := ifF hc4 h
    refine V_aload_n (q := 9) dX11_swap_8 rfl rfl rfl ?_
    refine V_iload_n (q := 10) dX11_swap_9 rfl rfl rfl ?_
    obtain ⟨v5, μ6, hc7, h⟩ := bd_i h
    refine V_cV1 (q := 13) (v := vI v5) (kX11_isCrank (d - 1) (by omega) hc7) (by omega) mv_X11_284 rfl rfl rfl rfl rfl rfl dX11_swap_10 rfl ?_
    refine V_ifeq (q := 21) (q2 := 16) dX11_swap_13 (by decide) rfl (fun hc8 => ?_) (fun hc8 => ?_)
    · have h := ifT hc8 h
      refine V_iconst (q := 22) dX11_swap_21 rfl rfl ?_
      exact V_zret rfl (Or.inl rfl) h dX11_swap_22
    · have h := ifF hc8 h
      refine V_iload_n (q := 17) dX11_swap_16 rfl rfl rfl ?_
      refine V_iload_n (q := 18) dX11_swap_17 rfl rfl rfl ?_
      refine V_icmpne (q := 23) (q2 := 21) dX11_swap_18 (by decide) rfl (fun hc9 => ?_) (fun hc9 => ?_)
      · have h := ifF hc9 h
        refine V_aload_n (q := 24) dX11_swap_23 rfl rfl rfl ?_
        refine V_iload_n (q := 25) dX11_swap_24 rfl rfl rfl ?_
        refine V_iload_n (q := 26) dX11_swap_25 rfl rfl rfl ?_
        obtain ⟨v10, μ11, hc12, h⟩ := bd_i h
        refine V_cV0 (q := 29) (kX11_change (d - 1) (by omega) hc12) (by omega) mv_X11_313 rfl rfl rfl rfl rfl rfl dX11_swap_26 rfl ?_
        refine V_iconst (q := 30) dX11_swap_29 rfl rfl ?_
        exact V_zret rfl (Or.inr rfl) h dX11_swap_30
      · have h := ifT hc9 h
        refine V_iconst (q := 22) dX11_swap_21 rfl rfl ?_
        exact V_zret rfl (Or.inl rfl) h dX11_swap_22
abbrev mX11_knock : Mth := (yX11_knock, cX11_knock, 2, some .boolean)
set_option maxRecDepth 100000 in
theorem mi_X11_knock : Cond.instanceMethod yX11_knock ∈ tG ∧ Cond.selects yX11_knock.cls yX11_knock yX11_knock ∈ tG ∧ Cond.initialized yX11_knock.cls ∈ tG ∧ Cond.code yX11_knock cX11_knock 2 (some .boolean) ∈ tG ∧ (yX11_knock.cls ≠ "java/lang/invoke/MethodHandle" ∧ yX11_knock.cls ≠ "java/lang/invoke/VarHandle" ∧ (parseMethodDescriptor yX11_knock.desc).map (fun d => d.parameters.length) = some 1) ∧ 2 ≤ 60 := ⟨(tG_of (tb7 (List.mem_of_getElem? (i := 10) rfl)) (by decide +kernel)), (tG_of (tb7 (List.mem_of_getElem? (i := 11) rfl)) (by decide +kernel)), (tG_of (tb1 (List.mem_of_getElem? (i := 12) rfl)) (by decide +kernel)), (tG_of (tb7 (List.mem_of_getElem? (i := 12) rfl)) (by decide +kernel)), ⟨by decide, by decide, by decide +kernel⟩, by decide⟩
theorem dX11_knock_0 : decode cX11_knock 0 = .ok (.aload_n 0, 1) := dc_42 (byA eNcX11_knock (p := 0) (v := 42) (by decide +kernel))
theorem dX11_knock_1 : decode cX11_knock 1 = .ok (.iload_n 1, 1) := dc_27 (byA eNcX11_knock (p := 1) (v := 27) (by decide +kernel))
theorem dX11_knock_2 : decode cX11_knock 2 = .ok (.invokevirtual 258, 3) := dc_182 (byA eNcX11_knock (p := 2) (v := 182) (by decide +kernel)) (byA eNcX11_knock (p := 3) (v := 1) (by decide +kernel)) (byA eNcX11_knock (p := 4) (v := 2) (by decide +kernel)) rfl
theorem dX11_knock_5 : decode cX11_knock 5 = .ok (.ifCond .eq 13, 3) := dc_153 (byA eNcX11_knock (p := 5) (v := 153) (by decide +kernel)) (byA eNcX11_knock (p := 6) (v := 0) (by decide +kernel)) (byA eNcX11_knock (p := 7) (v := 13) (by decide +kernel)) (by decide +kernel)
theorem dX11_knock_8 : decode cX11_knock 8 = .ok (.aload_n 0, 1) := dc_42 (byA eNcX11_knock (p := 8) (v := 42) (by decide +kernel))
theorem dX11_knock_9 : decode cX11_knock 9 = .ok (.getfield 43, 3) := dc_180 (byA eNcX11_knock (p := 9) (v := 180) (by decide +kernel)) (byA eNcX11_knock (p := 10) (v := 0) (by decide +kernel)) (byA eNcX11_knock (p := 11) (v := 43) (by decide +kernel)) rfl
theorem dX11_knock_12 : decode cX11_knock 12 = .ok (.iload_n 1, 1) := dc_27 (byA eNcX11_knock (p := 12) (v := 27) (by decide +kernel))
theorem dX11_knock_13 : decode cX11_knock 13 = .ok (.iaload, 1) := dc_46 (byA eNcX11_knock (p := 13) (v := 46) (by decide +kernel))
theorem dX11_knock_14 : decode cX11_knock 14 = .ok (.iconst 1, 1) := dc_4 (byA eNcX11_knock (p := 14) (v := 4) (by decide +kernel))
theorem dX11_knock_15 : decode cX11_knock 15 = .ok (.if_icmp .eq 5, 3) := dc_159 (byA eNcX11_knock (p := 15) (v := 159) (by decide +kernel)) (byA eNcX11_knock (p := 16) (v := 0) (by decide +kernel)) (byA eNcX11_knock (p := 17) (v := 5) (by decide +kernel)) (by decide +kernel)
theorem dX11_knock_18 : decode cX11_knock 18 = .ok (.iconst 0, 1) := dc_3 (byA eNcX11_knock (p := 18) (v := 3) (by decide +kernel))
theorem dX11_knock_19 : decode cX11_knock 19 = .ok (.ireturn, 1) := dc_172 (byA eNcX11_knock (p := 19) (v := 172) (by decide +kernel))
theorem dX11_knock_20 : decode cX11_knock 20 = .ok (.aload_n 0, 1) := dc_42 (byA eNcX11_knock (p := 20) (v := 42) (by decide +kernel))
theorem dX11_knock_21 : decode cX11_knock 21 = .ok (.getfield 43, 3) := dc_180 (byA eNcX11_knock (p := 21) (v := 180) (by decide +kernel)) (byA eNcX11_knock (p := 22) (v := 0) (by decide +kernel)) (byA eNcX11_knock (p := 23) (v := 43) (by decide +kernel)) rfl
theorem dX11_knock_24 : decode cX11_knock 24 = .ok (.iload_n 1, 1) := dc_27 (byA eNcX11_knock (p := 24) (v := 27) (by decide +kernel))
theorem dX11_knock_25 : decode cX11_knock 25 = .ok (.iconst 0, 1) := dc_3 (byA eNcX11_knock (p := 25) (v := 3) (by decide +kernel))
theorem dX11_knock_26 : decode cX11_knock 26 = .ok (.iastore, 1) := dc_79 (byA eNcX11_knock (p := 26) (v := 79) (by decide +kernel))
theorem dX11_knock_27 : decode cX11_knock 27 = .ok (.iconst 1, 1) := dc_4 (byA eNcX11_knock (p := 27) (v := 4) (by decide +kernel))
theorem dX11_knock_28 : decode cX11_knock 28 = .ok (.ireturn, 1) := dc_172 (byA eNcX11_knock (p := 28) (v := 172) (by decide +kernel))
def X11_knock (l1 : Int) (μ : Mm) : Rs := bd (X11_isPlace l1 μ) fun v1 μ2 => if v1 = 0 then (some (0, μ2)) else (ldA μ2 82 l1 fun v5 => if v5 = 1 then (stA μ2 82 l1 0 fun μ8 => some (1, μ8)) else (some (0, μ2)))
set_option maxHeartbeats 4000000 in
set_option maxRecDepth 100000 in
theorem kX11_knock (d : Nat) (hd : 2 ≤ d) {l1 : Int} {μ : Mm} {r : Int} {μ' : Mm} (h : X11_knock l1 μ = some (r, μ')) : CC d mX11_knock [vR 70, vI l1] μ r μ' := by
  unfold X11_knock at h
  refine V_enter (by decide) (Nat.le_of_ble_eq_true rfl) ?_
  show VV d mX11_knock 0 [some (vR 70), some (vI l1)] [] μ r μ'
  refine V_aload_n (q := 1) dX11_knock_0 rfl rfl rfl ?_
  refine V_iload_n (q := 2) dX11_knock_1 rfl rfl rfl ?_
  obtain ⟨v1, μ2, hc3, h⟩ := bd_i h
  refine V_cV1 (q := 5) (v := vI v1) (kX11_isPlace (d - 1) (by omega) hc3) (by omega) mv_X11_258 rfl rfl rfl rfl rfl rfl dX11_knock_2 rfl ?_
  refine V_ifeq (q := 18) (q2 := 8) dX11_knock_5 (by decide) rfl (fun hc4 => ?_) (fun hc4 => ?_)
  · have h := ifT hc4 h
    refine V_iconst (q := 19) dX11_knock_18 rfl rfl ?_
    exact V_zret rfl (Or.inl rfl) h dX11_knock_19
  · have h := ifF hc4 h
    refine V_aload_n (q := 9) dX11_knock_8 rfl rfl rfl ?_
    refine V_getO (q := 12) (t := 82) fl_X11_43 rfl rfl rfl rfl dX11_knock_9 rfl ?_
    refine V_iload_n (q := 13) dX11_knock_12 rfl rfl rfl ?_
    obtain ⟨hi6, h⟩ := ldA_i h
    refine V_iaload (q := 14) rfl hi6 dX11_knock_13 rfl ?_
    refine V_iconst (q := 15) dX11_knock_14 rfl rfl ?_
    refine V_icmpeq (q := 20) (q2 := 18) dX11_knock_15 (by decide) rfl (fun hc7 => ?_) (fun hc7 => ?_)
    · have h := ifT hc7 h
      refine V_aload_n (q := 21) dX11_knock_20 rfl rfl rfl ?_
      refine V_getO (q := 24) (t := 82) fl_X11_43 rfl rfl rfl rfl dX11_knock_21 rfl ?_
      refine V_iload_n (q := 25) dX11_knock_24 rfl rfl rfl ?_
      refine V_iconst (q := 26) dX11_knock_25 rfl rfl ?_
      obtain ⟨hi9, h⟩ := stA_i h
      refine V_iastore (q := 27) rfl hi9 dX11_knock_26 rfl ?_
      refine V_iconst (q := 28) dX11_knock_27 rfl rfl ?_
      exact V_zret rfl (Or.inr rfl) h dX11_knock_28
    · have h := ifF hc7 h
      refine V_iconst (q := 19) dX11_knock_18 rfl rfl ?_
      exact V_zret rfl (Or.inl rfl) h dX11_knock_19
abbrev mX11_lay : Mth := (yX11_lay, cX11_lay, 8, none)
set_option maxRecDepth 100000 in
theorem mi_X11_lay : Cond.instanceMethod yX11_lay ∈ tG ∧ Cond.selects yX11_lay.cls yX11_lay yX11_lay ∈ tG ∧ Cond.initialized yX11_lay.cls ∈ tG ∧ Cond.code yX11_lay cX11_lay 8 (none) ∈ tG ∧ (yX11_lay.cls ≠ "java/lang/invoke/MethodHandle" ∧ yX11_lay.cls ≠ "java/lang/invoke/VarHandle" ∧ (parseMethodDescriptor yX11_lay.desc).map (fun d => d.parameters.length) = some 3) ∧ 8 ≤ 60 := ⟨(tG_of (tb7 (List.mem_of_getElem? (i := 23) rfl)) (by decide +kernel)), (tG_of (List.mem_of_getElem? (i := 83) (by decide +kernel)) (by decide +kernel)), (tG_of (tb1 (List.mem_of_getElem? (i := 12) rfl)) (by decide +kernel)), (tG_of (tb7 (List.mem_of_getElem? (i := 24) rfl)) (by decide +kernel)), ⟨by decide, by decide, by decide +kernel⟩, by decide⟩
set_option maxRecDepth 100000 in
theorem mv_X11_322 : mV RX11 322 mX11_lay 3 := ⟨(tG_of (tb7 (List.mem_of_getElem? (i := 21) rfl)) (by decide +kernel)), mi_X11_lay⟩
theorem dX11_lay_0 : decode cX11_lay 0 = .ok (.aload_n 0, 1) := dc_42 (byA eNcX11_lay (p := 0) (v := 42) (by decide +kernel))
theorem dX11_lay_1 : decode cX11_lay 1 = .ok (.aload_n 0, 1) := dc_42 (byA eNcX11_lay (p := 1) (v := 42) (by decide +kernel))
theorem dX11_lay_2 : decode cX11_lay 2 = .ok (.getfield 52, 3) := dc_180 (byA eNcX11_lay (p := 2) (v := 180) (by decide +kernel)) (byA eNcX11_lay (p := 3) (v := 0) (by decide +kernel)) (byA eNcX11_lay (p := 4) (v := 52) (by decide +kernel)) rfl
theorem dX11_lay_5 : decode cX11_lay 5 = .ok (.iload_n 1, 1) := dc_27 (byA eNcX11_lay (p := 5) (v := 27) (by decide +kernel))
theorem dX11_lay_6 : decode cX11_lay 6 = .ok (.iaload, 1) := dc_46 (byA eNcX11_lay (p := 6) (v := 46) (by decide +kernel))
theorem dX11_lay_7 : decode cX11_lay 7 = .ok (.putfield 316, 3) := dc_181 (byA eNcX11_lay (p := 7) (v := 181) (by decide +kernel)) (byA eNcX11_lay (p := 8) (v := 1) (by decide +kernel)) (byA eNcX11_lay (p := 9) (v := 60) (by decide +kernel)) rfl
theorem dX11_lay_10 : decode cX11_lay 10 = .ok (.aload_n 0, 1) := dc_42 (byA eNcX11_lay (p := 10) (v := 42) (by decide +kernel))
theorem dX11_lay_11 : decode cX11_lay 11 = .ok (.iload_n 3, 1) := dc_29 (byA eNcX11_lay (p := 11) (v := 29) (by decide +kernel))
theorem dX11_lay_12 : decode cX11_lay 12 = .ok (.putfield 319, 3) := dc_181 (byA eNcX11_lay (p := 12) (v := 181) (by decide +kernel)) (byA eNcX11_lay (p := 13) (v := 1) (by decide +kernel)) (byA eNcX11_lay (p := 14) (v := 63) (by decide +kernel)) rfl
theorem dX11_lay_15 : decode cX11_lay 15 = .ok (.iconst 0, 1) := dc_3 (byA eNcX11_lay (p := 15) (v := 3) (by decide +kernel))
theorem dX11_lay_16 : decode cX11_lay 16 = .ok (.istore 4, 2) := dc_54 (byA eNcX11_lay (p := 16) (v := 54) (by decide +kernel)) (byA eNcX11_lay (p := 17) (v := 4) (by decide +kernel))
theorem dX11_lay_18 : decode cX11_lay 18 = .ok (.iload 4, 2) := dc_21 (byA eNcX11_lay (p := 18) (v := 21) (by decide +kernel)) (byA eNcX11_lay (p := 19) (v := 4) (by decide +kernel))
theorem dX11_lay_20 : decode cX11_lay 20 = .ok (.aload_n 0, 1) := dc_42 (byA eNcX11_lay (p := 20) (v := 42) (by decide +kernel))
theorem dX11_lay_21 : decode cX11_lay 21 = .ok (.getfield 316, 3) := dc_180 (byA eNcX11_lay (p := 21) (v := 180) (by decide +kernel)) (byA eNcX11_lay (p := 22) (v := 1) (by decide +kernel)) (byA eNcX11_lay (p := 23) (v := 60) (by decide +kernel)) rfl
theorem dX11_lay_24 : decode cX11_lay 24 = .ok (.if_icmp .gt 154, 3) := dc_163 (byA eNcX11_lay (p := 24) (v := 163) (by decide +kernel)) (byA eNcX11_lay (p := 25) (v := 0) (by decide +kernel)) (byA eNcX11_lay (p := 26) (v := 154) (by decide +kernel)) (by decide +kernel)
theorem dX11_lay_27 : decode cX11_lay 27 = .ok (.iload 4, 2) := dc_21 (byA eNcX11_lay (p := 27) (v := 21) (by decide +kernel)) (byA eNcX11_lay (p := 28) (v := 4) (by decide +kernel))
theorem dX11_lay_29 : decode cX11_lay 29 = .ok (.aload_n 0, 1) := dc_42 (byA eNcX11_lay (p := 29) (v := 42) (by decide +kernel))
theorem dX11_lay_30 : decode cX11_lay 30 = .ok (.getfield 316, 3) := dc_180 (byA eNcX11_lay (p := 30) (v := 180) (by decide +kernel)) (byA eNcX11_lay (p := 31) (v := 1) (by decide +kernel)) (byA eNcX11_lay (p := 32) (v := 60) (by decide +kernel)) rfl
theorem dX11_lay_33 : decode cX11_lay 33 = .ok (.if_icmp .ne 7, 3) := dc_160 (byA eNcX11_lay (p := 33) (v := 160) (by decide +kernel)) (byA eNcX11_lay (p := 34) (v := 0) (by decide +kernel)) (byA eNcX11_lay (p := 35) (v := 7) (by decide +kernel)) (by decide +kernel)
theorem dX11_lay_36 : decode cX11_lay 36 = .ok (.iload_n 2, 1) := dc_28 (byA eNcX11_lay (p := 36) (v := 28) (by decide +kernel))
theorem dX11_lay_37 : decode cX11_lay 37 = .ok (.goto 21, 3) := dc_167 (byA eNcX11_lay (p := 37) (v := 167) (by decide +kernel)) (byA eNcX11_lay (p := 38) (v := 0) (by decide +kernel)) (byA eNcX11_lay (p := 39) (v := 21) (by decide +kernel)) (by decide +kernel)
theorem dX11_lay_40 : decode cX11_lay 40 = .ok (.aload_n 0, 1) := dc_42 (byA eNcX11_lay (p := 40) (v := 42) (by decide +kernel))
theorem dX11_lay_41 : decode cX11_lay 41 = .ok (.iconst 3, 1) := dc_6 (byA eNcX11_lay (p := 41) (v := 6) (by decide +kernel))
theorem dX11_lay_42 : decode cX11_lay 42 = .ok (.aload_n 0, 1) := dc_42 (byA eNcX11_lay (p := 42) (v := 42) (by decide +kernel))
theorem dX11_lay_43 : decode cX11_lay 43 = .ok (.getfield 46, 3) := dc_180 (byA eNcX11_lay (p := 43) (v := 180) (by decide +kernel)) (byA eNcX11_lay (p := 44) (v := 0) (by decide +kernel)) (byA eNcX11_lay (p := 45) (v := 46) (by decide +kernel)) rfl
theorem dX11_lay_46 : decode cX11_lay 46 = .ok (.bipush 8, 2) := dc_16 (byA eNcX11_lay (p := 46) (v := 16) (by decide +kernel)) (byA eNcX11_lay (p := 47) (v := 8) (by decide +kernel)) (by decide +kernel)
theorem dX11_lay_48 : decode cX11_lay 48 = .ok (.iload_n 1, 1) := dc_27 (byA eNcX11_lay (p := 48) (v := 27) (by decide +kernel))
theorem dX11_lay_49 : decode cX11_lay 49 = .ok (.imul, 1) := dc_104 (byA eNcX11_lay (p := 49) (v := 104) (by decide +kernel))
theorem dX11_lay_50 : decode cX11_lay 50 = .ok (.iload 4, 2) := dc_21 (byA eNcX11_lay (p := 50) (v := 21) (by decide +kernel)) (byA eNcX11_lay (p := 51) (v := 4) (by decide +kernel))
theorem dX11_lay_52 : decode cX11_lay 52 = .ok (.iadd, 1) := dc_96 (byA eNcX11_lay (p := 52) (v := 96) (by decide +kernel))
theorem dX11_lay_53 : decode cX11_lay 53 = .ok (.iaload, 1) := dc_46 (byA eNcX11_lay (p := 53) (v := 46) (by decide +kernel))
theorem dX11_lay_54 : decode cX11_lay 54 = .ok (.iadd, 1) := dc_96 (byA eNcX11_lay (p := 54) (v := 96) (by decide +kernel))
theorem dX11_lay_55 : decode cX11_lay 55 = .ok (.invokevirtual 281, 3) := dc_182 (byA eNcX11_lay (p := 55) (v := 182) (by decide +kernel)) (byA eNcX11_lay (p := 56) (v := 1) (by decide +kernel)) (byA eNcX11_lay (p := 57) (v := 25) (by decide +kernel)) rfl
theorem dX11_lay_58 : decode cX11_lay 58 = .ok (.istore 5, 2) := dc_54 (byA eNcX11_lay (p := 58) (v := 54) (by decide +kernel)) (byA eNcX11_lay (p := 59) (v := 5) (by decide +kernel))
theorem dX11_lay_60 : decode cX11_lay 60 = .ok (.iconst 0, 1) := dc_3 (byA eNcX11_lay (p := 60) (v := 3) (by decide +kernel))
theorem dX11_lay_61 : decode cX11_lay 61 = .ok (.istore 6, 2) := dc_54 (byA eNcX11_lay (p := 61) (v := 54) (by decide +kernel)) (byA eNcX11_lay (p := 62) (v := 6) (by decide +kernel))
theorem dX11_lay_63 : decode cX11_lay 63 = .ok (.iload 6, 2) := dc_21 (byA eNcX11_lay (p := 63) (v := 21) (by decide +kernel)) (byA eNcX11_lay (p := 64) (v := 6) (by decide +kernel))
theorem dX11_lay_65 : decode cX11_lay 65 = .ok (.aload_n 0, 1) := dc_42 (byA eNcX11_lay (p := 65) (v := 42) (by decide +kernel))
theorem dX11_lay_66 : decode cX11_lay 66 = .ok (.getfield 316, 3) := dc_180 (byA eNcX11_lay (p := 66) (v := 180) (by decide +kernel)) (byA eNcX11_lay (p := 67) (v := 1) (by decide +kernel)) (byA eNcX11_lay (p := 68) (v := 60) (by decide +kernel)) rfl
theorem dX11_lay_69 : decode cX11_lay 69 = .ok (.if_icmp .ge 23, 3) := dc_162 (byA eNcX11_lay (p := 69) (v := 162) (by decide +kernel)) (byA eNcX11_lay (p := 70) (v := 0) (by decide +kernel)) (byA eNcX11_lay (p := 71) (v := 23) (by decide +kernel)) (by decide +kernel)
theorem dX11_lay_72 : decode cX11_lay 72 = .ok (.aload_n 0, 1) := dc_42 (byA eNcX11_lay (p := 72) (v := 42) (by decide +kernel))
theorem dX11_lay_73 : decode cX11_lay 73 = .ok (.getfield 71, 3) := dc_180 (byA eNcX11_lay (p := 73) (v := 180) (by decide +kernel)) (byA eNcX11_lay (p := 74) (v := 0) (by decide +kernel)) (byA eNcX11_lay (p := 75) (v := 71) (by decide +kernel)) rfl
theorem dX11_lay_76 : decode cX11_lay 76 = .ok (.bipush 8, 2) := dc_16 (byA eNcX11_lay (p := 76) (v := 16) (by decide +kernel)) (byA eNcX11_lay (p := 77) (v := 8) (by decide +kernel)) (by decide +kernel)
theorem dX11_lay_78 : decode cX11_lay 78 = .ok (.iload 4, 2) := dc_21 (byA eNcX11_lay (p := 78) (v := 21) (by decide +kernel)) (byA eNcX11_lay (p := 79) (v := 4) (by decide +kernel))
theorem dX11_lay_80 : decode cX11_lay 80 = .ok (.imul, 1) := dc_104 (byA eNcX11_lay (p := 80) (v := 104) (by decide +kernel))
theorem dX11_lay_81 : decode cX11_lay 81 = .ok (.iload 6, 2) := dc_21 (byA eNcX11_lay (p := 81) (v := 21) (by decide +kernel)) (byA eNcX11_lay (p := 82) (v := 6) (by decide +kernel))
theorem dX11_lay_83 : decode cX11_lay 83 = .ok (.iadd, 1) := dc_96 (byA eNcX11_lay (p := 83) (v := 96) (by decide +kernel))
theorem dX11_lay_84 : decode cX11_lay 84 = .ok (.iconst (-1), 1) := dc_2 (byA eNcX11_lay (p := 84) (v := 2) (by decide +kernel))
theorem dX11_lay_85 : decode cX11_lay 85 = .ok (.iastore, 1) := dc_79 (byA eNcX11_lay (p := 85) (v := 79) (by decide +kernel))
theorem dX11_lay_86 : decode cX11_lay 86 = .ok (.iinc 6 1, 3) := dc_132 (byA eNcX11_lay (p := 86) (v := 132) (by decide +kernel)) (byA eNcX11_lay (p := 87) (v := 6) (by decide +kernel)) (byA eNcX11_lay (p := 88) (v := 1) (by decide +kernel)) (by decide +kernel)
theorem dX11_lay_89 : decode cX11_lay 89 = .ok (.goto (-26), 3) := dc_167 (byA eNcX11_lay (p := 89) (v := 167) (by decide +kernel)) (byA eNcX11_lay (p := 90) (v := 255) (by decide +kernel)) (byA eNcX11_lay (p := 91) (v := 230) (by decide +kernel)) (by decide +kernel)
theorem dX11_lay_92 : decode cX11_lay 92 = .ok (.iload 5, 2) := dc_21 (byA eNcX11_lay (p := 92) (v := 21) (by decide +kernel)) (byA eNcX11_lay (p := 93) (v := 5) (by decide +kernel))
theorem dX11_lay_94 : decode cX11_lay 94 = .ok (.iconst (-1), 1) := dc_2 (byA eNcX11_lay (p := 94) (v := 2) (by decide +kernel))
theorem dX11_lay_95 : decode cX11_lay 95 = .ok (.if_icmp .eq 77, 3) := dc_159 (byA eNcX11_lay (p := 95) (v := 159) (by decide +kernel)) (byA eNcX11_lay (p := 96) (v := 0) (by decide +kernel)) (byA eNcX11_lay (p := 97) (v := 77) (by decide +kernel)) (by decide +kernel)
theorem dX11_lay_98 : decode cX11_lay 98 = .ok (.aload_n 0, 1) := dc_42 (byA eNcX11_lay (p := 98) (v := 42) (by decide +kernel))
theorem dX11_lay_99 : decode cX11_lay 99 = .ok (.iload 5, 2) := dc_21 (byA eNcX11_lay (p := 99) (v := 21) (by decide +kernel)) (byA eNcX11_lay (p := 100) (v := 5) (by decide +kernel))
theorem dX11_lay_101 : decode cX11_lay 101 = .ok (.invokevirtual 293, 3) := dc_182 (byA eNcX11_lay (p := 101) (v := 182) (by decide +kernel)) (byA eNcX11_lay (p := 102) (v := 1) (by decide +kernel)) (byA eNcX11_lay (p := 103) (v := 37) (by decide +kernel)) rfl
theorem dX11_lay_104 : decode cX11_lay 104 = .ok (.iconst 0, 1) := dc_3 (byA eNcX11_lay (p := 104) (v := 3) (by decide +kernel))
theorem dX11_lay_105 : decode cX11_lay 105 = .ok (.istore 6, 2) := dc_54 (byA eNcX11_lay (p := 105) (v := 54) (by decide +kernel)) (byA eNcX11_lay (p := 106) (v := 6) (by decide +kernel))
theorem dX11_lay_107 : decode cX11_lay 107 = .ok (.iload 6, 2) := dc_21 (byA eNcX11_lay (p := 107) (v := 21) (by decide +kernel)) (byA eNcX11_lay (p := 108) (v := 6) (by decide +kernel))
theorem dX11_lay_109 : decode cX11_lay 109 = .ok (.aload_n 0, 1) := dc_42 (byA eNcX11_lay (p := 109) (v := 42) (by decide +kernel))
theorem dX11_lay_110 : decode cX11_lay 110 = .ok (.getfield 316, 3) := dc_180 (byA eNcX11_lay (p := 110) (v := 180) (by decide +kernel)) (byA eNcX11_lay (p := 111) (v := 1) (by decide +kernel)) (byA eNcX11_lay (p := 112) (v := 60) (by decide +kernel)) rfl
theorem dX11_lay_113 : decode cX11_lay 113 = .ok (.if_icmp .ge 59, 3) := dc_162 (byA eNcX11_lay (p := 113) (v := 162) (by decide +kernel)) (byA eNcX11_lay (p := 114) (v := 0) (by decide +kernel)) (byA eNcX11_lay (p := 115) (v := 59) (by decide +kernel)) (by decide +kernel)
theorem dX11_lay_116 : decode cX11_lay 116 = .ok (.aload_n 0, 1) := dc_42 (byA eNcX11_lay (p := 116) (v := 42) (by decide +kernel))
theorem dX11_lay_117 : decode cX11_lay 117 = .ok (.iconst 3, 1) := dc_6 (byA eNcX11_lay (p := 117) (v := 6) (by decide +kernel))
theorem dX11_lay_118 : decode cX11_lay 118 = .ok (.aload_n 0, 1) := dc_42 (byA eNcX11_lay (p := 118) (v := 42) (by decide +kernel))
theorem dX11_lay_119 : decode cX11_lay 119 = .ok (.getfield 46, 3) := dc_180 (byA eNcX11_lay (p := 119) (v := 180) (by decide +kernel)) (byA eNcX11_lay (p := 120) (v := 0) (by decide +kernel)) (byA eNcX11_lay (p := 121) (v := 46) (by decide +kernel)) rfl
theorem dX11_lay_122 : decode cX11_lay 122 = .ok (.bipush 8, 2) := dc_16 (byA eNcX11_lay (p := 122) (v := 16) (by decide +kernel)) (byA eNcX11_lay (p := 123) (v := 8) (by decide +kernel)) (by decide +kernel)
theorem dX11_lay_124 : decode cX11_lay 124 = .ok (.iload_n 1, 1) := dc_27 (byA eNcX11_lay (p := 124) (v := 27) (by decide +kernel))
theorem dX11_lay_125 : decode cX11_lay 125 = .ok (.imul, 1) := dc_104 (byA eNcX11_lay (p := 125) (v := 104) (by decide +kernel))
theorem dX11_lay_126 : decode cX11_lay 126 = .ok (.iload 6, 2) := dc_21 (byA eNcX11_lay (p := 126) (v := 21) (by decide +kernel)) (byA eNcX11_lay (p := 127) (v := 6) (by decide +kernel))
theorem dX11_lay_128 : decode cX11_lay 128 = .ok (.iadd, 1) := dc_96 (byA eNcX11_lay (p := 128) (v := 96) (by decide +kernel))
theorem dX11_lay_129 : decode cX11_lay 129 = .ok (.iaload, 1) := dc_46 (byA eNcX11_lay (p := 129) (v := 46) (by decide +kernel))
theorem dX11_lay_130 : decode cX11_lay 130 = .ok (.iadd, 1) := dc_96 (byA eNcX11_lay (p := 130) (v := 96) (by decide +kernel))
theorem dX11_lay_131 : decode cX11_lay 131 = .ok (.invokevirtual 281, 3) := dc_182 (byA eNcX11_lay (p := 131) (v := 182) (by decide +kernel)) (byA eNcX11_lay (p := 132) (v := 1) (by decide +kernel)) (byA eNcX11_lay (p := 133) (v := 25) (by decide +kernel)) rfl
theorem dX11_lay_134 : decode cX11_lay 134 = .ok (.istore 7, 2) := dc_54 (byA eNcX11_lay (p := 134) (v := 54) (by decide +kernel)) (byA eNcX11_lay (p := 135) (v := 7) (by decide +kernel))
theorem dX11_lay_136 : decode cX11_lay 136 = .ok (.aload_n 0, 1) := dc_42 (byA eNcX11_lay (p := 136) (v := 42) (by decide +kernel))
theorem dX11_lay_137 : decode cX11_lay 137 = .ok (.getfield 71, 3) := dc_180 (byA eNcX11_lay (p := 137) (v := 180) (by decide +kernel)) (byA eNcX11_lay (p := 138) (v := 0) (by decide +kernel)) (byA eNcX11_lay (p := 139) (v := 71) (by decide +kernel)) rfl
theorem dX11_lay_140 : decode cX11_lay 140 = .ok (.bipush 8, 2) := dc_16 (byA eNcX11_lay (p := 140) (v := 16) (by decide +kernel)) (byA eNcX11_lay (p := 141) (v := 8) (by decide +kernel)) (by decide +kernel)
theorem dX11_lay_142 : decode cX11_lay 142 = .ok (.iload 4, 2) := dc_21 (byA eNcX11_lay (p := 142) (v := 21) (by decide +kernel)) (byA eNcX11_lay (p := 143) (v := 4) (by decide +kernel))
theorem dX11_lay_144 : decode cX11_lay 144 = .ok (.imul, 1) := dc_104 (byA eNcX11_lay (p := 144) (v := 104) (by decide +kernel))
theorem dX11_lay_145 : decode cX11_lay 145 = .ok (.iload 6, 2) := dc_21 (byA eNcX11_lay (p := 145) (v := 21) (by decide +kernel)) (byA eNcX11_lay (p := 146) (v := 6) (by decide +kernel))
theorem dX11_lay_147 : decode cX11_lay 147 = .ok (.iadd, 1) := dc_96 (byA eNcX11_lay (p := 147) (v := 96) (by decide +kernel))
theorem dX11_lay_148 : decode cX11_lay 148 = .ok (.iload 7, 2) := dc_21 (byA eNcX11_lay (p := 148) (v := 21) (by decide +kernel)) (byA eNcX11_lay (p := 149) (v := 7) (by decide +kernel))
theorem dX11_lay_150 : decode cX11_lay 150 = .ok (.iconst (-1), 1) := dc_2 (byA eNcX11_lay (p := 150) (v := 2) (by decide +kernel))
theorem dX11_lay_151 : decode cX11_lay 151 = .ok (.if_icmp .ne 7, 3) := dc_160 (byA eNcX11_lay (p := 151) (v := 160) (by decide +kernel)) (byA eNcX11_lay (p := 152) (v := 0) (by decide +kernel)) (byA eNcX11_lay (p := 153) (v := 7) (by decide +kernel)) (by decide +kernel)
theorem dX11_lay_154 : decode cX11_lay 154 = .ok (.iconst (-1), 1) := dc_2 (byA eNcX11_lay (p := 154) (v := 2) (by decide +kernel))
theorem dX11_lay_155 : decode cX11_lay 155 = .ok (.goto 10, 3) := dc_167 (byA eNcX11_lay (p := 155) (v := 167) (by decide +kernel)) (byA eNcX11_lay (p := 156) (v := 0) (by decide +kernel)) (byA eNcX11_lay (p := 157) (v := 10) (by decide +kernel)) (by decide +kernel)
theorem dX11_lay_158 : decode cX11_lay 158 = .ok (.aload_n 0, 1) := dc_42 (byA eNcX11_lay (p := 158) (v := 42) (by decide +kernel))
theorem dX11_lay_159 : decode cX11_lay 159 = .ok (.getfield 65, 3) := dc_180 (byA eNcX11_lay (p := 159) (v := 180) (by decide +kernel)) (byA eNcX11_lay (p := 160) (v := 0) (by decide +kernel)) (byA eNcX11_lay (p := 161) (v := 65) (by decide +kernel)) rfl
theorem dX11_lay_162 : decode cX11_lay 162 = .ok (.iload 7, 2) := dc_21 (byA eNcX11_lay (p := 162) (v := 21) (by decide +kernel)) (byA eNcX11_lay (p := 163) (v := 7) (by decide +kernel))
theorem dX11_lay_164 : decode cX11_lay 164 = .ok (.iaload, 1) := dc_46 (byA eNcX11_lay (p := 164) (v := 46) (by decide +kernel))
theorem dX11_lay_165 : decode cX11_lay 165 = .ok (.iastore, 1) := dc_79 (byA eNcX11_lay (p := 165) (v := 79) (by decide +kernel))
theorem dX11_lay_166 : decode cX11_lay 166 = .ok (.iinc 6 1, 3) := dc_132 (byA eNcX11_lay (p := 166) (v := 132) (by decide +kernel)) (byA eNcX11_lay (p := 167) (v := 6) (by decide +kernel)) (byA eNcX11_lay (p := 168) (v := 1) (by decide +kernel)) (by decide +kernel)
theorem dX11_lay_169 : decode cX11_lay 169 = .ok (.goto (-62), 3) := dc_167 (byA eNcX11_lay (p := 169) (v := 167) (by decide +kernel)) (byA eNcX11_lay (p := 170) (v := 255) (by decide +kernel)) (byA eNcX11_lay (p := 171) (v := 194) (by decide +kernel)) (by decide +kernel)
theorem dX11_lay_172 : decode cX11_lay 172 = .ok (.iinc 4 1, 3) := dc_132 (byA eNcX11_lay (p := 172) (v := 132) (by decide +kernel)) (byA eNcX11_lay (p := 173) (v := 4) (by decide +kernel)) (byA eNcX11_lay (p := 174) (v := 1) (by decide +kernel)) (by decide +kernel)
theorem dX11_lay_175 : decode cX11_lay 175 = .ok (.goto (-157), 3) := dc_167 (byA eNcX11_lay (p := 175) (v := 167) (by decide +kernel)) (byA eNcX11_lay (p := 176) (v := 255) (by decide +kernel)) (byA eNcX11_lay (p := 177) (v := 99) (by decide +kernel)) (by decide +kernel)
theorem dX11_lay_178 : decode cX11_lay 178 = .ok (.iconst 0, 1) := dc_3 (byA eNcX11_lay (p := 178) (v := 3) (by decide +kernel))
theorem dX11_lay_179 : decode cX11_lay 179 = .ok (.istore 4, 2) := dc_54 (byA eNcX11_lay (p := 179) (v := 54) (by decide +kernel)) (byA eNcX11_lay (p := 180) (v := 4) (by decide +kernel))
theorem dX11_lay_181 : decode cX11_lay 181 = .ok (.iload 4, 2) := dc_21 (byA eNcX11_lay (p := 181) (v := 21) (by decide +kernel)) (byA eNcX11_lay (p := 182) (v := 4) (by decide +kernel))
theorem dX11_lay_183 : decode cX11_lay 183 = .ok (.aload_n 0, 1) := dc_42 (byA eNcX11_lay (p := 183) (v := 42) (by decide +kernel))
theorem dX11_lay_184 : decode cX11_lay 184 = .ok (.getfield 316, 3) := dc_180 (byA eNcX11_lay (p := 184) (v := 180) (by decide +kernel)) (byA eNcX11_lay (p := 185) (v := 1) (by decide +kernel)) (byA eNcX11_lay (p := 186) (v := 60) (by decide +kernel)) rfl
theorem dX11_lay_187 : decode cX11_lay 187 = .ok (.if_icmp .ge 33, 3) := dc_162 (byA eNcX11_lay (p := 187) (v := 162) (by decide +kernel)) (byA eNcX11_lay (p := 188) (v := 0) (by decide +kernel)) (byA eNcX11_lay (p := 189) (v := 33) (by decide +kernel)) (by decide +kernel)
theorem dX11_lay_190 : decode cX11_lay 190 = .ok (.aload_n 0, 1) := dc_42 (byA eNcX11_lay (p := 190) (v := 42) (by decide +kernel))
theorem dX11_lay_191 : decode cX11_lay 191 = .ok (.getfield 74, 3) := dc_180 (byA eNcX11_lay (p := 191) (v := 180) (by decide +kernel)) (byA eNcX11_lay (p := 192) (v := 0) (by decide +kernel)) (byA eNcX11_lay (p := 193) (v := 74) (by decide +kernel)) rfl
theorem dX11_lay_194 : decode cX11_lay 194 = .ok (.iload 4, 2) := dc_21 (byA eNcX11_lay (p := 194) (v := 21) (by decide +kernel)) (byA eNcX11_lay (p := 195) (v := 4) (by decide +kernel))
theorem dX11_lay_196 : decode cX11_lay 196 = .ok (.aload_n 0, 1) := dc_42 (byA eNcX11_lay (p := 196) (v := 42) (by decide +kernel))
theorem dX11_lay_197 : decode cX11_lay 197 = .ok (.getfield 55, 3) := dc_180 (byA eNcX11_lay (p := 197) (v := 180) (by decide +kernel)) (byA eNcX11_lay (p := 198) (v := 0) (by decide +kernel)) (byA eNcX11_lay (p := 199) (v := 55) (by decide +kernel)) rfl
theorem dX11_lay_200 : decode cX11_lay 200 = .ok (.aload_n 0, 1) := dc_42 (byA eNcX11_lay (p := 200) (v := 42) (by decide +kernel))
theorem dX11_lay_201 : decode cX11_lay 201 = .ok (.getfield 46, 3) := dc_180 (byA eNcX11_lay (p := 201) (v := 180) (by decide +kernel)) (byA eNcX11_lay (p := 202) (v := 0) (by decide +kernel)) (byA eNcX11_lay (p := 203) (v := 46) (by decide +kernel)) rfl
theorem dX11_lay_204 : decode cX11_lay 204 = .ok (.bipush 8, 2) := dc_16 (byA eNcX11_lay (p := 204) (v := 16) (by decide +kernel)) (byA eNcX11_lay (p := 205) (v := 8) (by decide +kernel)) (by decide +kernel)
theorem dX11_lay_206 : decode cX11_lay 206 = .ok (.iload_n 1, 1) := dc_27 (byA eNcX11_lay (p := 206) (v := 27) (by decide +kernel))
theorem dX11_lay_207 : decode cX11_lay 207 = .ok (.imul, 1) := dc_104 (byA eNcX11_lay (p := 207) (v := 104) (by decide +kernel))
theorem dX11_lay_208 : decode cX11_lay 208 = .ok (.iload 4, 2) := dc_21 (byA eNcX11_lay (p := 208) (v := 21) (by decide +kernel)) (byA eNcX11_lay (p := 209) (v := 4) (by decide +kernel))
theorem dX11_lay_210 : decode cX11_lay 210 = .ok (.iadd, 1) := dc_96 (byA eNcX11_lay (p := 210) (v := 96) (by decide +kernel))
theorem dX11_lay_211 : decode cX11_lay 211 = .ok (.iaload, 1) := dc_46 (byA eNcX11_lay (p := 211) (v := 46) (by decide +kernel))
theorem dX11_lay_212 : decode cX11_lay 212 = .ok (.iaload, 1) := dc_46 (byA eNcX11_lay (p := 212) (v := 46) (by decide +kernel))
theorem dX11_lay_213 : decode cX11_lay 213 = .ok (.iastore, 1) := dc_79 (byA eNcX11_lay (p := 213) (v := 79) (by decide +kernel))
theorem dX11_lay_214 : decode cX11_lay 214 = .ok (.iinc 4 1, 3) := dc_132 (byA eNcX11_lay (p := 214) (v := 132) (by decide +kernel)) (byA eNcX11_lay (p := 215) (v := 4) (by decide +kernel)) (byA eNcX11_lay (p := 216) (v := 1) (by decide +kernel)) (by decide +kernel)
theorem dX11_lay_217 : decode cX11_lay 217 = .ok (.goto (-36), 3) := dc_167 (byA eNcX11_lay (p := 217) (v := 167) (by decide +kernel)) (byA eNcX11_lay (p := 218) (v := 255) (by decide +kernel)) (byA eNcX11_lay (p := 219) (v := 220) (by decide +kernel)) (by decide +kernel)
theorem dX11_lay_220 : decode cX11_lay 220 = .ok (.return_, 1) := dc_177 (byA eNcX11_lay (p := 220) (v := 177) (by decide +kernel))
def X11_lay_L63 (l1 : Int) (l2 : Int) (l4 : Int) (l5 : Int) (k92 : Mm → Rs) : Nat → Int → Mm → Rs
  | 0, _, _ => none
  | n + 1, l6, μ => if (μ 70 37) ≤ l6 then (k92 μ) else (stA μ 89 (iA (iM 8 l4) l6) (-1) fun μ13 => X11_lay_L63 l1 l2 l4 l5 k92 n (iA l6 1) μ13)
def X11_lay_L107 (l1 : Int) (l2 : Int) (l4 : Int) (k172 : Mm → Rs) : Nat → Int → Mm → Rs
  | 0, _, _ => none
  | n + 1, l6, μ => if (μ 70 37) ≤ l6 then (k172 μ) else (ldA μ 83 (iA (iM 8 l1) l6) fun v21 => bd (X11_placeOf (iA 3 v21) μ) fun v23 μ24 => if v23 = (-1) then (stA μ24 89 (iA (iM 8 l4) l6) (-1) fun μ31 => X11_lay_L107 l1 l2 l4 k172 n (iA l6 1) μ31) else (ldA μ24 87 v23 fun v27 => stA μ24 89 (iA (iM 8 l4) l6) v27 fun μ29 => X11_lay_L107 l1 l2 l4 k172 n (iA l6 1) μ29))
def X11_lay_J58 (k18 : Int → Mm → Rs) (l1 : Int) (l2 : Int) (l4 : Int) (s0 : Int) (μ : Mm) : Rs := X11_lay_L63 l1 l2 l4 s0 (fun μ15 => if s0 = (-1) then (k18 (iA l4 1) μ15) else (bd (X11_spread s0 μ15) fun v17 μ18 => X11_lay_L107 l1 l2 l4 (fun μ33 => k18 (iA l4 1) μ33) FU 0 μ18)) FU 0 μ
def X11_lay_L18 (l1 : Int) (l2 : Int) (k178 : Mm → Rs) : Nat → Int → Mm → Rs
  | 0, _, _ => none
  | n + 1, l4, μ => if (μ 70 37) < l4 then (k178 μ) else (if l4 = (μ 70 37) then (X11_lay_J58 (fun w4 μq => X11_lay_L18 l1 l2 k178 n w4 μq) l1 l2 l4 l2 μ) else (ldA μ 83 (iA (iM 8 l1) l4) fun v7 => bd (X11_placeOf (iA 3 v7) μ) fun v9 μ10 => X11_lay_J58 (fun w4 μq => X11_lay_L18 l1 l2 k178 n w4 μq) l1 l2 l4 v9 μ10))
def X11_lay_L181 (l1 : Int) : Nat → Int → Mm → Rs
  | 0, _, _ => none
  | n + 1, l4, μ => if (μ 70 37) ≤ l4 then (some (0, μ)) else (ldA μ 83 (iA (iM 8 l1) l4) fun v36 => ldA μ 86 v36 fun v38 => stA μ 90 l4 v38 fun μ40 => X11_lay_L181 l1 n (iA l4 1) μ40)
def X11_lay (l1 : Int) (l2 : Int) (l3 : Int) (μ : Mm) : Rs := ldA μ 85 l1 fun v1 => sF μ 70 37 v1 fun μ3 => sF μ3 70 38 l3 fun μ4 => X11_lay_L18 l1 l2 (fun μ34 => X11_lay_L181 l1 FU 0 μ34) FU 0 μ4
set_option maxHeartbeats 4000000 in
set_option maxRecDepth 100000 in
theorem kX11_lay_L63 (d : Nat) (hd : 4 ≤ d) {l1 : Int} {l2 : Int} {l4 : Int} {l5 : Int} {k92 : Mm → Rs} {r : Int} {μ' : Mm} (hk_92 : ∀ (μ1 : Mm), k92 μ1 = some (r, μ') → VV d mX11_lay 92 [some (vR 70), some (vI l1), some (vI l2), none, some (vI l4), some (vI l5), none, none] [] μ1 r μ') : ∀ (n : Nat) {l6 : Int} {μ : Mm}, X11_lay_L63 l1 l2 l4 l5 k92 n l6 μ = some (r, μ') → VV d mX11_lay 63 [some (vR 70), some (vI l1), some (vI l2), none, some (vI l4), some (vI l5), some (vI l6), none] [] μ r μ' := by
  intro n
  induction n with
  | zero => intro l6 μ h; rw [X11_lay_L63] at h; cases h
  | succ n ih =>
    intro l6 μ h
    rw [X11_lay_L63] at h
    refine V_iload (q := 65) dX11_lay_63 rfl rfl ?_
    refine V_aload_n (q := 66) dX11_lay_65 rfl rfl rfl ?_
    refine V_getI (q := 69) fl_X11_316 rfl rfl rfl dX11_lay_66 rfl ?_
    refine V_icmpge (q := 92) (q2 := 72) dX11_lay_69 (by decide) rfl (fun hc12 => ?_) (fun hc12 => ?_)
    · have h := ifT hc12 h
      exact V_weak (hk_92 _ h) (sb_s rfl (sb_s rfl (sb_s rfl (sb_n (sb_s rfl (sb_s rfl (sb_n (sb_n sb_0))))))))
    · have h := ifF hc12 h
      refine V_aload_n (q := 73) dX11_lay_72 rfl rfl rfl ?_
      refine V_getO (q := 76) (t := 89) fl_X11_71 rfl rfl rfl rfl dX11_lay_73 rfl ?_
      refine V_bipush (q := 78) dX11_lay_76 rfl rfl rfl ?_
      refine V_iload (q := 80) dX11_lay_78 rfl rfl ?_
      refine V_imul (q := 81) dX11_lay_80 rfl ?_
      refine V_iload (q := 83) dX11_lay_81 rfl rfl ?_
      refine V_iadd (q := 84) dX11_lay_83 rfl ?_
      refine V_iconst (q := 85) dX11_lay_84 rfl rfl ?_
      obtain ⟨hi14, h⟩ := stA_i h
      refine V_iastore (q := 86) rfl hi14 dX11_lay_85 rfl ?_
      refine V_iinc (q := 89) dX11_lay_86 rfl (Nat.le_of_ble_eq_true rfl) trivial rfl ?_
      refine V_goto (q := 63) dX11_lay_89 (by decide) ?_
      exact V_weak (ih h) (sb_s rfl (sb_s rfl (sb_s rfl (sb_n (sb_s rfl (sb_s rfl (sb_s rfl (sb_n sb_0))))))))
set_option maxHeartbeats 4000000 in
set_option maxRecDepth 100000 in
theorem kX11_lay_L107 (d : Nat) (hd : 4 ≤ d) {l1 : Int} {l2 : Int} {l4 : Int} {k172 : Mm → Rs} {r : Int} {μ' : Mm} (hk_172 : ∀ (μ1 : Mm), k172 μ1 = some (r, μ') → VV d mX11_lay 172 [some (vR 70), some (vI l1), some (vI l2), none, some (vI l4), none, none, none] [] μ1 r μ') : ∀ (n : Nat) {l6 : Int} {μ : Mm}, X11_lay_L107 l1 l2 l4 k172 n l6 μ = some (r, μ') → VV d mX11_lay 107 [some (vR 70), some (vI l1), some (vI l2), none, some (vI l4), none, some (vI l6), none] [] μ r μ' := by
  intro n
  induction n with
  | zero => intro l6 μ h; rw [X11_lay_L107] at h; cases h
  | succ n ih =>
    intro l6 μ h
    rw [X11_lay_L107] at h
    refine V_iload (q := 109) dX11_lay_107 rfl rfl ?_
    refine V_aload_n (q := 110) dX11_lay_109 rfl rfl rfl ?_
    refine V_getI (q := 113) fl_X11_316 rfl rfl rfl dX11_lay_110 rfl ?_
    refine V_icmpge (q := 172) (q2 := 116) dX11_lay_113 (by decide) rfl (fun hc20 => ?_) (fun hc20 => ?_)
    · have h := ifT hc20 h
      exact V_weak (hk_172 _ h) (sb_s rfl (sb_s rfl (sb_s rfl (sb_n (sb_s rfl (sb_n (sb_n (sb_n sb_0))))))))
    · have h := ifF hc20 h
      refine V_aload_n (q := 117) dX11_lay_116 rfl rfl rfl ?_
      refine V_iconst (q := 118) dX11_lay_117 rfl rfl ?_
      refine V_aload_n (q := 119) dX11_lay_118 rfl rfl rfl ?_
      refine V_getO (q := 122) (t := 83) fl_X11_46 rfl rfl rfl rfl dX11_lay_119 rfl ?_
      refine V_bipush (q := 124) dX11_lay_122 rfl rfl rfl ?_
      refine V_iload_n (q := 125) dX11_lay_124 rfl rfl rfl ?_
      refine V_imul (q := 126) dX11_lay_125 rfl ?_
      refine V_iload (q := 128) dX11_lay_126 rfl rfl ?_
      refine V_iadd (q := 129) dX11_lay_128 rfl ?_
      obtain ⟨hi22, h⟩ := ldA_i h
      refine V_iaload (q := 130) rfl hi22 dX11_lay_129 rfl ?_
      refine V_iadd (q := 131) dX11_lay_130 rfl ?_
      obtain ⟨v23, μ24, hc25, h⟩ := bd_i h
      refine V_cV1 (q := 134) (v := vI v23) (kX11_placeOf (d - 1) (by omega) hc25) (by omega) mv_X11_281 rfl rfl rfl rfl rfl rfl dX11_lay_131 rfl ?_
      refine V_istore (q := 136) dX11_lay_134 (Nat.le_of_ble_eq_true rfl) trivial rfl ?_
      refine V_aload_n (q := 137) dX11_lay_136 rfl rfl rfl ?_
      refine V_getO (q := 140) (t := 89) fl_X11_71 rfl rfl rfl rfl dX11_lay_137 rfl ?_
      refine V_bipush (q := 142) dX11_lay_140 rfl rfl rfl ?_
      refine V_iload (q := 144) dX11_lay_142 rfl rfl ?_
      refine V_imul (q := 145) dX11_lay_144 rfl ?_
      refine V_iload (q := 147) dX11_lay_145 rfl rfl ?_
      refine V_iadd (q := 148) dX11_lay_147 rfl ?_
      refine V_iload (q := 150) dX11_lay_148 rfl rfl ?_
      refine V_iconst (q := 151) dX11_lay_150 rfl rfl ?_
      refine V_icmpne (q := 158) (q2 := 154) dX11_lay_151 (by decide) rfl (fun hc26 => ?_) (fun hc26 => ?_)
      · have h := ifF hc26 h
        refine V_aload_n (q := 159) dX11_lay_158 rfl rfl rfl ?_
        refine V_getO (q := 162) (t := 87) fl_X11_65 rfl rfl rfl rfl dX11_lay_159 rfl ?_
        refine V_iload (q := 164) dX11_lay_162 rfl rfl ?_
        obtain ⟨hi28, h⟩ := ldA_i h
        refine V_iaload (q := 165) rfl hi28 dX11_lay_164 rfl ?_
        obtain ⟨hi30, h⟩ := stA_i h
        refine V_iastore (q := 166) rfl hi30 dX11_lay_165 rfl ?_
        refine V_iinc (q := 169) dX11_lay_166 rfl (Nat.le_of_ble_eq_true rfl) trivial rfl ?_
        refine V_goto (q := 107) dX11_lay_169 (by decide) ?_
        exact V_weak (ih h) (sb_s rfl (sb_s rfl (sb_s rfl (sb_n (sb_s rfl (sb_n (sb_s rfl (sb_n sb_0))))))))
      · have h := ifT hc26 h
        refine V_iconst (q := 155) dX11_lay_154 rfl rfl ?_
        refine V_goto (q := 165) dX11_lay_155 (by decide) ?_
        obtain ⟨hi32, h⟩ := stA_i h
        refine V_iastore (q := 166) rfl hi32 dX11_lay_165 rfl ?_
        refine V_iinc (q := 169) dX11_lay_166 rfl (Nat.le_of_ble_eq_true rfl) trivial rfl ?_
        refine V_goto (q := 107) dX11_lay_169 (by decide) ?_
        exact V_weak (ih h) (sb_s rfl (sb_s rfl (sb_s rfl (sb_n (sb_s rfl (sb_n (sb_s rfl (sb_n sb_0))))))))
set_option maxHeartbeats 4000000 in
set_option maxRecDepth 100000 in
theorem kX11_lay_J58 (d : Nat) (hd : 4 ≤ d) {k18 : Int → Mm → Rs} {l1 : Int} {l2 : Int} {l4 : Int} {s0 : Int} {μ : Mm} {r : Int} {μ' : Mm} (hk_18 : ∀ (v4 : Int) (μ1 : Mm), k18 v4 μ1 = some (r, μ') → VV d mX11_lay 18 [some (vR 70), some (vI l1), some (vI l2), none, some (vI v4), none, none, none] [] μ1 r μ') (h : X11_lay_J58 k18 l1 l2 l4 s0 μ = some (r, μ')) : VV d mX11_lay 58 [some (vR 70), some (vI l1), some (vI l2), none, some (vI l4), none, none, none] [vI s0] μ r μ' := by
  unfold X11_lay_J58 at h
  refine V_istore (q := 60) dX11_lay_58 (Nat.le_of_ble_eq_true rfl) trivial rfl ?_
  refine V_iconst (q := 61) dX11_lay_60 rfl rfl ?_
  refine V_istore (q := 63) dX11_lay_61 (Nat.le_of_ble_eq_true rfl) trivial rfl ?_
  refine V_weak (kX11_lay_L63 d hd (fun μ15 h => ?_) FU h) (sb_s rfl (sb_s rfl (sb_s rfl (sb_n (sb_s rfl (sb_s rfl (sb_s rfl (sb_n sb_0))))))))
  refine V_iload (q := 94) dX11_lay_92 rfl rfl ?_
  refine V_iconst (q := 95) dX11_lay_94 rfl rfl ?_
  refine V_icmpeq (q := 172) (q2 := 98) dX11_lay_95 (by decide) rfl (fun hc16 => ?_) (fun hc16 => ?_)
  · have h := ifT hc16 h
    refine V_iinc (q := 175) dX11_lay_172 rfl (Nat.le_of_ble_eq_true rfl) trivial rfl ?_
    refine V_goto (q := 18) dX11_lay_175 (by decide) ?_
    exact V_weak (hk_18 _ _ h) (sb_s rfl (sb_s rfl (sb_s rfl (sb_n (sb_s rfl (sb_n (sb_n (sb_n sb_0))))))))
  · have h := ifF hc16 h
    refine V_aload_n (q := 99) dX11_lay_98 rfl rfl rfl ?_
    refine V_iload (q := 101) dX11_lay_99 rfl rfl ?_
    obtain ⟨v17, μ18, hc19, h⟩ := bd_i h
    refine V_cV0 (q := 104) (kX11_spread (d - 1) (by omega) hc19) (by omega) mv_X11_293 rfl rfl rfl rfl rfl rfl dX11_lay_101 rfl ?_
    refine V_iconst (q := 105) dX11_lay_104 rfl rfl ?_
    refine V_istore (q := 107) dX11_lay_105 (Nat.le_of_ble_eq_true rfl) trivial rfl ?_
    refine V_weak (kX11_lay_L107 d hd (fun μ33 h => ?_) FU h) (sb_s rfl (sb_s rfl (sb_s rfl (sb_n (sb_s rfl (sb_n (sb_s rfl (sb_n sb_0))))))))
    refine V_iinc (q := 175) dX11_lay_172 rfl (Nat.le_of_ble_eq_true rfl) trivial rfl ?_
    refine V_goto (q := 18) dX11_lay_175 (by decide) ?_
    exact V_weak (hk_18 _ _ h) (sb_s rfl (sb_s rfl (sb_s rfl (sb_n (sb_s rfl (sb_n (sb_n (sb_n sb_0))))))))
set_option maxHeartbeats 4000000 in
set_option maxRecDepth 100000 in
theorem kX11_lay_L18 (d : Nat) (hd : 4 ≤ d) {l1 : Int} {l2 : Int} {k178 : Mm → Rs} {r : Int} {μ' : Mm} (hk_178 : ∀ (μ1 : Mm), k178 μ1 = some (r, μ') → VV d mX11_lay 178 [some (vR 70), some (vI l1), none, none, none, none, none, none] [] μ1 r μ') : ∀ (n : Nat) {l4 : Int} {μ : Mm}, X11_lay_L18 l1 l2 k178 n l4 μ = some (r, μ') → VV d mX11_lay 18 [some (vR 70), some (vI l1), some (vI l2), none, some (vI l4), none, none, none] [] μ r μ' := by
  intro n
  induction n with
  | zero => intro l4 μ h; rw [X11_lay_L18] at h; cases h
  | succ n ih =>
    intro l4 μ h
    rw [X11_lay_L18] at h
    refine V_iload (q := 20) dX11_lay_18 rfl rfl ?_
    refine V_aload_n (q := 21) dX11_lay_20 rfl rfl rfl ?_
    refine V_getI (q := 24) fl_X11_316 rfl rfl rfl dX11_lay_21 rfl ?_
    refine V_icmpgt (q := 178) (q2 := 27) dX11_lay_24 (by decide) rfl (fun hc5 => ?_) (fun hc5 => ?_)
    · have h := ifT hc5 h
      exact V_weak (hk_178 _ h) (sb_s rfl (sb_s rfl (sb_n (sb_n (sb_n (sb_n (sb_n (sb_n sb_0))))))))
    · have h := ifF hc5 h
      refine V_iload (q := 29) dX11_lay_27 rfl rfl ?_
      refine V_aload_n (q := 30) dX11_lay_29 rfl rfl rfl ?_
      refine V_getI (q := 33) fl_X11_316 rfl rfl rfl dX11_lay_30 rfl ?_
      refine V_icmpne (q := 40) (q2 := 36) dX11_lay_33 (by decide) rfl (fun hc6 => ?_) (fun hc6 => ?_)
      · have h := ifF hc6 h
        refine V_aload_n (q := 41) dX11_lay_40 rfl rfl rfl ?_
        refine V_iconst (q := 42) dX11_lay_41 rfl rfl ?_
        refine V_aload_n (q := 43) dX11_lay_42 rfl rfl rfl ?_
        refine V_getO (q := 46) (t := 83) fl_X11_46 rfl rfl rfl rfl dX11_lay_43 rfl ?_
        refine V_bipush (q := 48) dX11_lay_46 rfl rfl rfl ?_
        refine V_iload_n (q := 49) dX11_lay_48 rfl rfl rfl ?_
        refine V_imul (q := 50) dX11_lay_49 rfl ?_
        refine V_iload (q := 52) dX11_lay_50 rfl rfl ?_
        refine V_iadd (q := 53) dX11_lay_52 rfl ?_
        obtain ⟨hi8, h⟩ := ldA_i h
        refine V_iaload (q := 54) rfl hi8 dX11_lay_53 rfl ?_
        refine V_iadd (q := 55) dX11_lay_54 rfl ?_
        obtain ⟨v9, μ10, hc11, h⟩ := bd_i h
        refine V_cV1 (q := 58) (v := vI v9) (kX11_placeOf (d - 1) (by omega) hc11) (by omega) mv_X11_281 rfl rfl rfl rfl rfl rfl dX11_lay_55 rfl ?_
        exact V_weak (kX11_lay_J58 d hd (fun _ _ h => ih h) h) (sb_s rfl (sb_s rfl (sb_s rfl (sb_n (sb_s rfl (sb_n (sb_n (sb_n sb_0))))))))
      · have h := ifT hc6 h
        refine V_iload_n (q := 37) dX11_lay_36 rfl rfl rfl ?_
        refine V_goto (q := 58) dX11_lay_37 (by decide) ?_
        exact V_weak (kX11_lay_J58 d hd (fun _ _ h => ih h) h) (sb_s rfl (sb_s rfl (sb_s rfl (sb_n (sb_s rfl (sb_n (sb_n (sb_n sb_0))))))))
set_option maxHeartbeats 4000000 in
set_option maxRecDepth 100000 in
theorem kX11_lay_L181 (d : Nat) (hd : 4 ≤ d) {l1 : Int} {r : Int} {μ' : Mm} : ∀ (n : Nat) {l4 : Int} {μ : Mm}, X11_lay_L181 l1 n l4 μ = some (r, μ') → VV d mX11_lay 181 [some (vR 70), some (vI l1), none, none, some (vI l4), none, none, none] [] μ r μ' := by
  intro n
  induction n with
  | zero => intro l4 μ h; rw [X11_lay_L181] at h; cases h
  | succ n ih =>
    intro l4 μ h
    rw [X11_lay_L181] at h
    refine V_iload (q := 183) dX11_lay_181 rfl rfl ?_
    refine V_aload_n (q := 184) dX11_lay_183 rfl rfl rfl ?_
    refine V_getI (q := 187) fl_X11_316 rfl rfl rfl dX11_lay_184 rfl ?_
    refine V_icmpge (q := 220) (q2 := 190) dX11_lay_187 (by decide) rfl (fun hc35 => ?_) (fun hc35 => ?_)
    · have h := ifT hc35 h
      exact V_vret rfl h dX11_lay_220
    · have h := ifF hc35 h
      refine V_aload_n (q := 191) dX11_lay_190 rfl rfl rfl ?_
      refine V_getO (q := 194) (t := 90) fl_X11_74 rfl rfl rfl rfl dX11_lay_191 rfl ?_
      refine V_iload (q := 196) dX11_lay_194 rfl rfl ?_
      refine V_aload_n (q := 197) dX11_lay_196 rfl rfl rfl ?_
      refine V_getO (q := 200) (t := 86) fl_X11_55 rfl rfl rfl rfl dX11_lay_197 rfl ?_
      refine V_aload_n (q := 201) dX11_lay_200 rfl rfl rfl ?_
      refine V_getO (q := 204) (t := 83) fl_X11_46 rfl rfl rfl rfl dX11_lay_201 rfl ?_
      refine V_bipush (q := 206) dX11_lay_204 rfl rfl rfl ?_
      refine V_iload_n (q := 207) dX11_lay_206 rfl rfl rfl ?_
      refine V_imul (q := 208) dX11_lay_207 rfl ?_
      refine V_iload (q := 210) dX11_lay_208 rfl rfl ?_
      refine V_iadd (q := 211) dX11_lay_210 rfl ?_
      obtain ⟨hi37, h⟩ := ldA_i h
      refine V_iaload (q := 212) rfl hi37 dX11_lay_211 rfl ?_
      obtain ⟨hi39, h⟩ := ldA_i h
      refine V_iaload (q := 213) rfl hi39 dX11_lay_212 rfl ?_
      obtain ⟨hi41, h⟩ := stA_i h
      refine V_iastore (q := 214) rfl hi41 dX11_lay_213 rfl ?_
      refine V_iinc (q := 217) dX11_lay_214 rfl (Nat.le_of_ble_eq_true rfl) trivial rfl ?_
      refine V_goto (q := 181) dX11_lay_217 (by decide) ?_
      exact V_weak (ih h) (sb_s rfl (sb_s rfl (sb_n (sb_n (sb_s rfl (sb_n (sb_n (sb_n sb_0))))))))
set_option maxHeartbeats 4000000 in
set_option maxRecDepth 100000 in
theorem kX11_lay (d : Nat) (hd : 4 ≤ d) {l1 : Int} {l2 : Int} {l3 : Int} {μ : Mm} {r : Int} {μ' : Mm} (h : X11_lay l1 l2 l3 μ = some (r, μ')) : CC d mX11_lay [vR 70, vI l1, vI l2, vI l3] μ r μ' := by
  unfold X11_lay at h
  refine V_enter (by decide) (Nat.le_of_ble_eq_true rfl) ?_
  show VV d mX11_lay 0 [some (vR 70), some (vI l1), some (vI l2), some (vI l3), none, none, none, none] [] μ r μ'
  refine V_aload_n (q := 1) dX11_lay_0 rfl rfl rfl ?_
  refine V_aload_n (q := 2) dX11_lay_1 rfl rfl rfl ?_
  refine V_getO (q := 5) (t := 85) fl_X11_52 rfl rfl rfl rfl dX11_lay_2 rfl ?_
  refine V_iload_n (q := 6) dX11_lay_5 rfl rfl rfl ?_
  obtain ⟨hi2, h⟩ := ldA_i h
  refine V_iaload (q := 7) rfl hi2 dX11_lay_6 rfl ?_
  have h := sF_i h
  refine V_putI (q := 10) fl_X11_316 rfl rfl rfl dX11_lay_7 rfl ?_
  refine V_aload_n (q := 11) dX11_lay_10 rfl rfl rfl ?_
  refine V_iload_n (q := 12) dX11_lay_11 rfl rfl rfl ?_
  have h := sF_i h
  refine V_putI (q := 15) fl_X11_319 rfl rfl rfl dX11_lay_12 rfl ?_
  refine V_iconst (q := 16) dX11_lay_15 rfl rfl ?_
  refine V_istore (q := 18) dX11_lay_16 (Nat.le_of_ble_eq_true rfl) trivial rfl ?_
  refine V_weak (kX11_lay_L18 d hd (fun μ34 h => ?_) FU h) (sb_s rfl (sb_s rfl (sb_s rfl (sb_n (sb_s rfl (sb_n (sb_n (sb_n sb_0))))))))
  refine V_iconst (q := 179) dX11_lay_178 rfl rfl ?_
  refine V_istore (q := 181) dX11_lay_179 (Nat.le_of_ble_eq_true rfl) trivial rfl ?_
  exact V_weak (kX11_lay_L181 d hd  FU h) (sb_s rfl (sb_s rfl (sb_n (sb_n (sb_s rfl (sb_n (sb_n (sb_n sb_0))))))))
