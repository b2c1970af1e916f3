abbrev mX10_order : Mth := (yX10_order, cX10_order, 4, some .int)
set_option maxRecDepth 100000 in
theorem mi_X10_order : Cond.instanceMethod yX10_order ∈ tG ∧ Cond.selects yX10_order.cls yX10_order yX10_order ∈ tG ∧ Cond.initialized yX10_order.cls ∈ tG ∧ Cond.code yX10_order cX10_order 4 (some .int) ∈ tG ∧ (yX10_order.cls ≠ "java/lang/invoke/MethodHandle" ∧ yX10_order.cls ≠ "java/lang/invoke/VarHandle" ∧ (parseMethodDescriptor yX10_order.desc).map (fun d => d.parameters.length) = some 3) ∧ 4 ≤ 60 := ⟨(tG_of (tb3 (List.mem_of_getElem? (i := 221) rfl)) (by decide +kernel)), (tG_of (tb3 (List.mem_of_getElem? (i := 222) rfl)) (by decide +kernel)), (tG_of (tb1 (List.mem_of_getElem? (i := 1) rfl)) (by decide +kernel)), (tG_of (tb3 (List.mem_of_getElem? (i := 223) rfl)) (by decide +kernel)), ⟨by decide, by decide, by decide +kernel⟩, by decide⟩
theorem dX10_order_0 : decode cX10_order 0 = .ok (.iload_n 3, 1) := dc_29 (byA eNcX10_order (p := 0) (v := 29) (by decide +kernel))
theorem dX10_order_1 : decode cX10_order 1 = .ok (.ifCond .lt 17, 3) := dc_155 (byA eNcX10_order (p := 1) (v := 155) (by decide +kernel)) (byA eNcX10_order (p := 2) (v := 0) (by decide +kernel)) (byA eNcX10_order (p := 3) (v := 17) (by decide +kernel)) (by decide +kernel)
theorem dX10_order_4 : decode cX10_order 4 = .ok (.iload_n 3, 1) := dc_29 (byA eNcX10_order (p := 4) (v := 29) (by decide +kernel))
theorem dX10_order_5 : decode cX10_order 5 = .ok (.iconst 3, 1) := dc_6 (byA eNcX10_order (p := 5) (v := 6) (by decide +kernel))
theorem dX10_order_6 : decode cX10_order 6 = .ok (.if_icmp .gt 12, 3) := dc_163 (byA eNcX10_order (p := 6) (v := 163) (by decide +kernel)) (byA eNcX10_order (p := 7) (v := 0) (by decide +kernel)) (byA eNcX10_order (p := 8) (v := 12) (by decide +kernel)) (by decide +kernel)
theorem dX10_order_9 : decode cX10_order 9 = .ok (.aload_n 0, 1) := dc_42 (byA eNcX10_order (p := 9) (v := 42) (by decide +kernel))
theorem dX10_order_10 : decode cX10_order 10 = .ok (.iload_n 1, 1) := dc_27 (byA eNcX10_order (p := 10) (v := 27) (by decide +kernel))
theorem dX10_order_11 : decode cX10_order 11 = .ok (.iload_n 2, 1) := dc_28 (byA eNcX10_order (p := 11) (v := 28) (by decide +kernel))
theorem dX10_order_12 : decode cX10_order 12 = .ok (.invokevirtual 249, 3) := dc_182 (byA eNcX10_order (p := 12) (v := 182) (by decide +kernel)) (byA eNcX10_order (p := 13) (v := 0) (by decide +kernel)) (byA eNcX10_order (p := 14) (v := 249) (by decide +kernel)) rfl
theorem dX10_order_15 : decode cX10_order 15 = .ok (.ifCond .ne 5, 3) := dc_154 (byA eNcX10_order (p := 15) (v := 154) (by decide +kernel)) (byA eNcX10_order (p := 16) (v := 0) (by decide +kernel)) (byA eNcX10_order (p := 17) (v := 5) (by decide +kernel)) (by decide +kernel)
theorem dX10_order_18 : decode cX10_order 18 = .ok (.iconst (-1), 1) := dc_2 (byA eNcX10_order (p := 18) (v := 2) (by decide +kernel))
theorem dX10_order_19 : decode cX10_order 19 = .ok (.ireturn, 1) := dc_172 (byA eNcX10_order (p := 19) (v := 172) (by decide +kernel))
theorem dX10_order_20 : decode cX10_order 20 = .ok (.iload_n 3, 1) := dc_29 (byA eNcX10_order (p := 20) (v := 29) (by decide +kernel))
theorem dX10_order_21 : decode cX10_order 21 = .ok (.tableswitch 51 0 2 #[27, 35, 43], 27) := by decide +kernel
theorem dX10_order_48 : decode cX10_order 48 = .ok (.aload_n 0, 1) := dc_42 (byA eNcX10_order (p := 48) (v := 42) (by decide +kernel))
theorem dX10_order_49 : decode cX10_order 49 = .ok (.getfield 84, 3) := dc_180 (byA eNcX10_order (p := 49) (v := 180) (by decide +kernel)) (byA eNcX10_order (p := 50) (v := 0) (by decide +kernel)) (byA eNcX10_order (p := 51) (v := 84) (by decide +kernel)) rfl
theorem dX10_order_52 : decode cX10_order 52 = .ok (.getfield 252, 3) := dc_180 (byA eNcX10_order (p := 52) (v := 180) (by decide +kernel)) (byA eNcX10_order (p := 53) (v := 0) (by decide +kernel)) (byA eNcX10_order (p := 54) (v := 252) (by decide +kernel)) rfl
theorem dX10_order_55 : decode cX10_order 55 = .ok (.ireturn, 1) := dc_172 (byA eNcX10_order (p := 55) (v := 172) (by decide +kernel))
theorem dX10_order_56 : decode cX10_order 56 = .ok (.aload_n 0, 1) := dc_42 (byA eNcX10_order (p := 56) (v := 42) (by decide +kernel))
theorem dX10_order_57 : decode cX10_order 57 = .ok (.getfield 84, 3) := dc_180 (byA eNcX10_order (p := 57) (v := 180) (by decide +kernel)) (byA eNcX10_order (p := 58) (v := 0) (by decide +kernel)) (byA eNcX10_order (p := 59) (v := 84) (by decide +kernel)) rfl
theorem dX10_order_60 : decode cX10_order 60 = .ok (.getfield 255, 3) := dc_180 (byA eNcX10_order (p := 60) (v := 180) (by decide +kernel)) (byA eNcX10_order (p := 61) (v := 0) (by decide +kernel)) (byA eNcX10_order (p := 62) (v := 255) (by decide +kernel)) rfl
theorem dX10_order_63 : decode cX10_order 63 = .ok (.ireturn, 1) := dc_172 (byA eNcX10_order (p := 63) (v := 172) (by decide +kernel))
theorem dX10_order_64 : decode cX10_order 64 = .ok (.aload_n 0, 1) := dc_42 (byA eNcX10_order (p := 64) (v := 42) (by decide +kernel))
theorem dX10_order_65 : decode cX10_order 65 = .ok (.getfield 84, 3) := dc_180 (byA eNcX10_order (p := 65) (v := 180) (by decide +kernel)) (byA eNcX10_order (p := 66) (v := 0) (by decide +kernel)) (byA eNcX10_order (p := 67) (v := 84) (by decide +kernel)) rfl
theorem dX10_order_68 : decode cX10_order 68 = .ok (.getfield 258, 3) := dc_180 (byA eNcX10_order (p := 68) (v := 180) (by decide +kernel)) (byA eNcX10_order (p := 69) (v := 1) (by decide +kernel)) (byA eNcX10_order (p := 70) (v := 2) (by decide +kernel)) rfl
theorem dX10_order_71 : decode cX10_order 71 = .ok (.ireturn, 1) := dc_172 (byA eNcX10_order (p := 71) (v := 172) (by decide +kernel))
theorem dX10_order_72 : decode cX10_order 72 = .ok (.aload_n 0, 1) := dc_42 (byA eNcX10_order (p := 72) (v := 42) (by decide +kernel))
theorem dX10_order_73 : decode cX10_order 73 = .ok (.getfield 84, 3) := dc_180 (byA eNcX10_order (p := 73) (v := 180) (by decide +kernel)) (byA eNcX10_order (p := 74) (v := 0) (by decide +kernel)) (byA eNcX10_order (p := 75) (v := 84) (by decide +kernel)) rfl
theorem dX10_order_76 : decode cX10_order 76 = .ok (.getfield 261, 3) := dc_180 (byA eNcX10_order (p := 76) (v := 180) (by decide +kernel)) (byA eNcX10_order (p := 77) (v := 1) (by decide +kernel)) (byA eNcX10_order (p := 78) (v := 5) (by decide +kernel)) rfl
theorem dX10_order_79 : decode cX10_order 79 = .ok (.ireturn, 1) := dc_172 (byA eNcX10_order (p := 79) (v := 172) (by decide +kernel))
def X10_order (l1 : Int) (l2 : Int) (l3 : Int) (μ : Mm) : Rs := if l3 < 0 then (some ((-1), μ)) else (if 3 < l3 then (some ((-1), μ)) else (bd (X10_runs l1 l2 μ) fun v3 μ4 => if v3 = 0 then (some ((-1), μ4)) else (if l3 = 0 then (some (μ4 58 4, μ4)) else (if l3 = 1 then (some (μ4 58 5, μ4)) else (if l3 = 2 then (some (μ4 58 6, μ4)) else (some (μ4 58 7, μ4)))))))
set_option maxHeartbeats 4000000 in
set_option maxRecDepth 100000 in
theorem kX10_order (d : Nat) (hd : 273 ≤ d) {l1 : Int} {l2 : Int} {l3 : Int} {μ : Mm} {r : Int} {μ' : Mm} (h : X10_order l1 l2 l3 μ = some (r, μ')) : CC d mX10_order [vR 0, vI l1, vI l2, vI l3] μ r μ' := by
  unfold X10_order at h
  refine V_enter (by decide) (Nat.le_of_ble_eq_true rfl) ?_
  show VV d mX10_order 0 [some (vR 0), some (vI l1), some (vI l2), some (vI l3)] [] μ r μ'
  refine V_iload_n (q := 1) dX10_order_0 rfl rfl rfl ?_
  refine V_iflt (q := 18) (q2 := 4) dX10_order_1 (by decide) rfl (fun hc1 => ?_) (fun hc1 => ?_)
  · have h := ifT hc1 h
    refine V_iconst (q := 19) dX10_order_18 rfl rfl ?_
    exact V_iret rfl h dX10_order_19
  · have h := ifF hc1 h
    refine V_iload_n (q := 5) dX10_order_4 rfl rfl rfl ?_
    refine V_iconst (q := 6) dX10_order_5 rfl rfl ?_
    refine V_icmpgt (q := 18) (q2 := 9) dX10_order_6 (by decide) rfl (fun hc2 => ?_) (fun hc2 => ?_)
    · have h := ifT hc2 h
      refine V_iconst (q := 19) dX10_order_18 rfl rfl ?_
      exact V_iret rfl h dX10_order_19
    · have h := ifF hc2 h
      refine V_aload_n (q := 10) dX10_order_9 rfl rfl rfl ?_
      refine V_iload_n (q := 11) dX10_order_10 rfl rfl rfl ?_
      refine V_iload_n (q := 12) dX10_order_11 rfl rfl rfl ?_
      obtain ⟨v3, μ4, hc5, h⟩ := bd_i h
      refine V_cV1 (q := 15) (v := vI v3) (kX10_runs (d - 1) (by omega) hc5) (by omega) mv_X10_249 rfl rfl rfl rfl rfl rfl dX10_order_12 rfl ?_
      refine V_ifne (q := 20) (q2 := 18) dX10_order_15 (by decide) rfl (fun hc6 => ?_) (fun hc6 => ?_)
      · have h := ifF hc6 h
        refine V_iload_n (q := 21) dX10_order_20 rfl rfl rfl ?_
        refine V_ts1 (q := 48) 0 dX10_order_21 rfl rfl rfl (by decide) (fun hc7 => ?_) (fun hc7 => ?_)
        · have h := ifT hc7 h
          refine V_aload_n (q := 49) dX10_order_48 rfl rfl rfl ?_
          refine V_getO (q := 52) (t := 58) fl_X10_84 rfl rfl rfl rfl dX10_order_49 rfl ?_
          refine V_getI (q := 55) fl_X10_252 rfl rfl rfl dX10_order_52 rfl ?_
          exact V_iret rfl h dX10_order_55
        · have h := ifF hc7 h
          refine V_ts1 (q := 56) 1 dX10_order_21 rfl rfl rfl (by decide) (fun hc8 => ?_) (fun hc8 => ?_)
          · have h := ifT hc8 h
            refine V_aload_n (q := 57) dX10_order_56 rfl rfl rfl ?_
            refine V_getO (q := 60) (t := 58) fl_X10_84 rfl rfl rfl rfl dX10_order_57 rfl ?_
            refine V_getI (q := 63) fl_X10_255 rfl rfl rfl dX10_order_60 rfl ?_
            exact V_iret rfl h dX10_order_63
          · have h := ifF hc8 h
            refine V_ts1 (q := 64) 2 dX10_order_21 rfl rfl rfl (by decide) (fun hc9 => ?_) (fun hc9 => ?_)
            · have h := ifT hc9 h
              refine V_aload_n (q := 65) dX10_order_64 rfl rfl rfl ?_
              refine V_getO (q := 68) (t := 58) fl_X10_84 rfl rfl rfl rfl dX10_order_65 rfl ?_
              refine V_getI (q := 71) fl_X10_258 rfl rfl rfl dX10_order_68 rfl ?_
              exact V_iret rfl h dX10_order_71
            · have h := ifF hc9 h
              refine V_tsOut (q := 72) dX10_order_21 (by omega) (by decide) ?_
              refine V_aload_n (q := 73) dX10_order_72 rfl rfl rfl ?_
              refine V_getO (q := 76) (t := 58) fl_X10_84 rfl rfl rfl rfl dX10_order_73 rfl ?_
              refine V_getI (q := 79) fl_X10_261 rfl rfl rfl dX10_order_76 rfl ?_
              exact V_iret rfl h dX10_order_79
      · have h := ifT hc6 h
        refine V_iconst (q := 19) dX10_order_18 rfl rfl ?_
        exact V_iret rfl h dX10_order_19
abbrev mX10_done : Mth := (yX10_done, cX10_done, 5, some .int)
set_option maxRecDepth 100000 in
theorem mi_X10_done : Cond.instanceMethod yX10_done ∈ tG ∧ Cond.selects yX10_done.cls yX10_done yX10_done ∈ tG ∧ Cond.initialized yX10_done.cls ∈ tG ∧ Cond.code yX10_done cX10_done 5 (some .int) ∈ tG ∧ (yX10_done.cls ≠ "java/lang/invoke/MethodHandle" ∧ yX10_done.cls ≠ "java/lang/invoke/VarHandle" ∧ (parseMethodDescriptor yX10_done.desc).map (fun d => d.parameters.length) = some 4) ∧ 5 ≤ 60 := ⟨(tG_of (tb4 (List.mem_of_getElem? (i := 40) rfl)) (by decide +kernel)), (tG_of (tb4 (List.mem_of_getElem? (i := 41) rfl)) (by decide +kernel)), (tG_of (tb1 (List.mem_of_getElem? (i := 1) rfl)) (by decide +kernel)), (tG_of (tb4 (List.mem_of_getElem? (i := 42) rfl)) (by decide +kernel)), ⟨by decide, by decide, by decide +kernel⟩, by decide⟩
theorem dX10_done_0 : decode cX10_done 0 = .ok (.iload 4, 2) := dc_21 (byA eNcX10_done (p := 0) (v := 21) (by decide +kernel)) (byA eNcX10_done (p := 1) (v := 4) (by decide +kernel))
theorem dX10_done_2 : decode cX10_done 2 = .ok (.ifCond .lt 33, 3) := dc_155 (byA eNcX10_done (p := 2) (v := 155) (by decide +kernel)) (byA eNcX10_done (p := 3) (v := 0) (by decide +kernel)) (byA eNcX10_done (p := 4) (v := 33) (by decide +kernel)) (by decide +kernel)
theorem dX10_done_5 : decode cX10_done 5 = .ok (.iload 4, 2) := dc_21 (byA eNcX10_done (p := 5) (v := 21) (by decide +kernel)) (byA eNcX10_done (p := 6) (v := 4) (by decide +kernel))
theorem dX10_done_7 : decode cX10_done 7 = .ok (.iconst 2, 1) := dc_5 (byA eNcX10_done (p := 7) (v := 5) (by decide +kernel))
theorem dX10_done_8 : decode cX10_done 8 = .ok (.if_icmp .gt 27, 3) := dc_163 (byA eNcX10_done (p := 8) (v := 163) (by decide +kernel)) (byA eNcX10_done (p := 9) (v := 0) (by decide +kernel)) (byA eNcX10_done (p := 10) (v := 27) (by decide +kernel)) (by decide +kernel)
theorem dX10_done_11 : decode cX10_done 11 = .ok (.aload_n 0, 1) := dc_42 (byA eNcX10_done (p := 11) (v := 42) (by decide +kernel))
theorem dX10_done_12 : decode cX10_done 12 = .ok (.iload_n 1, 1) := dc_27 (byA eNcX10_done (p := 12) (v := 27) (by decide +kernel))
theorem dX10_done_13 : decode cX10_done 13 = .ok (.iload_n 2, 1) := dc_28 (byA eNcX10_done (p := 13) (v := 28) (by decide +kernel))
theorem dX10_done_14 : decode cX10_done 14 = .ok (.invokevirtual 249, 3) := dc_182 (byA eNcX10_done (p := 14) (v := 182) (by decide +kernel)) (byA eNcX10_done (p := 15) (v := 0) (by decide +kernel)) (byA eNcX10_done (p := 16) (v := 249) (by decide +kernel)) rfl
theorem dX10_done_17 : decode cX10_done 17 = .ok (.ifCond .eq 18, 3) := dc_153 (byA eNcX10_done (p := 17) (v := 153) (by decide +kernel)) (byA eNcX10_done (p := 18) (v := 0) (by decide +kernel)) (byA eNcX10_done (p := 19) (v := 18) (by decide +kernel)) (by decide +kernel)
theorem dX10_done_20 : decode cX10_done 20 = .ok (.iload_n 3, 1) := dc_29 (byA eNcX10_done (p := 20) (v := 29) (by decide +kernel))
theorem dX10_done_21 : decode cX10_done 21 = .ok (.ifCond .lt 14, 3) := dc_155 (byA eNcX10_done (p := 21) (v := 155) (by decide +kernel)) (byA eNcX10_done (p := 22) (v := 0) (by decide +kernel)) (byA eNcX10_done (p := 23) (v := 14) (by decide +kernel)) (by decide +kernel)
theorem dX10_done_24 : decode cX10_done 24 = .ok (.iload_n 3, 1) := dc_29 (byA eNcX10_done (p := 24) (v := 29) (by decide +kernel))
theorem dX10_done_25 : decode cX10_done 25 = .ok (.aload_n 0, 1) := dc_42 (byA eNcX10_done (p := 25) (v := 42) (by decide +kernel))
theorem dX10_done_26 : decode cX10_done 26 = .ok (.getfield 74, 3) := dc_180 (byA eNcX10_done (p := 26) (v := 180) (by decide +kernel)) (byA eNcX10_done (p := 27) (v := 0) (by decide +kernel)) (byA eNcX10_done (p := 28) (v := 74) (by decide +kernel)) rfl
theorem dX10_done_29 : decode cX10_done 29 = .ok (.getfield 264, 3) := dc_180 (byA eNcX10_done (p := 29) (v := 180) (by decide +kernel)) (byA eNcX10_done (p := 30) (v := 1) (by decide +kernel)) (byA eNcX10_done (p := 31) (v := 8) (by decide +kernel)) rfl
theorem dX10_done_32 : decode cX10_done 32 = .ok (.if_icmp .lt 5, 3) := dc_161 (byA eNcX10_done (p := 32) (v := 161) (by decide +kernel)) (byA eNcX10_done (p := 33) (v := 0) (by decide +kernel)) (byA eNcX10_done (p := 34) (v := 5) (by decide +kernel)) (by decide +kernel)
theorem dX10_done_35 : decode cX10_done 35 = .ok (.iconst (-1), 1) := dc_2 (byA eNcX10_done (p := 35) (v := 2) (by decide +kernel))
theorem dX10_done_36 : decode cX10_done 36 = .ok (.ireturn, 1) := dc_172 (byA eNcX10_done (p := 36) (v := 172) (by decide +kernel))
theorem dX10_done_37 : decode cX10_done 37 = .ok (.iload 4, 2) := dc_21 (byA eNcX10_done (p := 37) (v := 21) (by decide +kernel)) (byA eNcX10_done (p := 38) (v := 4) (by decide +kernel))
theorem dX10_done_39 : decode cX10_done 39 = .ok (.iconst 2, 1) := dc_5 (byA eNcX10_done (p := 39) (v := 5) (by decide +kernel))
theorem dX10_done_40 : decode cX10_done 40 = .ok (.if_icmp .ne 13, 3) := dc_160 (byA eNcX10_done (p := 40) (v := 160) (by decide +kernel)) (byA eNcX10_done (p := 41) (v := 0) (by decide +kernel)) (byA eNcX10_done (p := 42) (v := 13) (by decide +kernel)) (by decide +kernel)
theorem dX10_done_43 : decode cX10_done 43 = .ok (.aload_n 0, 1) := dc_42 (byA eNcX10_done (p := 43) (v := 42) (by decide +kernel))
theorem dX10_done_44 : decode cX10_done 44 = .ok (.getfield 84, 3) := dc_180 (byA eNcX10_done (p := 44) (v := 180) (by decide +kernel)) (byA eNcX10_done (p := 45) (v := 0) (by decide +kernel)) (byA eNcX10_done (p := 46) (v := 84) (by decide +kernel)) rfl
theorem dX10_done_47 : decode cX10_done 47 = .ok (.getfield 265, 3) := dc_180 (byA eNcX10_done (p := 47) (v := 180) (by decide +kernel)) (byA eNcX10_done (p := 48) (v := 1) (by decide +kernel)) (byA eNcX10_done (p := 49) (v := 9) (by decide +kernel)) rfl
theorem dX10_done_50 : decode cX10_done 50 = .ok (.iload_n 3, 1) := dc_29 (byA eNcX10_done (p := 50) (v := 29) (by decide +kernel))
theorem dX10_done_51 : decode cX10_done 51 = .ok (.iaload, 1) := dc_46 (byA eNcX10_done (p := 51) (v := 46) (by decide +kernel))
theorem dX10_done_52 : decode cX10_done 52 = .ok (.ireturn, 1) := dc_172 (byA eNcX10_done (p := 52) (v := 172) (by decide +kernel))
theorem dX10_done_53 : decode cX10_done 53 = .ok (.iload 4, 2) := dc_21 (byA eNcX10_done (p := 53) (v := 21) (by decide +kernel)) (byA eNcX10_done (p := 54) (v := 4) (by decide +kernel))
theorem dX10_done_55 : decode cX10_done 55 = .ok (.ifCond .ne 15, 3) := dc_154 (byA eNcX10_done (p := 55) (v := 154) (by decide +kernel)) (byA eNcX10_done (p := 56) (v := 0) (by decide +kernel)) (byA eNcX10_done (p := 57) (v := 15) (by decide +kernel)) (by decide +kernel)
theorem dX10_done_58 : decode cX10_done 58 = .ok (.aload_n 0, 1) := dc_42 (byA eNcX10_done (p := 58) (v := 42) (by decide +kernel))
theorem dX10_done_59 : decode cX10_done 59 = .ok (.getfield 84, 3) := dc_180 (byA eNcX10_done (p := 59) (v := 180) (by decide +kernel)) (byA eNcX10_done (p := 60) (v := 0) (by decide +kernel)) (byA eNcX10_done (p := 61) (v := 84) (by decide +kernel)) rfl
theorem dX10_done_62 : decode cX10_done 62 = .ok (.getfield 268, 3) := dc_180 (byA eNcX10_done (p := 62) (v := 180) (by decide +kernel)) (byA eNcX10_done (p := 63) (v := 1) (by decide +kernel)) (byA eNcX10_done (p := 64) (v := 12) (by decide +kernel)) rfl
theorem dX10_done_65 : decode cX10_done 65 = .ok (.iload_n 3, 1) := dc_29 (byA eNcX10_done (p := 65) (v := 29) (by decide +kernel))
theorem dX10_done_66 : decode cX10_done 66 = .ok (.iaload, 1) := dc_46 (byA eNcX10_done (p := 66) (v := 46) (by decide +kernel))
theorem dX10_done_67 : decode cX10_done 67 = .ok (.goto 22, 3) := dc_167 (byA eNcX10_done (p := 67) (v := 167) (by decide +kernel)) (byA eNcX10_done (p := 68) (v := 0) (by decide +kernel)) (byA eNcX10_done (p := 69) (v := 22) (by decide +kernel)) (by decide +kernel)
theorem dX10_done_70 : decode cX10_done 70 = .ok (.aload_n 0, 1) := dc_42 (byA eNcX10_done (p := 70) (v := 42) (by decide +kernel))
theorem dX10_done_71 : decode cX10_done 71 = .ok (.getfield 84, 3) := dc_180 (byA eNcX10_done (p := 71) (v := 180) (by decide +kernel)) (byA eNcX10_done (p := 72) (v := 0) (by decide +kernel)) (byA eNcX10_done (p := 73) (v := 84) (by decide +kernel)) rfl
theorem dX10_done_74 : decode cX10_done 74 = .ok (.getfield 268, 3) := dc_180 (byA eNcX10_done (p := 74) (v := 180) (by decide +kernel)) (byA eNcX10_done (p := 75) (v := 1) (by decide +kernel)) (byA eNcX10_done (p := 76) (v := 12) (by decide +kernel)) rfl
theorem dX10_done_77 : decode cX10_done 77 = .ok (.iload_n 3, 1) := dc_29 (byA eNcX10_done (p := 77) (v := 29) (by decide +kernel))
theorem dX10_done_78 : decode cX10_done 78 = .ok (.iaload, 1) := dc_46 (byA eNcX10_done (p := 78) (v := 46) (by decide +kernel))
theorem dX10_done_79 : decode cX10_done 79 = .ok (.aload_n 0, 1) := dc_42 (byA eNcX10_done (p := 79) (v := 42) (by decide +kernel))
theorem dX10_done_80 : decode cX10_done 80 = .ok (.getfield 74, 3) := dc_180 (byA eNcX10_done (p := 80) (v := 180) (by decide +kernel)) (byA eNcX10_done (p := 81) (v := 0) (by decide +kernel)) (byA eNcX10_done (p := 82) (v := 74) (by decide +kernel)) rfl
theorem dX10_done_83 : decode cX10_done 83 = .ok (.getfield 235, 3) := dc_180 (byA eNcX10_done (p := 83) (v := 180) (by decide +kernel)) (byA eNcX10_done (p := 84) (v := 0) (by decide +kernel)) (byA eNcX10_done (p := 85) (v := 235) (by decide +kernel)) rfl
theorem dX10_done_86 : decode cX10_done 86 = .ok (.iload_n 3, 1) := dc_29 (byA eNcX10_done (p := 86) (v := 29) (by decide +kernel))
theorem dX10_done_87 : decode cX10_done 87 = .ok (.iaload, 1) := dc_46 (byA eNcX10_done (p := 87) (v := 46) (by decide +kernel))
theorem dX10_done_88 : decode cX10_done 88 = .ok (.isub, 1) := dc_100 (byA eNcX10_done (p := 88) (v := 100) (by decide +kernel))
theorem dX10_done_89 : decode cX10_done 89 = .ok (.ireturn, 1) := dc_172 (byA eNcX10_done (p := 89) (v := 172) (by decide +kernel))
def X10_done (l1 : Int) (l2 : Int) (l3 : Int) (l4 : Int) (μ : Mm) : Rs := if l4 < 0 then (some ((-1), μ)) else (if 2 < l4 then (some ((-1), μ)) else (bd (X10_runs l1 l2 μ) fun v3 μ4 => if v3 = 0 then (some ((-1), μ4)) else (if l3 < 0 then (some ((-1), μ4)) else (if l3 < (μ4 48 5) then (if l4 = 2 then (ldA μ4 60 l3 fun v17 => some (v17, μ4)) else (if l4 = 0 then (ldA μ4 61 l3 fun v15 => some (v15, μ4)) else (ldA μ4 61 l3 fun v11 => ldA μ4 50 l3 fun v13 => some (iS v11 v13, μ4)))) else (some ((-1), μ4))))))
set_option maxHeartbeats 4000000 in
set_option maxRecDepth 100000 in
theorem kX10_done (d : Nat) (hd : 273 ≤ d) {l1 : Int} {l2 : Int} {l3 : Int} {l4 : Int} {μ : Mm} {r : Int} {μ' : Mm} (h : X10_done l1 l2 l3 l4 μ = some (r, μ')) : CC d mX10_done [vR 0, vI l1, vI l2, vI l3, vI l4] μ r μ' := by
  unfold X10_done at h
  refine V_enter (by decide) (Nat.le_of_ble_eq_true rfl) ?_
  show VV d mX10_done 0 [some (vR 0), some (vI l1), some (vI l2), some (vI l3), some (vI l4)] [] μ r μ'
  refine V_iload (q := 2) dX10_done_0 rfl rfl ?_
  refine V_iflt (q := 35) (q2 := 5) dX10_done_2 (by decide) rfl (fun hc1 => ?_) (fun hc1 => ?_)
  · have h := ifT hc1 h
    refine V_iconst (q := 36) dX10_done_35 rfl rfl ?_
    exact V_iret rfl h dX10_done_36
  · have h := ifF hc1 h
    refine V_iload (q := 7) dX10_done_5 rfl rfl ?_
    refine V_iconst (q := 8) dX10_done_7 rfl rfl ?_
    refine V_icmpgt (q := 35) (q2 := 11) dX10_done_8 (by decide) rfl (fun hc2 => ?_) (fun hc2 => ?_)
    · have h := ifT hc2 h
      refine V_iconst (q := 36) dX10_done_35 rfl rfl ?_
      exact V_iret rfl h dX10_done_36
    · have h := ifF hc2 h
      refine V_aload_n (q := 12) dX10_done_11 rfl rfl rfl ?_
      refine V_iload_n (q := 13) dX10_done_12 rfl rfl rfl ?_
      refine V_iload_n (q := 14) dX10_done_13 rfl rfl rfl ?_
      obtain ⟨v3, μ4, hc5, h⟩ := bd_i h
      refine V_cV1 (q := 17) (v := vI v3) (kX10_runs (d - 1) (by omega) hc5) (by omega) mv_X10_249 rfl rfl rfl rfl rfl rfl dX10_done_14 rfl ?_
      refine V_ifeq (q := 35) (q2 := 20) dX10_done_17 (by decide) rfl (fun hc6 => ?_) (fun hc6 => ?_)
      · have h := ifT hc6 h
        refine V_iconst (q := 36) dX10_done_35 rfl rfl ?_
        exact V_iret rfl h dX10_done_36
      · have h := ifF hc6 h
        refine V_iload_n (q := 21) dX10_done_20 rfl rfl rfl ?_
        refine V_iflt (q := 35) (q2 := 24) dX10_done_21 (by decide) rfl (fun hc7 => ?_) (fun hc7 => ?_)
        · have h := ifT hc7 h
          refine V_iconst (q := 36) dX10_done_35 rfl rfl ?_
          exact V_iret rfl h dX10_done_36
        · have h := ifF hc7 h
          refine V_iload_n (q := 25) dX10_done_24 rfl rfl rfl ?_
          refine V_aload_n (q := 26) dX10_done_25 rfl rfl rfl ?_
          refine V_getO (q := 29) (t := 48) fl_X10_74 rfl rfl rfl rfl dX10_done_26 rfl ?_
          refine V_getI (q := 32) fl_X10_264 rfl rfl rfl dX10_done_29 rfl ?_
          refine V_icmplt (q := 37) (q2 := 35) dX10_done_32 (by decide) rfl (fun hc8 => ?_) (fun hc8 => ?_)
          · have h := ifT hc8 h
            refine V_iload (q := 39) dX10_done_37 rfl rfl ?_
            refine V_iconst (q := 40) dX10_done_39 rfl rfl ?_
            refine V_icmpne (q := 53) (q2 := 43) dX10_done_40 (by decide) rfl (fun hc9 => ?_) (fun hc9 => ?_)
            · have h := ifF hc9 h
              refine V_iload (q := 55) dX10_done_53 rfl rfl ?_
              refine V_ifne (q := 70) (q2 := 58) dX10_done_55 (by decide) rfl (fun hc10 => ?_) (fun hc10 => ?_)
              · have h := ifF hc10 h
                refine V_aload_n (q := 71) dX10_done_70 rfl rfl rfl ?_
                refine V_getO (q := 74) (t := 58) fl_X10_84 rfl rfl rfl rfl dX10_done_71 rfl ?_
                refine V_getO (q := 77) (t := 61) fl_X10_268 rfl rfl rfl rfl dX10_done_74 rfl ?_
                refine V_iload_n (q := 78) dX10_done_77 rfl rfl rfl ?_
                obtain ⟨hi12, h⟩ := ldA_i h
                refine V_iaload (q := 79) rfl hi12 dX10_done_78 rfl ?_
                refine V_aload_n (q := 80) dX10_done_79 rfl rfl rfl ?_
                refine V_getO (q := 83) (t := 48) fl_X10_74 rfl rfl rfl rfl dX10_done_80 rfl ?_
                refine V_getO (q := 86) (t := 50) fl_X10_235 rfl rfl rfl rfl dX10_done_83 rfl ?_
                refine V_iload_n (q := 87) dX10_done_86 rfl rfl rfl ?_
                obtain ⟨hi14, h⟩ := ldA_i h
                refine V_iaload (q := 88) rfl hi14 dX10_done_87 rfl ?_
                refine V_isub (q := 89) dX10_done_88 rfl ?_
                exact V_iret rfl h dX10_done_89
              · have h := ifT hc10 h
                refine V_aload_n (q := 59) dX10_done_58 rfl rfl rfl ?_
                refine V_getO (q := 62) (t := 58) fl_X10_84 rfl rfl rfl rfl dX10_done_59 rfl ?_
                refine V_getO (q := 65) (t := 61) fl_X10_268 rfl rfl rfl rfl dX10_done_62 rfl ?_
                refine V_iload_n (q := 66) dX10_done_65 rfl rfl rfl ?_
                obtain ⟨hi16, h⟩ := ldA_i h
                refine V_iaload (q := 67) rfl hi16 dX10_done_66 rfl ?_
                refine V_goto (q := 89) dX10_done_67 (by decide) ?_
                exact V_iret rfl h dX10_done_89
            · have h := ifT hc9 h
              refine V_aload_n (q := 44) dX10_done_43 rfl rfl rfl ?_
              refine V_getO (q := 47) (t := 58) fl_X10_84 rfl rfl rfl rfl dX10_done_44 rfl ?_
              refine V_getO (q := 50) (t := 60) fl_X10_265 rfl rfl rfl rfl dX10_done_47 rfl ?_
              refine V_iload_n (q := 51) dX10_done_50 rfl rfl rfl ?_
              obtain ⟨hi18, h⟩ := ldA_i h
              refine V_iaload (q := 52) rfl hi18 dX10_done_51 rfl ?_
              exact V_iret rfl h dX10_done_52
          · have h := ifF hc8 h
            refine V_iconst (q := 36) dX10_done_35 rfl rfl ?_
            exact V_iret rfl h dX10_done_36
abbrev mX10_where : Mth := (yX10_where, cX10_where, 4, some .int)
set_option maxRecDepth 100000 in
theorem mi_X10_where : Cond.instanceMethod yX10_where ∈ tG ∧ Cond.selects yX10_where.cls yX10_where yX10_where ∈ tG ∧ Cond.initialized yX10_where.cls ∈ tG ∧ Cond.code yX10_where cX10_where 4 (some .int) ∈ tG ∧ (yX10_where.cls ≠ "java/lang/invoke/MethodHandle" ∧ yX10_where.cls ≠ "java/lang/invoke/VarHandle" ∧ (parseMethodDescriptor yX10_where.desc).map (fun d => d.parameters.length) = some 3) ∧ 4 ≤ 60 := ⟨(tG_of (tb4 (List.mem_of_getElem? (i := 44) rfl)) (by decide +kernel)), (tG_of (tb4 (List.mem_of_getElem? (i := 45) rfl)) (by decide +kernel)), (tG_of (tb1 (List.mem_of_getElem? (i := 1) rfl)) (by decide +kernel)), (tG_of (tb4 (List.mem_of_getElem? (i := 46) rfl)) (by decide +kernel)), ⟨by decide, by decide, by decide +kernel⟩, by decide⟩
theorem dX10_where_0 : decode cX10_where 0 = .ok (.iload_n 3, 1) := dc_29 (byA eNcX10_where (p := 0) (v := 29) (by decide +kernel))
theorem dX10_where_1 : decode cX10_where 1 = .ok (.ifCond .lt 12, 3) := dc_155 (byA eNcX10_where (p := 1) (v := 155) (by decide +kernel)) (byA eNcX10_where (p := 2) (v := 0) (by decide +kernel)) (byA eNcX10_where (p := 3) (v := 12) (by decide +kernel)) (by decide +kernel)
theorem dX10_where_4 : decode cX10_where 4 = .ok (.aload_n 0, 1) := dc_42 (byA eNcX10_where (p := 4) (v := 42) (by decide +kernel))
theorem dX10_where_5 : decode cX10_where 5 = .ok (.iload_n 1, 1) := dc_27 (byA eNcX10_where (p := 5) (v := 27) (by decide +kernel))
theorem dX10_where_6 : decode cX10_where 6 = .ok (.iload_n 2, 1) := dc_28 (byA eNcX10_where (p := 6) (v := 28) (by decide +kernel))
theorem dX10_where_7 : decode cX10_where 7 = .ok (.invokevirtual 249, 3) := dc_182 (byA eNcX10_where (p := 7) (v := 182) (by decide +kernel)) (byA eNcX10_where (p := 8) (v := 0) (by decide +kernel)) (byA eNcX10_where (p := 9) (v := 249) (by decide +kernel)) rfl
theorem dX10_where_10 : decode cX10_where 10 = .ok (.ifCond .ne 5, 3) := dc_154 (byA eNcX10_where (p := 10) (v := 154) (by decide +kernel)) (byA eNcX10_where (p := 11) (v := 0) (by decide +kernel)) (byA eNcX10_where (p := 12) (v := 5) (by decide +kernel)) (by decide +kernel)
theorem dX10_where_13 : decode cX10_where 13 = .ok (.iconst (-1), 1) := dc_2 (byA eNcX10_where (p := 13) (v := 2) (by decide +kernel))
theorem dX10_where_14 : decode cX10_where 14 = .ok (.ireturn, 1) := dc_172 (byA eNcX10_where (p := 14) (v := 172) (by decide +kernel))
theorem dX10_where_15 : decode cX10_where 15 = .ok (.aload_n 0, 1) := dc_42 (byA eNcX10_where (p := 15) (v := 42) (by decide +kernel))
theorem dX10_where_16 : decode cX10_where 16 = .ok (.getfield 84, 3) := dc_180 (byA eNcX10_where (p := 16) (v := 180) (by decide +kernel)) (byA eNcX10_where (p := 17) (v := 0) (by decide +kernel)) (byA eNcX10_where (p := 18) (v := 84) (by decide +kernel)) rfl
theorem dX10_where_19 : decode cX10_where 19 = .ok (.aload_n 0, 1) := dc_42 (byA eNcX10_where (p := 19) (v := 42) (by decide +kernel))
theorem dX10_where_20 : decode cX10_where 20 = .ok (.getfield 74, 3) := dc_180 (byA eNcX10_where (p := 20) (v := 180) (by decide +kernel)) (byA eNcX10_where (p := 21) (v := 0) (by decide +kernel)) (byA eNcX10_where (p := 22) (v := 74) (by decide +kernel)) rfl
theorem dX10_where_23 : decode cX10_where 23 = .ok (.iload_n 3, 1) := dc_29 (byA eNcX10_where (p := 23) (v := 29) (by decide +kernel))
theorem dX10_where_24 : decode cX10_where 24 = .ok (.invokevirtual 271, 3) := dc_182 (byA eNcX10_where (p := 24) (v := 182) (by decide +kernel)) (byA eNcX10_where (p := 25) (v := 1) (by decide +kernel)) (byA eNcX10_where (p := 26) (v := 15) (by decide +kernel)) rfl
theorem dX10_where_27 : decode cX10_where 27 = .ok (.ireturn, 1) := dc_172 (byA eNcX10_where (p := 27) (v := 172) (by decide +kernel))
def X10_where (l1 : Int) (l2 : Int) (l3 : Int) (μ : Mm) : Rs := if l3 < 0 then (some ((-1), μ)) else (bd (X10_runs l1 l2 μ) fun v2 μ3 => if v2 = 0 then (some ((-1), μ3)) else (bd (X5_crankAt 48 l3 μ3) fun v6 μ7 => some (v6, μ7)))
set_option maxHeartbeats 4000000 in
set_option maxRecDepth 100000 in
theorem kX10_where (d : Nat) (hd : 273 ≤ d) {l1 : Int} {l2 : Int} {l3 : Int} {μ : Mm} {r : Int} {μ' : Mm} (h : X10_where l1 l2 l3 μ = some (r, μ')) : CC d mX10_where [vR 0, vI l1, vI l2, vI l3] μ r μ' := by
  unfold X10_where at h
  refine V_enter (by decide) (Nat.le_of_ble_eq_true rfl) ?_
  show VV d mX10_where 0 [some (vR 0), some (vI l1), some (vI l2), some (vI l3)] [] μ r μ'
  refine V_iload_n (q := 1) dX10_where_0 rfl rfl rfl ?_
  refine V_iflt (q := 13) (q2 := 4) dX10_where_1 (by decide) rfl (fun hc1 => ?_) (fun hc1 => ?_)
  · have h := ifT hc1 h
    refine V_iconst (q := 14) dX10_where_13 rfl rfl ?_
    exact V_iret rfl h dX10_where_14
  · have h := ifF hc1 h
    refine V_aload_n (q := 5) dX10_where_4 rfl rfl rfl ?_
    refine V_iload_n (q := 6) dX10_where_5 rfl rfl rfl ?_
    refine V_iload_n (q := 7) dX10_where_6 rfl rfl rfl ?_
    obtain ⟨v2, μ3, hc4, h⟩ := bd_i h
    refine V_cV1 (q := 10) (v := vI v2) (kX10_runs (d - 1) (by omega) hc4) (by omega) mv_X10_249 rfl rfl rfl rfl rfl rfl dX10_where_7 rfl ?_
    refine V_ifne (q := 15) (q2 := 13) dX10_where_10 (by decide) rfl (fun hc5 => ?_) (fun hc5 => ?_)
    · have h := ifF hc5 h
      refine V_aload_n (q := 16) dX10_where_15 rfl rfl rfl ?_
      refine V_getO (q := 19) (t := 58) fl_X10_84 rfl rfl rfl rfl dX10_where_16 rfl ?_
      refine V_aload_n (q := 20) dX10_where_19 rfl rfl rfl ?_
      refine V_getO (q := 23) (t := 48) fl_X10_74 rfl rfl rfl rfl dX10_where_20 rfl ?_
      refine V_iload_n (q := 24) dX10_where_23 rfl rfl rfl ?_
      obtain ⟨v6, μ7, hc8, h⟩ := bd_i h
      refine V_cV1 (q := 27) (v := vI v6) (kX5_crankAt (d - 1) (by omega) rfl hc8) (by omega) mv_X10_271 rfl rfl rfl rfl rfl rfl dX10_where_24 rfl ?_
      exact V_iret rfl h dX10_where_27
    · have h := ifT hc5 h
      refine V_iconst (q := 14) dX10_where_13 rfl rfl ?_
      exact V_iret rfl h dX10_where_14
abbrev mX10_isHalf : Mth := (yX10_isHalf, cX10_isHalf, 1, some .boolean)
set_option maxRecDepth 100000 in
theorem mi_X10_isHalf : Cond.static yX10_isHalf ∈ tG ∧ Cond.initialized yX10_isHalf.cls ∈ tG ∧ Cond.code yX10_isHalf cX10_isHalf 1 (some .boolean) ∈ tG ∧ (yX10_isHalf.cls ≠ "java/lang/invoke/MethodHandle" ∧ yX10_isHalf.cls ≠ "java/lang/invoke/VarHandle" ∧ (parseMethodDescriptor yX10_isHalf.desc).map (fun d => d.parameters.length) = some 1) ∧ 1 ≤ 60 := ⟨(tG_of (tb4 (List.mem_of_getElem? (i := 56) rfl)) (by decide +kernel)), (tG_of (tb1 (List.mem_of_getElem? (i := 1) rfl)) (by decide +kernel)), (tG_of (tb4 (List.mem_of_getElem? (i := 57) rfl)) (by decide +kernel)), ⟨by decide, by decide, by decide +kernel⟩, by decide⟩
set_option maxRecDepth 100000 in
theorem mv_X10_275 : mS RX10 275 mX10_isHalf 1 := ⟨(tG_of (tb4 (List.mem_of_getElem? (i := 55) rfl)) (by decide +kernel)), mi_X10_isHalf.1, (tG_of (tb1 (List.mem_of_getElem? (i := 1) rfl)) (by decide +kernel)), mi_X10_isHalf.2⟩
theorem dX10_isHalf_0 : decode cX10_isHalf 0 = .ok (.iload_n 0, 1) := dc_26 (byA eNcX10_isHalf (p := 0) (v := 26) (by decide +kernel))
theorem dX10_isHalf_1 : decode cX10_isHalf 1 = .ok (.ifCond .eq 8, 3) := dc_153 (byA eNcX10_isHalf (p := 1) (v := 153) (by decide +kernel)) (byA eNcX10_isHalf (p := 2) (v := 0) (by decide +kernel)) (byA eNcX10_isHalf (p := 3) (v := 8) (by decide +kernel)) (by decide +kernel)
theorem dX10_isHalf_4 : decode cX10_isHalf 4 = .ok (.iload_n 0, 1) := dc_26 (byA eNcX10_isHalf (p := 4) (v := 26) (by decide +kernel))
theorem dX10_isHalf_5 : decode cX10_isHalf 5 = .ok (.iconst 1, 1) := dc_4 (byA eNcX10_isHalf (p := 5) (v := 4) (by decide +kernel))
theorem dX10_isHalf_6 : decode cX10_isHalf 6 = .ok (.if_icmp .ne 7, 3) := dc_160 (byA eNcX10_isHalf (p := 6) (v := 160) (by decide +kernel)) (byA eNcX10_isHalf (p := 7) (v := 0) (by decide +kernel)) (byA eNcX10_isHalf (p := 8) (v := 7) (by decide +kernel)) (by decide +kernel)
theorem dX10_isHalf_9 : decode cX10_isHalf 9 = .ok (.iconst 1, 1) := dc_4 (byA eNcX10_isHalf (p := 9) (v := 4) (by decide +kernel))
theorem dX10_isHalf_10 : decode cX10_isHalf 10 = .ok (.goto 4, 3) := dc_167 (byA eNcX10_isHalf (p := 10) (v := 167) (by decide +kernel)) (byA eNcX10_isHalf (p := 11) (v := 0) (by decide +kernel)) (byA eNcX10_isHalf (p := 12) (v := 4) (by decide +kernel)) (by decide +kernel)
theorem dX10_isHalf_13 : decode cX10_isHalf 13 = .ok (.iconst 0, 1) := dc_3 (byA eNcX10_isHalf (p := 13) (v := 3) (by decide +kernel))
theorem dX10_isHalf_14 : decode cX10_isHalf 14 = .ok (.ireturn, 1) := dc_172 (byA eNcX10_isHalf (p := 14) (v := 172) (by decide +kernel))
def X10_isHalf (l0 : Int) (μ : Mm) : Rs := if l0 = 0 then (some (1, μ)) else (if l0 = 1 then (some (1, μ)) else (some (0, μ)))
set_option maxHeartbeats 4000000 in
set_option maxRecDepth 100000 in
theorem kX10_isHalf (d : Nat) (hd : 1 ≤ d) {l0 : Int} {μ : Mm} {r : Int} {μ' : Mm} (h : X10_isHalf l0 μ = some (r, μ')) : CC d mX10_isHalf [vI l0] μ r μ' := by
  unfold X10_isHalf at h
  refine V_enter (by decide) (Nat.le_of_ble_eq_true rfl) ?_
  show VV d mX10_isHalf 0 [some (vI l0)] [] μ r μ'
  refine V_iload_n (q := 1) dX10_isHalf_0 rfl rfl rfl ?_
  refine V_ifeq (q := 9) (q2 := 4) dX10_isHalf_1 (by decide) rfl (fun hc1 => ?_) (fun hc1 => ?_)
  · have h := ifT hc1 h
    refine V_iconst (q := 10) dX10_isHalf_9 rfl rfl ?_
    refine V_goto (q := 14) dX10_isHalf_10 (by decide) ?_
    exact V_zret rfl (Or.inr rfl) h dX10_isHalf_14
  · have h := ifF hc1 h
    refine V_iload_n (q := 5) dX10_isHalf_4 rfl rfl rfl ?_
    refine V_iconst (q := 6) dX10_isHalf_5 rfl rfl ?_
    refine V_icmpne (q := 13) (q2 := 9) dX10_isHalf_6 (by decide) rfl (fun hc2 => ?_) (fun hc2 => ?_)
    · have h := ifF hc2 h
      refine V_iconst (q := 14) dX10_isHalf_13 rfl rfl ?_
      exact V_zret rfl (Or.inl rfl) h dX10_isHalf_14
    · have h := ifT hc2 h
      refine V_iconst (q := 10) dX10_isHalf_9 rfl rfl ?_
      refine V_goto (q := 14) dX10_isHalf_10 (by decide) ?_
      exact V_zret rfl (Or.inr rfl) h dX10_isHalf_14
abbrev mX10_walk : Mth := (yX10_walk, cX10_walk, 4, some .int)
set_option maxRecDepth 100000 in
theorem mi_X10_walk : Cond.instanceMethod yX10_walk ∈ tG ∧ Cond.selects yX10_walk.cls yX10_walk yX10_walk ∈ tG ∧ Cond.initialized yX10_walk.cls ∈ tG ∧ Cond.code yX10_walk cX10_walk 4 (some .int) ∈ tG ∧ (yX10_walk.cls ≠ "java/lang/invoke/MethodHandle" ∧ yX10_walk.cls ≠ "java/lang/invoke/VarHandle" ∧ (parseMethodDescriptor yX10_walk.desc).map (fun d => d.parameters.length) = some 3) ∧ 4 ≤ 60 := ⟨(tG_of (tb4 (List.mem_of_getElem? (i := 52) rfl)) (by decide +kernel)), (tG_of (tb4 (List.mem_of_getElem? (i := 53) rfl)) (by decide +kernel)), (tG_of (tb1 (List.mem_of_getElem? (i := 1) rfl)) (by decide +kernel)), (tG_of (tb4 (List.mem_of_getElem? (i := 54) rfl)) (by decide +kernel)), ⟨by decide, by decide, by decide +kernel⟩, by decide⟩
theorem dX10_walk_0 : decode cX10_walk 0 = .ok (.iload_n 3, 1) := dc_29 (byA eNcX10_walk (p := 0) (v := 29) (by decide +kernel))
theorem dX10_walk_1 : decode cX10_walk 1 = .ok (.invokestatic 275, 3) := dc_184 (byA eNcX10_walk (p := 1) (v := 184) (by decide +kernel)) (byA eNcX10_walk (p := 2) (v := 1) (by decide +kernel)) (byA eNcX10_walk (p := 3) (v := 19) (by decide +kernel)) rfl
theorem dX10_walk_4 : decode cX10_walk 4 = .ok (.ifCond .eq 12, 3) := dc_153 (byA eNcX10_walk (p := 4) (v := 153) (by decide +kernel)) (byA eNcX10_walk (p := 5) (v := 0) (by decide +kernel)) (byA eNcX10_walk (p := 6) (v := 12) (by decide +kernel)) (by decide +kernel)
theorem dX10_walk_7 : decode cX10_walk 7 = .ok (.aload_n 0, 1) := dc_42 (byA eNcX10_walk (p := 7) (v := 42) (by decide +kernel))
theorem dX10_walk_8 : decode cX10_walk 8 = .ok (.iload_n 1, 1) := dc_27 (byA eNcX10_walk (p := 8) (v := 27) (by decide +kernel))
theorem dX10_walk_9 : decode cX10_walk 9 = .ok (.iload_n 2, 1) := dc_28 (byA eNcX10_walk (p := 9) (v := 28) (by decide +kernel))
theorem dX10_walk_10 : decode cX10_walk 10 = .ok (.invokevirtual 249, 3) := dc_182 (byA eNcX10_walk (p := 10) (v := 182) (by decide +kernel)) (byA eNcX10_walk (p := 11) (v := 0) (by decide +kernel)) (byA eNcX10_walk (p := 12) (v := 249) (by decide +kernel)) rfl
theorem dX10_walk_13 : decode cX10_walk 13 = .ok (.ifCond .ne 5, 3) := dc_154 (byA eNcX10_walk (p := 13) (v := 154) (by decide +kernel)) (byA eNcX10_walk (p := 14) (v := 0) (by decide +kernel)) (byA eNcX10_walk (p := 15) (v := 5) (by decide +kernel)) (by decide +kernel)
theorem dX10_walk_16 : decode cX10_walk 16 = .ok (.iconst (-1), 1) := dc_2 (byA eNcX10_walk (p := 16) (v := 2) (by decide +kernel))
theorem dX10_walk_17 : decode cX10_walk 17 = .ok (.ireturn, 1) := dc_172 (byA eNcX10_walk (p := 17) (v := 172) (by decide +kernel))
theorem dX10_walk_18 : decode cX10_walk 18 = .ok (.iload_n 3, 1) := dc_29 (byA eNcX10_walk (p := 18) (v := 29) (by decide +kernel))
theorem dX10_walk_19 : decode cX10_walk 19 = .ok (.ifCond .ne 13, 3) := dc_154 (byA eNcX10_walk (p := 19) (v := 154) (by decide +kernel)) (byA eNcX10_walk (p := 20) (v := 0) (by decide +kernel)) (byA eNcX10_walk (p := 21) (v := 13) (by decide +kernel)) (by decide +kernel)
theorem dX10_walk_22 : decode cX10_walk 22 = .ok (.aload_n 0, 1) := dc_42 (byA eNcX10_walk (p := 22) (v := 42) (by decide +kernel))
theorem dX10_walk_23 : decode cX10_walk 23 = .ok (.getfield 84, 3) := dc_180 (byA eNcX10_walk (p := 23) (v := 180) (by decide +kernel)) (byA eNcX10_walk (p := 24) (v := 0) (by decide +kernel)) (byA eNcX10_walk (p := 25) (v := 84) (by decide +kernel)) rfl
theorem dX10_walk_26 : decode cX10_walk 26 = .ok (.getfield 278, 3) := dc_180 (byA eNcX10_walk (p := 26) (v := 180) (by decide +kernel)) (byA eNcX10_walk (p := 27) (v := 1) (by decide +kernel)) (byA eNcX10_walk (p := 28) (v := 22) (by decide +kernel)) rfl
theorem dX10_walk_29 : decode cX10_walk 29 = .ok (.goto 10, 3) := dc_167 (byA eNcX10_walk (p := 29) (v := 167) (by decide +kernel)) (byA eNcX10_walk (p := 30) (v := 0) (by decide +kernel)) (byA eNcX10_walk (p := 31) (v := 10) (by decide +kernel)) (by decide +kernel)
theorem dX10_walk_32 : decode cX10_walk 32 = .ok (.aload_n 0, 1) := dc_42 (byA eNcX10_walk (p := 32) (v := 42) (by decide +kernel))
theorem dX10_walk_33 : decode cX10_walk 33 = .ok (.getfield 84, 3) := dc_180 (byA eNcX10_walk (p := 33) (v := 180) (by decide +kernel)) (byA eNcX10_walk (p := 34) (v := 0) (by decide +kernel)) (byA eNcX10_walk (p := 35) (v := 84) (by decide +kernel)) rfl
theorem dX10_walk_36 : decode cX10_walk 36 = .ok (.getfield 281, 3) := dc_180 (byA eNcX10_walk (p := 36) (v := 180) (by decide +kernel)) (byA eNcX10_walk (p := 37) (v := 1) (by decide +kernel)) (byA eNcX10_walk (p := 38) (v := 25) (by decide +kernel)) rfl
theorem dX10_walk_39 : decode cX10_walk 39 = .ok (.ireturn, 1) := dc_172 (byA eNcX10_walk (p := 39) (v := 172) (by decide +kernel))
def X10_walk (l1 : Int) (l2 : Int) (l3 : Int) (μ : Mm) : Rs := bd (X10_isHalf l3 μ) fun v1 μ2 => if v1 = 0 then (some ((-1), μ2)) else (bd (X10_runs l1 l2 μ2) fun v5 μ6 => if v5 = 0 then (some ((-1), μ6)) else (if l3 = 0 then (some (μ6 58 8, μ6)) else (some (μ6 58 9, μ6))))
set_option maxHeartbeats 4000000 in
set_option maxRecDepth 100000 in
theorem kX10_walk (d : Nat) (hd : 273 ≤ d) {l1 : Int} {l2 : Int} {l3 : Int} {μ : Mm} {r : Int} {μ' : Mm} (h : X10_walk l1 l2 l3 μ = some (r, μ')) : CC d mX10_walk [vR 0, vI l1, vI l2, vI l3] μ r μ' := by
  unfold X10_walk at h
  refine V_enter (by decide) (Nat.le_of_ble_eq_true rfl) ?_
  show VV d mX10_walk 0 [some (vR 0), some (vI l1), some (vI l2), some (vI l3)] [] μ r μ'
  refine V_iload_n (q := 1) dX10_walk_0 rfl rfl rfl ?_
  obtain ⟨v1, μ2, hc3, h⟩ := bd_i h
  refine V_cS1 (q := 4) (v := vI v1) (kX10_isHalf (d - 1) (by omega) hc3) (by omega) mv_X10_275 rfl rfl rfl rfl dX10_walk_1 rfl ?_
  refine V_ifeq (q := 16) (q2 := 7) dX10_walk_4 (by decide) rfl (fun hc4 => ?_) (fun hc4 => ?_)
  · have h := ifT hc4 h
    refine V_iconst (q := 17) dX10_walk_16 rfl rfl ?_
    exact V_iret rfl h dX10_walk_17
  · have h := ifF hc4 h
    refine V_aload_n (q := 8) dX10_walk_7 rfl rfl rfl ?_
    refine V_iload_n (q := 9) dX10_walk_8 rfl rfl rfl ?_
    refine V_iload_n (q := 10) dX10_walk_9 rfl rfl rfl ?_
    obtain ⟨v5, μ6, hc7, h⟩ := bd_i h
    refine V_cV1 (q := 13) (v := vI v5) (kX10_runs (d - 1) (by omega) hc7) (by omega) mv_X10_249 rfl rfl rfl rfl rfl rfl dX10_walk_10 rfl ?_
    refine V_ifne (q := 18) (q2 := 16) dX10_walk_13 (by decide) rfl (fun hc8 => ?_) (fun hc8 => ?_)
    · have h := ifF hc8 h
      refine V_iload_n (q := 19) dX10_walk_18 rfl rfl rfl ?_
      refine V_ifne (q := 32) (q2 := 22) dX10_walk_19 (by decide) rfl (fun hc9 => ?_) (fun hc9 => ?_)
      · have h := ifF hc9 h
        refine V_aload_n (q := 33) dX10_walk_32 rfl rfl rfl ?_
        refine V_getO (q := 36) (t := 58) fl_X10_84 rfl rfl rfl rfl dX10_walk_33 rfl ?_
        refine V_getI (q := 39) fl_X10_281 rfl rfl rfl dX10_walk_36 rfl ?_
        exact V_iret rfl h dX10_walk_39
      · have h := ifT hc9 h
        refine V_aload_n (q := 23) dX10_walk_22 rfl rfl rfl ?_
        refine V_getO (q := 26) (t := 58) fl_X10_84 rfl rfl rfl rfl dX10_walk_23 rfl ?_
        refine V_getI (q := 29) fl_X10_278 rfl rfl rfl dX10_walk_26 rfl ?_
        refine V_goto (q := 39) dX10_walk_29 (by decide) ?_
        exact V_iret rfl h dX10_walk_39
    · have h := ifT hc8 h
      refine V_iconst (q := 17) dX10_walk_16 rfl rfl ?_
      exact V_iret rfl h dX10_walk_17
abbrev mX10_latesByBook : Mth := (yX10_latesByBook, cX10_latesByBook, 2, some .int)
set_option maxRecDepth 100000 in
theorem mi_X10_latesByBook : Cond.instanceMethod yX10_latesByBook ∈ tG ∧ Cond.selects yX10_latesByBook.cls yX10_latesByBook yX10_latesByBook ∈ tG ∧ Cond.initialized yX10_latesByBook.cls ∈ tG ∧ Cond.code yX10_latesByBook cX10_latesByBook 2 (some .int) ∈ tG ∧ (yX10_latesByBook.cls ≠ "java/lang/invoke/MethodHandle" ∧ yX10_latesByBook.cls ≠ "java/lang/invoke/VarHandle" ∧ (parseMethodDescriptor yX10_latesByBook.desc).map (fun d => d.parameters.length) = some 1) ∧ 2 ≤ 60 := ⟨(tG_of (tb4 (List.mem_of_getElem? (i := 117) rfl)) (by decide +kernel)), (tG_of (List.mem_of_getElem? (i := 33) (by decide +kernel)) (by decide +kernel)), (tG_of (tb1 (List.mem_of_getElem? (i := 1) rfl)) (by decide +kernel)), (tG_of (tb4 (List.mem_of_getElem? (i := 118) rfl)) (by decide +kernel)), ⟨by decide, by decide, by decide +kernel⟩, by decide⟩
set_option maxRecDepth 100000 in
theorem mv_X10_322 : mV RX10 322 mX10_latesByBook 1 := ⟨(tG_of (tb4 (List.mem_of_getElem? (i := 115) rfl)) (by decide +kernel)), mi_X10_latesByBook⟩
theorem dX10_latesByBook_0 : decode cX10_latesByBook 0 = .ok (.aload_n 0, 1) := dc_42 (byA eNcX10_latesByBook (p := 0) (v := 42) (by decide +kernel))
theorem dX10_latesByBook_1 : decode cX10_latesByBook 1 = .ok (.getfield 84, 3) := dc_180 (byA eNcX10_latesByBook (p := 1) (v := 180) (by decide +kernel)) (byA eNcX10_latesByBook (p := 2) (v := 0) (by decide +kernel)) (byA eNcX10_latesByBook (p := 3) (v := 84) (by decide +kernel)) rfl
theorem dX10_latesByBook_4 : decode cX10_latesByBook 4 = .ok (.iload_n 1, 1) := dc_27 (byA eNcX10_latesByBook (p := 4) (v := 27) (by decide +kernel))
theorem dX10_latesByBook_5 : decode cX10_latesByBook 5 = .ok (.aload_n 0, 1) := dc_42 (byA eNcX10_latesByBook (p := 5) (v := 42) (by decide +kernel))
theorem dX10_latesByBook_6 : decode cX10_latesByBook 6 = .ok (.getfield 74, 3) := dc_180 (byA eNcX10_latesByBook (p := 6) (v := 180) (by decide +kernel)) (byA eNcX10_latesByBook (p := 7) (v := 0) (by decide +kernel)) (byA eNcX10_latesByBook (p := 8) (v := 74) (by decide +kernel)) rfl
theorem dX10_latesByBook_9 : decode cX10_latesByBook 9 = .ok (.getfield 264, 3) := dc_180 (byA eNcX10_latesByBook (p := 9) (v := 180) (by decide +kernel)) (byA eNcX10_latesByBook (p := 10) (v := 1) (by decide +kernel)) (byA eNcX10_latesByBook (p := 11) (v := 8) (by decide +kernel)) rfl
theorem dX10_latesByBook_12 : decode cX10_latesByBook 12 = .ok (.invokevirtual 298, 3) := dc_182 (byA eNcX10_latesByBook (p := 12) (v := 182) (by decide +kernel)) (byA eNcX10_latesByBook (p := 13) (v := 1) (by decide +kernel)) (byA eNcX10_latesByBook (p := 14) (v := 42) (by decide +kernel)) rfl
theorem dX10_latesByBook_15 : decode cX10_latesByBook 15 = .ok (.aload_n 0, 1) := dc_42 (byA eNcX10_latesByBook (p := 15) (v := 42) (by decide +kernel))
theorem dX10_latesByBook_16 : decode cX10_latesByBook 16 = .ok (.getfield 84, 3) := dc_180 (byA eNcX10_latesByBook (p := 16) (v := 180) (by decide +kernel)) (byA eNcX10_latesByBook (p := 17) (v := 0) (by decide +kernel)) (byA eNcX10_latesByBook (p := 18) (v := 84) (by decide +kernel)) rfl
theorem dX10_latesByBook_19 : decode cX10_latesByBook 19 = .ok (.aload_n 0, 1) := dc_42 (byA eNcX10_latesByBook (p := 19) (v := 42) (by decide +kernel))
theorem dX10_latesByBook_20 : decode cX10_latesByBook 20 = .ok (.getfield 74, 3) := dc_180 (byA eNcX10_latesByBook (p := 20) (v := 180) (by decide +kernel)) (byA eNcX10_latesByBook (p := 21) (v := 0) (by decide +kernel)) (byA eNcX10_latesByBook (p := 22) (v := 74) (by decide +kernel)) rfl
theorem dX10_latesByBook_23 : decode cX10_latesByBook 23 = .ok (.invokevirtual 294, 3) := dc_182 (byA eNcX10_latesByBook (p := 23) (v := 182) (by decide +kernel)) (byA eNcX10_latesByBook (p := 24) (v := 1) (by decide +kernel)) (byA eNcX10_latesByBook (p := 25) (v := 38) (by decide +kernel)) rfl
theorem dX10_latesByBook_26 : decode cX10_latesByBook 26 = .ok (.ifCond .eq 13, 3) := dc_153 (byA eNcX10_latesByBook (p := 26) (v := 153) (by decide +kernel)) (byA eNcX10_latesByBook (p := 27) (v := 0) (by decide +kernel)) (byA eNcX10_latesByBook (p := 28) (v := 13) (by decide +kernel)) (by decide +kernel)
theorem dX10_latesByBook_29 : decode cX10_latesByBook 29 = .ok (.aload_n 0, 1) := dc_42 (byA eNcX10_latesByBook (p := 29) (v := 42) (by decide +kernel))
theorem dX10_latesByBook_30 : decode cX10_latesByBook 30 = .ok (.getfield 84, 3) := dc_180 (byA eNcX10_latesByBook (p := 30) (v := 180) (by decide +kernel)) (byA eNcX10_latesByBook (p := 31) (v := 0) (by decide +kernel)) (byA eNcX10_latesByBook (p := 32) (v := 84) (by decide +kernel)) rfl
theorem dX10_latesByBook_33 : decode cX10_latesByBook 33 = .ok (.getfield 252, 3) := dc_180 (byA eNcX10_latesByBook (p := 33) (v := 180) (by decide +kernel)) (byA eNcX10_latesByBook (p := 34) (v := 0) (by decide +kernel)) (byA eNcX10_latesByBook (p := 35) (v := 252) (by decide +kernel)) rfl
theorem dX10_latesByBook_36 : decode cX10_latesByBook 36 = .ok (.goto 4, 3) := dc_167 (byA eNcX10_latesByBook (p := 36) (v := 167) (by decide +kernel)) (byA eNcX10_latesByBook (p := 37) (v := 0) (by decide +kernel)) (byA eNcX10_latesByBook (p := 38) (v := 4) (by decide +kernel)) (by decide +kernel)
theorem dX10_latesByBook_39 : decode cX10_latesByBook 39 = .ok (.iconst (-1), 1) := dc_2 (byA eNcX10_latesByBook (p := 39) (v := 2) (by decide +kernel))
theorem dX10_latesByBook_40 : decode cX10_latesByBook 40 = .ok (.ireturn, 1) := dc_172 (byA eNcX10_latesByBook (p := 40) (v := 172) (by decide +kernel))
def X10_latesByBook (l1 : Int) (μ : Mm) : Rs := bd (X5_takeBook l1 (μ 48 5) μ) fun v1 μ2 => bd (X5_go 48 μ2) fun v4 μ5 => if v4 = 0 then (some ((-1), μ5)) else (some (μ5 58 4, μ5))
set_option maxHeartbeats 4000000 in
set_option maxRecDepth 100000 in
theorem kX10_latesByBook (d : Nat) (hd : 4 ≤ d) {l1 : Int} {μ : Mm} {r : Int} {μ' : Mm} (h : X10_latesByBook l1 μ = some (r, μ')) : CC d mX10_latesByBook [vR 0, vI l1] μ r μ' := by
  unfold X10_latesByBook at h
  refine V_enter (by decide) (Nat.le_of_ble_eq_true rfl) ?_
  show VV d mX10_latesByBook 0 [some (vR 0), some (vI l1)] [] μ r μ'
  refine V_aload_n (q := 1) dX10_latesByBook_0 rfl rfl rfl ?_
  refine V_getO (q := 4) (t := 58) fl_X10_84 rfl rfl rfl rfl dX10_latesByBook_1 rfl ?_
  refine V_iload_n (q := 5) dX10_latesByBook_4 rfl rfl rfl ?_
  refine V_aload_n (q := 6) dX10_latesByBook_5 rfl rfl rfl ?_
  refine V_getO (q := 9) (t := 48) fl_X10_74 rfl rfl rfl rfl dX10_latesByBook_6 rfl ?_
  refine V_getI (q := 12) fl_X10_264 rfl rfl rfl dX10_latesByBook_9 rfl ?_
  obtain ⟨v1, μ2, hc3, h⟩ := bd_i h
  refine V_cV0 (q := 15) (kX5_takeBook (d - 1) (by omega) hc3) (by omega) mv_X10_298 rfl rfl rfl rfl rfl rfl dX10_latesByBook_12 rfl ?_
  refine V_aload_n (q := 16) dX10_latesByBook_15 rfl rfl rfl ?_
  refine V_getO (q := 19) (t := 58) fl_X10_84 rfl rfl rfl rfl dX10_latesByBook_16 rfl ?_
  refine V_aload_n (q := 20) dX10_latesByBook_19 rfl rfl rfl ?_
  refine V_getO (q := 23) (t := 48) fl_X10_74 rfl rfl rfl rfl dX10_latesByBook_20 rfl ?_
  obtain ⟨v4, μ5, hc6, h⟩ := bd_i h
  refine V_cV1 (q := 26) (v := vI v4) (kX5_go (d - 1) (by omega) rfl hc6) (by omega) mv_X10_294 rfl rfl rfl rfl rfl rfl dX10_latesByBook_23 rfl ?_
  refine V_ifeq (q := 39) (q2 := 29) dX10_latesByBook_26 (by decide) rfl (fun hc7 => ?_) (fun hc7 => ?_)
  · have h := ifT hc7 h
    refine V_iconst (q := 40) dX10_latesByBook_39 rfl rfl ?_
    exact V_iret rfl h dX10_latesByBook_40
  · have h := ifF hc7 h
    refine V_aload_n (q := 30) dX10_latesByBook_29 rfl rfl rfl ?_
    refine V_getO (q := 33) (t := 58) fl_X10_84 rfl rfl rfl rfl dX10_latesByBook_30 rfl ?_
    refine V_getI (q := 36) fl_X10_252 rfl rfl rfl dX10_latesByBook_33 rfl ?_
    refine V_goto (q := 40) dX10_latesByBook_36 (by decide) ?_
    exact V_iret rfl h dX10_latesByBook_40
abbrev mX10_told : Mth := (yX10_told, cX10_told, 4, some .int)
set_option maxRecDepth 100000 in
theorem mi_X10_told : Cond.instanceMethod yX10_told ∈ tG ∧ Cond.selects yX10_told.cls yX10_told yX10_told ∈ tG ∧ Cond.initialized yX10_told.cls ∈ tG ∧ Cond.code yX10_told cX10_told 4 (some .int) ∈ tG ∧ (yX10_told.cls ≠ "java/lang/invoke/MethodHandle" ∧ yX10_told.cls ≠ "java/lang/invoke/VarHandle" ∧ (parseMethodDescriptor yX10_told.desc).map (fun d => d.parameters.length) = some 3) ∧ 4 ≤ 60 := ⟨(tG_of (tb4 (List.mem_of_getElem? (i := 64) rfl)) (by decide +kernel)), (tG_of (List.mem_of_getElem? (i := 26) (by decide +kernel)) (by decide +kernel)), (tG_of (tb1 (List.mem_of_getElem? (i := 1) rfl)) (by decide +kernel)), (tG_of (tb4 (List.mem_of_getElem? (i := 65) rfl)) (by decide +kernel)), ⟨by decide, by decide, by decide +kernel⟩, by decide⟩
set_option maxRecDepth 100000 in
theorem mv_X10_302 : mV RX10 302 mX10_told 3 := ⟨(tG_of (tb4 (List.mem_of_getElem? (i := 62) rfl)) (by decide +kernel)), mi_X10_told⟩
theorem dX10_told_0 : decode cX10_told 0 = .ok (.aload_n 0, 1) := dc_42 (byA eNcX10_told (p := 0) (v := 42) (by decide +kernel))
theorem dX10_told_1 : decode cX10_told 1 = .ok (.getfield 93, 3) := dc_180 (byA eNcX10_told (p := 1) (v := 180) (by decide +kernel)) (byA eNcX10_told (p := 2) (v := 0) (by decide +kernel)) (byA eNcX10_told (p := 3) (v := 93) (by decide +kernel)) rfl
theorem dX10_told_4 : decode cX10_told 4 = .ok (.aload_n 0, 1) := dc_42 (byA eNcX10_told (p := 4) (v := 42) (by decide +kernel))
theorem dX10_told_5 : decode cX10_told 5 = .ok (.getfield 74, 3) := dc_180 (byA eNcX10_told (p := 5) (v := 180) (by decide +kernel)) (byA eNcX10_told (p := 6) (v := 0) (by decide +kernel)) (byA eNcX10_told (p := 7) (v := 74) (by decide +kernel)) rfl
theorem dX10_told_8 : decode cX10_told 8 = .ok (.iload_n 1, 1) := dc_27 (byA eNcX10_told (p := 8) (v := 27) (by decide +kernel))
theorem dX10_told_9 : decode cX10_told 9 = .ok (.iload_n 2, 1) := dc_28 (byA eNcX10_told (p := 9) (v := 28) (by decide +kernel))
theorem dX10_told_10 : decode cX10_told 10 = .ok (.invokevirtual 306, 3) := dc_182 (byA eNcX10_told (p := 10) (v := 182) (by decide +kernel)) (byA eNcX10_told (p := 11) (v := 1) (by decide +kernel)) (byA eNcX10_told (p := 12) (v := 50) (by decide +kernel)) rfl
theorem dX10_told_13 : decode cX10_told 13 = .ok (.ifCond .ne 5, 3) := dc_154 (byA eNcX10_told (p := 13) (v := 154) (by decide +kernel)) (byA eNcX10_told (p := 14) (v := 0) (by decide +kernel)) (byA eNcX10_told (p := 15) (v := 5) (by decide +kernel)) (by decide +kernel)
theorem dX10_told_16 : decode cX10_told 16 = .ok (.iconst (-1), 1) := dc_2 (byA eNcX10_told (p := 16) (v := 2) (by decide +kernel))
theorem dX10_told_17 : decode cX10_told 17 = .ok (.ireturn, 1) := dc_172 (byA eNcX10_told (p := 17) (v := 172) (by decide +kernel))
theorem dX10_told_18 : decode cX10_told 18 = .ok (.iload_n 3, 1) := dc_29 (byA eNcX10_told (p := 18) (v := 29) (by decide +kernel))
theorem dX10_told_19 : decode cX10_told 19 = .ok (.ifCond .ne 13, 3) := dc_154 (byA eNcX10_told (p := 19) (v := 154) (by decide +kernel)) (byA eNcX10_told (p := 20) (v := 0) (by decide +kernel)) (byA eNcX10_told (p := 21) (v := 13) (by decide +kernel)) (by decide +kernel)
theorem dX10_told_22 : decode cX10_told 22 = .ok (.aload_n 0, 1) := dc_42 (byA eNcX10_told (p := 22) (v := 42) (by decide +kernel))
theorem dX10_told_23 : decode cX10_told 23 = .ok (.getfield 93, 3) := dc_180 (byA eNcX10_told (p := 23) (v := 180) (by decide +kernel)) (byA eNcX10_told (p := 24) (v := 0) (by decide +kernel)) (byA eNcX10_told (p := 25) (v := 93) (by decide +kernel)) rfl
theorem dX10_told_26 : decode cX10_told 26 = .ok (.getfield 310, 3) := dc_180 (byA eNcX10_told (p := 26) (v := 180) (by decide +kernel)) (byA eNcX10_told (p := 27) (v := 1) (by decide +kernel)) (byA eNcX10_told (p := 28) (v := 54) (by decide +kernel)) rfl
theorem dX10_told_29 : decode cX10_told 29 = .ok (.goto 10, 3) := dc_167 (byA eNcX10_told (p := 29) (v := 167) (by decide +kernel)) (byA eNcX10_told (p := 30) (v := 0) (by decide +kernel)) (byA eNcX10_told (p := 31) (v := 10) (by decide +kernel)) (by decide +kernel)
theorem dX10_told_32 : decode cX10_told 32 = .ok (.aload_n 0, 1) := dc_42 (byA eNcX10_told (p := 32) (v := 42) (by decide +kernel))
theorem dX10_told_33 : decode cX10_told 33 = .ok (.getfield 93, 3) := dc_180 (byA eNcX10_told (p := 33) (v := 180) (by decide +kernel)) (byA eNcX10_told (p := 34) (v := 0) (by decide +kernel)) (byA eNcX10_told (p := 35) (v := 93) (by decide +kernel)) rfl
theorem dX10_told_36 : decode cX10_told 36 = .ok (.getfield 313, 3) := dc_180 (byA eNcX10_told (p := 36) (v := 180) (by decide +kernel)) (byA eNcX10_told (p := 37) (v := 1) (by decide +kernel)) (byA eNcX10_told (p := 38) (v := 57) (by decide +kernel)) rfl
theorem dX10_told_39 : decode cX10_told 39 = .ok (.ireturn, 1) := dc_172 (byA eNcX10_told (p := 39) (v := 172) (by decide +kernel))
def X10_told (l1 : Int) (l2 : Int) (l3 : Int) (μ : Mm) : Rs := bd (X6_seek 48 l1 l2 μ) fun v1 μ2 => if v1 = 0 then (some ((-1), μ2)) else (if l3 = 0 then (some (μ2 62 8, μ2)) else (some (μ2 62 7, μ2)))
set_option maxHeartbeats 4000000 in
set_option maxRecDepth 100000 in
theorem kX10_told (d : Nat) (hd : 135 ≤ d) {l1 : Int} {l2 : Int} {l3 : Int} {μ : Mm} {r : Int} {μ' : Mm} (h : X10_told l1 l2 l3 μ = some (r, μ')) : CC d mX10_told [vR 0, vI l1, vI l2, vI l3] μ r μ' := by
  unfold X10_told at h
  refine V_enter (by decide) (Nat.le_of_ble_eq_true rfl) ?_
  show VV d mX10_told 0 [some (vR 0), some (vI l1), some (vI l2), some (vI l3)] [] μ r μ'
  refine V_aload_n (q := 1) dX10_told_0 rfl rfl rfl ?_
  refine V_getO (q := 4) (t := 62) fl_X10_93 rfl rfl rfl rfl dX10_told_1 rfl ?_
  refine V_aload_n (q := 5) dX10_told_4 rfl rfl rfl ?_
  refine V_getO (q := 8) (t := 48) fl_X10_74 rfl rfl rfl rfl dX10_told_5 rfl ?_
  refine V_iload_n (q := 9) dX10_told_8 rfl rfl rfl ?_
  refine V_iload_n (q := 10) dX10_told_9 rfl rfl rfl ?_
  obtain ⟨v1, μ2, hc3, h⟩ := bd_i h
  refine V_cV1 (q := 13) (v := vI v1) (kX6_seek (d - 1) (by omega) rfl hc3) (by omega) mv_X10_306 rfl rfl rfl rfl rfl rfl dX10_told_10 rfl ?_
  refine V_ifne (q := 18) (q2 := 16) dX10_told_13 (by decide) rfl (fun hc4 => ?_) (fun hc4 => ?_)
  · have h := ifF hc4 h
    refine V_iload_n (q := 19) dX10_told_18 rfl rfl rfl ?_
    refine V_ifne (q := 32) (q2 := 22) dX10_told_19 (by decide) rfl (fun hc5 => ?_) (fun hc5 => ?_)
    · have h := ifF hc5 h
      refine V_aload_n (q := 33) dX10_told_32 rfl rfl rfl ?_
      refine V_getO (q := 36) (t := 62) fl_X10_93 rfl rfl rfl rfl dX10_told_33 rfl ?_
      refine V_getI (q := 39) fl_X10_313 rfl rfl rfl dX10_told_36 rfl ?_
      exact V_iret rfl h dX10_told_39
    · have h := ifT hc5 h
      refine V_aload_n (q := 23) dX10_told_22 rfl rfl rfl ?_
      refine V_getO (q := 26) (t := 62) fl_X10_93 rfl rfl rfl rfl dX10_told_23 rfl ?_
      refine V_getI (q := 29) fl_X10_310 rfl rfl rfl dX10_told_26 rfl ?_
      refine V_goto (q := 39) dX10_told_29 (by decide) ?_
      exact V_iret rfl h dX10_told_39
  · have h := ifT hc4 h
    refine V_iconst (q := 17) dX10_told_16 rfl rfl ?_
    exact V_iret rfl h dX10_told_17
abbrev mX10_best : Mth := (yX10_best, cX10_best, 4, some .int)
set_option maxRecDepth 100000 in
theorem mi_X10_best : Cond.instanceMethod yX10_best ∈ tG ∧ Cond.selects yX10_best.cls yX10_best yX10_best ∈ tG ∧ Cond.initialized yX10_best.cls ∈ tG ∧ Cond.code yX10_best cX10_best 4 (some .int) ∈ tG ∧ (yX10_best.cls ≠ "java/lang/invoke/MethodHandle" ∧ yX10_best.cls ≠ "java/lang/invoke/VarHandle" ∧ (parseMethodDescriptor yX10_best.desc).map (fun d => d.parameters.length) = some 3) ∧ 4 ≤ 60 := ⟨(tG_of (tb4 (List.mem_of_getElem? (i := 59) rfl)) (by decide +kernel)), (tG_of (tb4 (List.mem_of_getElem? (i := 60) rfl)) (by decide +kernel)), (tG_of (tb1 (List.mem_of_getElem? (i := 1) rfl)) (by decide +kernel)), (tG_of (tb4 (List.mem_of_getElem? (i := 61) rfl)) (by decide +kernel)), ⟨by decide, by decide, by decide +kernel⟩, by decide⟩
theorem dX10_best_0 : decode cX10_best 0 = .ok (.iload_n 2, 1) := dc_28 (byA eNcX10_best (p := 0) (v := 28) (by decide +kernel))
theorem dX10_best_1 : decode cX10_best 1 = .ok (.ifCond .lt 23, 3) := dc_155 (byA eNcX10_best (p := 1) (v := 155) (by decide +kernel)) (byA eNcX10_best (p := 2) (v := 0) (by decide +kernel)) (byA eNcX10_best (p := 3) (v := 23) (by decide +kernel)) (by decide +kernel)
theorem dX10_best_4 : decode cX10_best 4 = .ok (.iload_n 2, 1) := dc_28 (byA eNcX10_best (p := 4) (v := 28) (by decide +kernel))
theorem dX10_best_5 : decode cX10_best 5 = .ok (.iconst 2, 1) := dc_5 (byA eNcX10_best (p := 5) (v := 5) (by decide +kernel))
theorem dX10_best_6 : decode cX10_best 6 = .ok (.if_icmp .gt 18, 3) := dc_163 (byA eNcX10_best (p := 6) (v := 163) (by decide +kernel)) (byA eNcX10_best (p := 7) (v := 0) (by decide +kernel)) (byA eNcX10_best (p := 8) (v := 18) (by decide +kernel)) (by decide +kernel)
theorem dX10_best_9 : decode cX10_best 9 = .ok (.iload_n 3, 1) := dc_29 (byA eNcX10_best (p := 9) (v := 29) (by decide +kernel))
theorem dX10_best_10 : decode cX10_best 10 = .ok (.invokestatic 275, 3) := dc_184 (byA eNcX10_best (p := 10) (v := 184) (by decide +kernel)) (byA eNcX10_best (p := 11) (v := 1) (by decide +kernel)) (byA eNcX10_best (p := 12) (v := 19) (by decide +kernel)) rfl
theorem dX10_best_13 : decode cX10_best 13 = .ok (.ifCond .eq 11, 3) := dc_153 (byA eNcX10_best (p := 13) (v := 153) (by decide +kernel)) (byA eNcX10_best (p := 14) (v := 0) (by decide +kernel)) (byA eNcX10_best (p := 15) (v := 11) (by decide +kernel)) (by decide +kernel)
theorem dX10_best_16 : decode cX10_best 16 = .ok (.aload_n 0, 1) := dc_42 (byA eNcX10_best (p := 16) (v := 42) (by decide +kernel))
theorem dX10_best_17 : decode cX10_best 17 = .ok (.iload_n 1, 1) := dc_27 (byA eNcX10_best (p := 17) (v := 27) (by decide +kernel))
theorem dX10_best_18 : decode cX10_best 18 = .ok (.invokevirtual 288, 3) := dc_182 (byA eNcX10_best (p := 18) (v := 182) (by decide +kernel)) (byA eNcX10_best (p := 19) (v := 1) (by decide +kernel)) (byA eNcX10_best (p := 20) (v := 32) (by decide +kernel)) rfl
theorem dX10_best_21 : decode cX10_best 21 = .ok (.ifCond .ne 5, 3) := dc_154 (byA eNcX10_best (p := 21) (v := 154) (by decide +kernel)) (byA eNcX10_best (p := 22) (v := 0) (by decide +kernel)) (byA eNcX10_best (p := 23) (v := 5) (by decide +kernel)) (by decide +kernel)
theorem dX10_best_24 : decode cX10_best 24 = .ok (.iconst (-1), 1) := dc_2 (byA eNcX10_best (p := 24) (v := 2) (by decide +kernel))
theorem dX10_best_25 : decode cX10_best 25 = .ok (.ireturn, 1) := dc_172 (byA eNcX10_best (p := 25) (v := 172) (by decide +kernel))
theorem dX10_best_26 : decode cX10_best 26 = .ok (.aload_n 0, 1) := dc_42 (byA eNcX10_best (p := 26) (v := 42) (by decide +kernel))
theorem dX10_best_27 : decode cX10_best 27 = .ok (.iload_n 2, 1) := dc_28 (byA eNcX10_best (p := 27) (v := 28) (by decide +kernel))
theorem dX10_best_28 : decode cX10_best 28 = .ok (.iconst 0, 1) := dc_3 (byA eNcX10_best (p := 28) (v := 3) (by decide +kernel))
theorem dX10_best_29 : decode cX10_best 29 = .ok (.iload_n 3, 1) := dc_29 (byA eNcX10_best (p := 29) (v := 29) (by decide +kernel))
theorem dX10_best_30 : decode cX10_best 30 = .ok (.invokevirtual 302, 3) := dc_182 (byA eNcX10_best (p := 30) (v := 182) (by decide +kernel)) (byA eNcX10_best (p := 31) (v := 1) (by decide +kernel)) (byA eNcX10_best (p := 32) (v := 46) (by decide +kernel)) rfl
theorem dX10_best_33 : decode cX10_best 33 = .ok (.ireturn, 1) := dc_172 (byA eNcX10_best (p := 33) (v := 172) (by decide +kernel))
def X10_best (l1 : Int) (l2 : Int) (l3 : Int) (μ : Mm) : Rs := if l2 < 0 then (some ((-1), μ)) else (if 2 < l2 then (some ((-1), μ)) else (bd (X10_isHalf l3 μ) fun v3 μ4 => if v3 = 0 then (some ((-1), μ4)) else (bd (X10_lay l1 μ4) fun v7 μ8 => if v7 = 0 then (some ((-1), μ8)) else (bd (X10_told l2 0 l3 μ8) fun v11 μ12 => some (v11, μ12)))))
set_option maxHeartbeats 4000000 in
set_option maxRecDepth 100000 in
theorem kX10_best (d : Nat) (hd : 272 ≤ d) {l1 : Int} {l2 : Int} {l3 : Int} {μ : Mm} {r : Int} {μ' : Mm} (h : X10_best l1 l2 l3 μ = some (r, μ')) : CC d mX10_best [vR 0, vI l1, vI l2, vI l3] μ r μ' := by
  unfold X10_best at h
  refine V_enter (by decide) (Nat.le_of_ble_eq_true rfl) ?_
  show VV d mX10_best 0 [some (vR 0), some (vI l1), some (vI l2), some (vI l3)] [] μ r μ'
  refine V_iload_n (q := 1) dX10_best_0 rfl rfl rfl ?_
  refine V_iflt (q := 24) (q2 := 4) dX10_best_1 (by decide) rfl (fun hc1 => ?_) (fun hc1 => ?_)
  · have h := ifT hc1 h
    refine V_iconst (q := 25) dX10_best_24 rfl rfl ?_
    exact V_iret rfl h dX10_best_25
  · have h := ifF hc1 h
    refine V_iload_n (q := 5) dX10_best_4 rfl rfl rfl ?_
    refine V_iconst (q := 6) dX10_best_5 rfl rfl ?_
    refine V_icmpgt (q := 24) (q2 := 9) dX10_best_6 (by decide) rfl (fun hc2 => ?_) (fun hc2 => ?_)
    · have h := ifT hc2 h
      refine V_iconst (q := 25) dX10_best_24 rfl rfl ?_
      exact V_iret rfl h dX10_best_25
    · have h := ifF hc2 h
      refine V_iload_n (q := 10) dX10_best_9 rfl rfl rfl ?_
      obtain ⟨v3, μ4, hc5, h⟩ := bd_i h
      refine V_cS1 (q := 13) (v := vI v3) (kX10_isHalf (d - 1) (by omega) hc5) (by omega) mv_X10_275 rfl rfl rfl rfl dX10_best_10 rfl ?_
      refine V_ifeq (q := 24) (q2 := 16) dX10_best_13 (by decide) rfl (fun hc6 => ?_) (fun hc6 => ?_)
      · have h := ifT hc6 h
        refine V_iconst (q := 25) dX10_best_24 rfl rfl ?_
        exact V_iret rfl h dX10_best_25
      · have h := ifF hc6 h
        refine V_aload_n (q := 17) dX10_best_16 rfl rfl rfl ?_
        refine V_iload_n (q := 18) dX10_best_17 rfl rfl rfl ?_
        obtain ⟨v7, μ8, hc9, h⟩ := bd_i h
        refine V_cV1 (q := 21) (v := vI v7) (kX10_lay (d - 1) (by omega) hc9) (by omega) mv_X10_288 rfl rfl rfl rfl rfl rfl dX10_best_18 rfl ?_
        refine V_ifne (q := 26) (q2 := 24) dX10_best_21 (by decide) rfl (fun hc10 => ?_) (fun hc10 => ?_)
        · have h := ifF hc10 h
          refine V_aload_n (q := 27) dX10_best_26 rfl rfl rfl ?_
          refine V_iload_n (q := 28) dX10_best_27 rfl rfl rfl ?_
          refine V_iconst (q := 29) dX10_best_28 rfl rfl ?_
          refine V_iload_n (q := 30) dX10_best_29 rfl rfl rfl ?_
          obtain ⟨v11, μ12, hc13, h⟩ := bd_i h
          refine V_cV1 (q := 33) (v := vI v11) (kX10_told (d - 1) (by omega) hc13) (by omega) mv_X10_302 rfl rfl rfl rfl rfl rfl dX10_best_30 rfl ?_
          exact V_iret rfl h dX10_best_33
        · have h := ifT hc10 h
          refine V_iconst (q := 25) dX10_best_24 rfl rfl ?_
          exact V_iret rfl h dX10_best_25
abbrev mX10_mend : Mth := (yX10_mend, cX10_mend, 4, some .int)
set_option maxRecDepth 100000 in
theorem mi_X10_mend : Cond.instanceMethod yX10_mend ∈ tG ∧ Cond.selects yX10_mend.cls yX10_mend yX10_mend ∈ tG ∧ Cond.initialized yX10_mend.cls ∈ tG ∧ Cond.code yX10_mend cX10_mend 4 (some .int) ∈ tG ∧ (yX10_mend.cls ≠ "java/lang/invoke/MethodHandle" ∧ yX10_mend.cls ≠ "java/lang/invoke/VarHandle" ∧ (parseMethodDescriptor yX10_mend.desc).map (fun d => d.parameters.length) = some 3) ∧ 4 ≤ 60 := ⟨(tG_of (tb4 (List.mem_of_getElem? (i := 103) rfl)) (by decide +kernel)), (tG_of (tb4 (List.mem_of_getElem? (i := 104) rfl)) (by decide +kernel)), (tG_of (tb1 (List.mem_of_getElem? (i := 1) rfl)) (by decide +kernel)), (tG_of (tb4 (List.mem_of_getElem? (i := 105) rfl)) (by decide +kernel)), ⟨by decide, by decide, by decide +kernel⟩, by decide⟩
theorem dX10_mend_0 : decode cX10_mend 0 = .ok (.iload_n 3, 1) := dc_29 (byA eNcX10_mend (p := 0) (v := 29) (by decide +kernel))
theorem dX10_mend_1 : decode cX10_mend 1 = .ok (.invokestatic 275, 3) := dc_184 (byA eNcX10_mend (p := 1) (v := 184) (by decide +kernel)) (byA eNcX10_mend (p := 2) (v := 1) (by decide +kernel)) (byA eNcX10_mend (p := 3) (v := 19) (by decide +kernel)) rfl
theorem dX10_mend_4 : decode cX10_mend 4 = .ok (.ifCond .eq 26, 3) := dc_153 (byA eNcX10_mend (p := 4) (v := 153) (by decide +kernel)) (byA eNcX10_mend (p := 5) (v := 0) (by decide +kernel)) (byA eNcX10_mend (p := 6) (v := 26) (by decide +kernel)) (by decide +kernel)
theorem dX10_mend_7 : decode cX10_mend 7 = .ok (.aload_n 0, 1) := dc_42 (byA eNcX10_mend (p := 7) (v := 42) (by decide +kernel))
theorem dX10_mend_8 : decode cX10_mend 8 = .ok (.iload_n 1, 1) := dc_27 (byA eNcX10_mend (p := 8) (v := 27) (by decide +kernel))
theorem dX10_mend_9 : decode cX10_mend 9 = .ok (.invokevirtual 288, 3) := dc_182 (byA eNcX10_mend (p := 9) (v := 182) (by decide +kernel)) (byA eNcX10_mend (p := 10) (v := 1) (by decide +kernel)) (byA eNcX10_mend (p := 11) (v := 32) (by decide +kernel)) rfl
theorem dX10_mend_12 : decode cX10_mend 12 = .ok (.ifCond .eq 18, 3) := dc_153 (byA eNcX10_mend (p := 12) (v := 153) (by decide +kernel)) (byA eNcX10_mend (p := 13) (v := 0) (by decide +kernel)) (byA eNcX10_mend (p := 14) (v := 18) (by decide +kernel)) (by decide +kernel)
theorem dX10_mend_15 : decode cX10_mend 15 = .ok (.iload_n 2, 1) := dc_28 (byA eNcX10_mend (p := 15) (v := 28) (by decide +kernel))
theorem dX10_mend_16 : decode cX10_mend 16 = .ok (.ifCond .lt 14, 3) := dc_155 (byA eNcX10_mend (p := 16) (v := 155) (by decide +kernel)) (byA eNcX10_mend (p := 17) (v := 0) (by decide +kernel)) (byA eNcX10_mend (p := 18) (v := 14) (by decide +kernel)) (by decide +kernel)
theorem dX10_mend_19 : decode cX10_mend 19 = .ok (.iload_n 2, 1) := dc_28 (byA eNcX10_mend (p := 19) (v := 28) (by decide +kernel))
theorem dX10_mend_20 : decode cX10_mend 20 = .ok (.aload_n 0, 1) := dc_42 (byA eNcX10_mend (p := 20) (v := 42) (by decide +kernel))
theorem dX10_mend_21 : decode cX10_mend 21 = .ok (.getfield 74, 3) := dc_180 (byA eNcX10_mend (p := 21) (v := 180) (by decide +kernel)) (byA eNcX10_mend (p := 22) (v := 0) (by decide +kernel)) (byA eNcX10_mend (p := 23) (v := 74) (by decide +kernel)) rfl
theorem dX10_mend_24 : decode cX10_mend 24 = .ok (.getfield 264, 3) := dc_180 (byA eNcX10_mend (p := 24) (v := 180) (by decide +kernel)) (byA eNcX10_mend (p := 25) (v := 1) (by decide +kernel)) (byA eNcX10_mend (p := 26) (v := 8) (by decide +kernel)) rfl
theorem dX10_mend_27 : decode cX10_mend 27 = .ok (.if_icmp .le 5, 3) := dc_164 (byA eNcX10_mend (p := 27) (v := 164) (by decide +kernel)) (byA eNcX10_mend (p := 28) (v := 0) (by decide +kernel)) (byA eNcX10_mend (p := 29) (v := 5) (by decide +kernel)) (by decide +kernel)
theorem dX10_mend_30 : decode cX10_mend 30 = .ok (.iconst (-1), 1) := dc_2 (byA eNcX10_mend (p := 30) (v := 2) (by decide +kernel))
theorem dX10_mend_31 : decode cX10_mend 31 = .ok (.ireturn, 1) := dc_172 (byA eNcX10_mend (p := 31) (v := 172) (by decide +kernel))
theorem dX10_mend_32 : decode cX10_mend 32 = .ok (.aload_n 0, 1) := dc_42 (byA eNcX10_mend (p := 32) (v := 42) (by decide +kernel))
theorem dX10_mend_33 : decode cX10_mend 33 = .ok (.iconst 0, 1) := dc_3 (byA eNcX10_mend (p := 33) (v := 3) (by decide +kernel))
theorem dX10_mend_34 : decode cX10_mend 34 = .ok (.iload_n 2, 1) := dc_28 (byA eNcX10_mend (p := 34) (v := 28) (by decide +kernel))
theorem dX10_mend_35 : decode cX10_mend 35 = .ok (.iload_n 3, 1) := dc_29 (byA eNcX10_mend (p := 35) (v := 29) (by decide +kernel))
theorem dX10_mend_36 : decode cX10_mend 36 = .ok (.invokevirtual 302, 3) := dc_182 (byA eNcX10_mend (p := 36) (v := 182) (by decide +kernel)) (byA eNcX10_mend (p := 37) (v := 1) (by decide +kernel)) (byA eNcX10_mend (p := 38) (v := 46) (by decide +kernel)) rfl
theorem dX10_mend_39 : decode cX10_mend 39 = .ok (.ireturn, 1) := dc_172 (byA eNcX10_mend (p := 39) (v := 172) (by decide +kernel))
def X10_mend (l1 : Int) (l2 : Int) (l3 : Int) (μ : Mm) : Rs := bd (X10_isHalf l3 μ) fun v1 μ2 => if v1 = 0 then (some ((-1), μ2)) else (bd (X10_lay l1 μ2) fun v5 μ6 => if v5 = 0 then (some ((-1), μ6)) else (if l2 < 0 then (some ((-1), μ6)) else (if l2 ≤ (μ6 48 5) then (bd (X10_told 0 l2 l3 μ6) fun v11 μ12 => some (v11, μ12)) else (some ((-1), μ6)))))
set_option maxHeartbeats 4000000 in
set_option maxRecDepth 100000 in
theorem kX10_mend (d : Nat) (hd : 272 ≤ d) {l1 : Int} {l2 : Int} {l3 : Int} {μ : Mm} {r : Int} {μ' : Mm} (h : X10_mend l1 l2 l3 μ = some (r, μ')) : CC d mX10_mend [vR 0, vI l1, vI l2, vI l3] μ r μ' := by
  unfold X10_mend at h
  refine V_enter (by decide) (Nat.le_of_ble_eq_true rfl) ?_
  show VV d mX10_mend 0 [some (vR 0), some (vI l1), some (vI l2), some (vI l3)] [] μ r μ'
  refine V_iload_n (q := 1) dX10_mend_0 rfl rfl rfl ?_
  obtain ⟨v1, μ2, hc3, h⟩ := bd_i h
  refine V_cS1 (q := 4) (v := vI v1) (kX10_isHalf (d - 1) (by omega) hc3) (by omega) mv_X10_275 rfl rfl rfl rfl dX10_mend_1 rfl ?_
  refine V_ifeq (q := 30) (q2 := 7) dX10_mend_4 (by decide) rfl (fun hc4 => ?_) (fun hc4 => ?_)
  · have h := ifT hc4 h
    refine V_iconst (q := 31) dX10_mend_30 rfl rfl ?_
    exact V_iret rfl h dX10_mend_31
  · have h := ifF hc4 h
    refine V_aload_n (q := 8) dX10_mend_7 rfl rfl rfl ?_
    refine V_iload_n (q := 9) dX10_mend_8 rfl rfl rfl ?_
    obtain ⟨v5, μ6, hc7, h⟩ := bd_i h
    refine V_cV1 (q := 12) (v := vI v5) (kX10_lay (d - 1) (by omega) hc7) (by omega) mv_X10_288 rfl rfl rfl rfl rfl rfl dX10_mend_9 rfl ?_
    refine V_ifeq (q := 30) (q2 := 15) dX10_mend_12 (by decide) rfl (fun hc8 => ?_) (fun hc8 => ?_)
    · have h := ifT hc8 h
      refine V_iconst (q := 31) dX10_mend_30 rfl rfl ?_
      exact V_iret rfl h dX10_mend_31
    · have h := ifF hc8 h
      refine V_iload_n (q := 16) dX10_mend_15 rfl rfl rfl ?_
      refine V_iflt (q := 30) (q2 := 19) dX10_mend_16 (by decide) rfl (fun hc9 => ?_) (fun hc9 => ?_)
      · have h := ifT hc9 h
        refine V_iconst (q := 31) dX10_mend_30 rfl rfl ?_
        exact V_iret rfl h dX10_mend_31
      · have h := ifF hc9 h
        refine V_iload_n (q := 20) dX10_mend_19 rfl rfl rfl ?_
        refine V_aload_n (q := 21) dX10_mend_20 rfl rfl rfl ?_
        refine V_getO (q := 24) (t := 48) fl_X10_74 rfl rfl rfl rfl dX10_mend_21 rfl ?_
        refine V_getI (q := 27) fl_X10_264 rfl rfl rfl dX10_mend_24 rfl ?_
        refine V_icmple (q := 32) (q2 := 30) dX10_mend_27 (by decide) rfl (fun hc10 => ?_) (fun hc10 => ?_)
        · have h := ifT hc10 h
          refine V_aload_n (q := 33) dX10_mend_32 rfl rfl rfl ?_
          refine V_iconst (q := 34) dX10_mend_33 rfl rfl ?_
          refine V_iload_n (q := 35) dX10_mend_34 rfl rfl rfl ?_
          refine V_iload_n (q := 36) dX10_mend_35 rfl rfl rfl ?_
          obtain ⟨v11, μ12, hc13, h⟩ := bd_i h
          refine V_cV1 (q := 39) (v := vI v11) (kX10_told (d - 1) (by omega) hc13) (by omega) mv_X10_302 rfl rfl rfl rfl rfl rfl dX10_mend_36 rfl ?_
          exact V_iret rfl h dX10_mend_39
        · have h := ifF hc10 h
          refine V_iconst (q := 31) dX10_mend_30 rfl rfl ?_
          exact V_iret rfl h dX10_mend_31
abbrev mX10_leastLates : Mth := (yX10_leastLates, cX10_leastLates, 1, some .int)
set_option maxRecDepth 100000 in
theorem mi_X10_leastLates : Cond.instanceMethod yX10_leastLates ∈ tG ∧ Cond.selects yX10_leastLates.cls yX10_leastLates yX10_leastLates ∈ tG ∧ Cond.initialized yX10_leastLates.cls ∈ tG ∧ Cond.code yX10_leastLates cX10_leastLates 1 (some .int) ∈ tG ∧ (yX10_leastLates.cls ≠ "java/lang/invoke/MethodHandle" ∧ yX10_leastLates.cls ≠ "java/lang/invoke/VarHandle" ∧ (parseMethodDescriptor yX10_leastLates.desc).map (fun d => d.parameters.length) = some 0) ∧ 1 ≤ 60 := ⟨(tG_of (tb4 (List.mem_of_getElem? (i := 155) rfl)) (by decide +kernel)), (tG_of (List.mem_of_getElem? (i := 36) (by decide +kernel)) (by decide +kernel)), (tG_of (tb1 (List.mem_of_getElem? (i := 1) rfl)) (by decide +kernel)), (tG_of (tb4 (List.mem_of_getElem? (i := 156) rfl)) (by decide +kernel)), ⟨by decide, by decide, by decide +kernel⟩, by decide⟩
set_option maxRecDepth 100000 in
theorem mv_X10_344 : mV RX10 344 mX10_leastLates 0 := ⟨(tG_of (tb4 (List.mem_of_getElem? (i := 153) rfl)) (by decide +kernel)), mi_X10_leastLates⟩
theorem dX10_leastLates_0 : decode cX10_leastLates 0 = .ok (.aload_n 0, 1) := dc_42 (byA eNcX10_leastLates (p := 0) (v := 42) (by decide +kernel))
theorem dX10_leastLates_1 : decode cX10_leastLates 1 = .ok (.iconst 0, 1) := dc_3 (byA eNcX10_leastLates (p := 1) (v := 3) (by decide +kernel))
theorem dX10_leastLates_2 : decode cX10_leastLates 2 = .ok (.iconst 0, 1) := dc_3 (byA eNcX10_leastLates (p := 2) (v := 3) (by decide +kernel))
theorem dX10_leastLates_3 : decode cX10_leastLates 3 = .ok (.iconst 1, 1) := dc_4 (byA eNcX10_leastLates (p := 3) (v := 4) (by decide +kernel))
theorem dX10_leastLates_4 : decode cX10_leastLates 4 = .ok (.invokevirtual 302, 3) := dc_182 (byA eNcX10_leastLates (p := 4) (v := 182) (by decide +kernel)) (byA eNcX10_leastLates (p := 5) (v := 1) (by decide +kernel)) (byA eNcX10_leastLates (p := 6) (v := 46) (by decide +kernel)) rfl
theorem dX10_leastLates_7 : decode cX10_leastLates 7 = .ok (.ireturn, 1) := dc_172 (byA eNcX10_leastLates (p := 7) (v := 172) (by decide +kernel))
def X10_leastLates (μ : Mm) : Rs := bd (X10_told 0 0 1 μ) fun v1 μ2 => some (v1, μ2)
set_option maxHeartbeats 4000000 in
set_option maxRecDepth 100000 in
theorem kX10_leastLates (d : Nat) (hd : 136 ≤ d) {μ : Mm} {r : Int} {μ' : Mm} (h : X10_leastLates μ = some (r, μ')) : CC d mX10_leastLates [vR 0] μ r μ' := by
  unfold X10_leastLates at h
  refine V_enter (by decide) (Nat.le_of_ble_eq_true rfl) ?_
  show VV d mX10_leastLates 0 [some (vR 0)] [] μ r μ'
  refine V_aload_n (q := 1) dX10_leastLates_0 rfl rfl rfl ?_
  refine V_iconst (q := 2) dX10_leastLates_1 rfl rfl ?_
  refine V_iconst (q := 3) dX10_leastLates_2 rfl rfl ?_
  refine V_iconst (q := 4) dX10_leastLates_3 rfl rfl ?_
  obtain ⟨v1, μ2, hc3, h⟩ := bd_i h
  refine V_cV1 (q := 7) (v := vI v1) (kX10_told (d - 1) (by omega) hc3) (by omega) mv_X10_302 rfl rfl rfl rfl rfl rfl dX10_leastLates_4 rfl ?_
  exact V_iret rfl h dX10_leastLates_7
abbrev mX10_isMet : Mth := (yX10_isMet, cX10_isMet, 2, some .boolean)
set_option maxRecDepth 100000 in
theorem mi_X10_isMet : Cond.instanceMethod yX10_isMet ∈ tG ∧ Cond.selects yX10_isMet.cls yX10_isMet yX10_isMet ∈ tG ∧ Cond.initialized yX10_isMet.cls ∈ tG ∧ Cond.code yX10_isMet cX10_isMet 2 (some .boolean) ∈ tG ∧ (yX10_isMet.cls ≠ "java/lang/invoke/MethodHandle" ∧ yX10_isMet.cls ≠ "java/lang/invoke/VarHandle" ∧ (parseMethodDescriptor yX10_isMet.desc).map (fun d => d.parameters.length) = some 1) ∧ 2 ≤ 60 := ⟨(tG_of (tb4 (List.mem_of_getElem? (i := 113) rfl)) (by decide +kernel)), (tG_of (List.mem_of_getElem? (i := 32) (by decide +kernel)) (by decide +kernel)), (tG_of (tb1 (List.mem_of_getElem? (i := 1) rfl)) (by decide +kernel)), (tG_of (tb4 (List.mem_of_getElem? (i := 114) rfl)) (by decide +kernel)), ⟨by decide, by decide, by decide +kernel⟩, by decide⟩
set_option maxRecDepth 100000 in
theorem mv_X10_319 : mV RX10 319 mX10_isMet 1 := ⟨(tG_of (tb4 (List.mem_of_getElem? (i := 111) rfl)) (by decide +kernel)), mi_X10_isMet⟩
theorem dX10_isMet_0 : decode cX10_isMet 0 = .ok (.aload_n 0, 1) := dc_42 (byA eNcX10_isMet (p := 0) (v := 42) (by decide +kernel))
theorem dX10_isMet_1 : decode cX10_isMet 1 = .ok (.iload_n 1, 1) := dc_27 (byA eNcX10_isMet (p := 1) (v := 27) (by decide +kernel))
theorem dX10_isMet_2 : decode cX10_isMet 2 = .ok (.invokevirtual 322, 3) := dc_182 (byA eNcX10_isMet (p := 2) (v := 182) (by decide +kernel)) (byA eNcX10_isMet (p := 3) (v := 1) (by decide +kernel)) (byA eNcX10_isMet (p := 4) (v := 66) (by decide +kernel)) rfl
theorem dX10_isMet_5 : decode cX10_isMet 5 = .ok (.ifCond .ne 7, 3) := dc_154 (byA eNcX10_isMet (p := 5) (v := 154) (by decide +kernel)) (byA eNcX10_isMet (p := 6) (v := 0) (by decide +kernel)) (byA eNcX10_isMet (p := 7) (v := 7) (by decide +kernel)) (by decide +kernel)
theorem dX10_isMet_8 : decode cX10_isMet 8 = .ok (.iconst 1, 1) := dc_4 (byA eNcX10_isMet (p := 8) (v := 4) (by decide +kernel))
theorem dX10_isMet_9 : decode cX10_isMet 9 = .ok (.goto 4, 3) := dc_167 (byA eNcX10_isMet (p := 9) (v := 167) (by decide +kernel)) (byA eNcX10_isMet (p := 10) (v := 0) (by decide +kernel)) (byA eNcX10_isMet (p := 11) (v := 4) (by decide +kernel)) (by decide +kernel)
theorem dX10_isMet_12 : decode cX10_isMet 12 = .ok (.iconst 0, 1) := dc_3 (byA eNcX10_isMet (p := 12) (v := 3) (by decide +kernel))
theorem dX10_isMet_13 : decode cX10_isMet 13 = .ok (.ireturn, 1) := dc_172 (byA eNcX10_isMet (p := 13) (v := 172) (by decide +kernel))
def X10_isMet (l1 : Int) (μ : Mm) : Rs := bd (X10_latesByBook l1 μ) fun v1 μ2 => if v1 = 0 then (some (1, μ2)) else (some (0, μ2))
set_option maxHeartbeats 4000000 in
set_option maxRecDepth 100000 in
theorem kX10_isMet (d : Nat) (hd : 5 ≤ d) {l1 : Int} {μ : Mm} {r : Int} {μ' : Mm} (h : X10_isMet l1 μ = some (r, μ')) : CC d mX10_isMet [vR 0, vI l1] μ r μ' := by
  unfold X10_isMet at h
  refine V_enter (by decide) (Nat.le_of_ble_eq_true rfl) ?_
  show VV d mX10_isMet 0 [some (vR 0), some (vI l1)] [] μ r μ'
  refine V_aload_n (q := 1) dX10_isMet_0 rfl rfl rfl ?_
  refine V_iload_n (q := 2) dX10_isMet_1 rfl rfl rfl ?_
  obtain ⟨v1, μ2, hc3, h⟩ := bd_i h
  refine V_cV1 (q := 5) (v := vI v1) (kX10_latesByBook (d - 1) (by omega) hc3) (by omega) mv_X10_322 rfl rfl rfl rfl rfl rfl dX10_isMet_2 rfl ?_
  refine V_ifne (q := 12) (q2 := 8) dX10_isMet_5 (by decide) rfl (fun hc4 => ?_) (fun hc4 => ?_)
  · have h := ifF hc4 h
    refine V_iconst (q := 13) dX10_isMet_12 rfl rfl ?_
    exact V_zret rfl (Or.inl rfl) h dX10_isMet_13
  · have h := ifT hc4 h
    refine V_iconst (q := 9) dX10_isMet_8 rfl rfl ?_
    refine V_goto (q := 13) dX10_isMet_9 (by decide) ?_
    exact V_zret rfl (Or.inr rfl) h dX10_isMet_13
abbrev mX10_met : Mth := (yX10_met, cX10_met, 3, some .int)
set_option maxRecDepth 100000 in
theorem mi_X10_met : Cond.instanceMethod yX10_met ∈ tG ∧ Cond.selects yX10_met.cls yX10_met yX10_met ∈ tG ∧ Cond.initialized yX10_met.cls ∈ tG ∧ Cond.code yX10_met cX10_met 3 (some .int) ∈ tG ∧ (yX10_met.cls ≠ "java/lang/invoke/MethodHandle" ∧ yX10_met.cls ≠ "java/lang/invoke/VarHandle" ∧ (parseMethodDescriptor yX10_met.desc).map (fun d => d.parameters.length) = some 2) ∧ 3 ≤ 60 := ⟨(tG_of (tb4 (List.mem_of_getElem? (i := 107) rfl)) (by decide +kernel)), (tG_of (tb4 (List.mem_of_getElem? (i := 108) rfl)) (by decide +kernel)), (tG_of (tb1 (List.mem_of_getElem? (i := 1) rfl)) (by decide +kernel)), (tG_of (tb4 (List.mem_of_getElem? (i := 109) rfl)) (by decide +kernel)), ⟨by decide, by decide, by decide +kernel⟩, by decide⟩
theorem dX10_met_0 : decode cX10_met 0 = .ok (.aload_n 0, 1) := dc_42 (byA eNcX10_met (p := 0) (v := 42) (by decide +kernel))
theorem dX10_met_1 : decode cX10_met 1 = .ok (.iload_n 1, 1) := dc_27 (byA eNcX10_met (p := 1) (v := 27) (by decide +kernel))
theorem dX10_met_2 : decode cX10_met 2 = .ok (.invokevirtual 288, 3) := dc_182 (byA eNcX10_met (p := 2) (v := 182) (by decide +kernel)) (byA eNcX10_met (p := 3) (v := 1) (by decide +kernel)) (byA eNcX10_met (p := 4) (v := 32) (by decide +kernel)) rfl
theorem dX10_met_5 : decode cX10_met 5 = .ok (.ifCond .eq 18, 3) := dc_153 (byA eNcX10_met (p := 5) (v := 153) (by decide +kernel)) (byA eNcX10_met (p := 6) (v := 0) (by decide +kernel)) (byA eNcX10_met (p := 7) (v := 18) (by decide +kernel)) (by decide +kernel)
theorem dX10_met_8 : decode cX10_met 8 = .ok (.iload_n 2, 1) := dc_28 (byA eNcX10_met (p := 8) (v := 28) (by decide +kernel))
theorem dX10_met_9 : decode cX10_met 9 = .ok (.ifCond .le 14, 3) := dc_158 (byA eNcX10_met (p := 9) (v := 158) (by decide +kernel)) (byA eNcX10_met (p := 10) (v := 0) (by decide +kernel)) (byA eNcX10_met (p := 11) (v := 14) (by decide +kernel)) (by decide +kernel)
theorem dX10_met_12 : decode cX10_met 12 = .ok (.iload_n 2, 1) := dc_28 (byA eNcX10_met (p := 12) (v := 28) (by decide +kernel))
theorem dX10_met_13 : decode cX10_met 13 = .ok (.aload_n 0, 1) := dc_42 (byA eNcX10_met (p := 13) (v := 42) (by decide +kernel))
theorem dX10_met_14 : decode cX10_met 14 = .ok (.getfield 74, 3) := dc_180 (byA eNcX10_met (p := 14) (v := 180) (by decide +kernel)) (byA eNcX10_met (p := 15) (v := 0) (by decide +kernel)) (byA eNcX10_met (p := 16) (v := 74) (by decide +kernel)) rfl
theorem dX10_met_17 : decode cX10_met 17 = .ok (.invokevirtual 316, 3) := dc_182 (byA eNcX10_met (p := 17) (v := 182) (by decide +kernel)) (byA eNcX10_met (p := 18) (v := 1) (by decide +kernel)) (byA eNcX10_met (p := 19) (v := 60) (by decide +kernel)) rfl
theorem dX10_met_20 : decode cX10_met 20 = .ok (.if_icmp .le 5, 3) := dc_164 (byA eNcX10_met (p := 20) (v := 164) (by decide +kernel)) (byA eNcX10_met (p := 21) (v := 0) (by decide +kernel)) (byA eNcX10_met (p := 22) (v := 5) (by decide +kernel)) (by decide +kernel)
theorem dX10_met_23 : decode cX10_met 23 = .ok (.iconst (-1), 1) := dc_2 (byA eNcX10_met (p := 23) (v := 2) (by decide +kernel))
theorem dX10_met_24 : decode cX10_met 24 = .ok (.ireturn, 1) := dc_172 (byA eNcX10_met (p := 24) (v := 172) (by decide +kernel))
theorem dX10_met_25 : decode cX10_met 25 = .ok (.aload_n 0, 1) := dc_42 (byA eNcX10_met (p := 25) (v := 42) (by decide +kernel))
theorem dX10_met_26 : decode cX10_met 26 = .ok (.iload_n 2, 1) := dc_28 (byA eNcX10_met (p := 26) (v := 28) (by decide +kernel))
theorem dX10_met_27 : decode cX10_met 27 = .ok (.invokevirtual 319, 3) := dc_182 (byA eNcX10_met (p := 27) (v := 182) (by decide +kernel)) (byA eNcX10_met (p := 28) (v := 1) (by decide +kernel)) (byA eNcX10_met (p := 29) (v := 63) (by decide +kernel)) rfl
theorem dX10_met_30 : decode cX10_met 30 = .ok (.ifCond .eq 7, 3) := dc_153 (byA eNcX10_met (p := 30) (v := 153) (by decide +kernel)) (byA eNcX10_met (p := 31) (v := 0) (by decide +kernel)) (byA eNcX10_met (p := 32) (v := 7) (by decide +kernel)) (by decide +kernel)
theorem dX10_met_33 : decode cX10_met 33 = .ok (.iconst 1, 1) := dc_4 (byA eNcX10_met (p := 33) (v := 4) (by decide +kernel))
theorem dX10_met_34 : decode cX10_met 34 = .ok (.goto 4, 3) := dc_167 (byA eNcX10_met (p := 34) (v := 167) (by decide +kernel)) (byA eNcX10_met (p := 35) (v := 0) (by decide +kernel)) (byA eNcX10_met (p := 36) (v := 4) (by decide +kernel)) (by decide +kernel)
theorem dX10_met_37 : decode cX10_met 37 = .ok (.iconst 0, 1) := dc_3 (byA eNcX10_met (p := 37) (v := 3) (by decide +kernel))
theorem dX10_met_38 : decode cX10_met 38 = .ok (.ireturn, 1) := dc_172 (byA eNcX10_met (p := 38) (v := 172) (by decide +kernel))
def X10_met (l1 : Int) (l2 : Int) (μ : Mm) : Rs := bd (X10_lay l1 μ) fun v1 μ2 => if v1 = 0 then (some ((-1), μ2)) else (if l2 ≤ 0 then (some ((-1), μ2)) else (bd (X1_allCues 48 μ2) fun v6 μ7 => if l2 ≤ v6 then (bd (X10_isMet l2 μ7) fun v10 μ11 => if v10 = 0 then (some (0, μ11)) else (some (1, μ11))) else (some ((-1), μ7))))
set_option maxHeartbeats 4000000 in
set_option maxRecDepth 100000 in
theorem kX10_met (d : Nat) (hd : 272 ≤ d) {l1 : Int} {l2 : Int} {μ : Mm} {r : Int} {μ' : Mm} (h : X10_met l1 l2 μ = some (r, μ')) : CC d mX10_met [vR 0, vI l1, vI l2] μ r μ' := by
  unfold X10_met at h
  refine V_enter (by decide) (Nat.le_of_ble_eq_true rfl) ?_
  show VV d mX10_met 0 [some (vR 0), some (vI l1), some (vI l2)] [] μ r μ'
  refine V_aload_n (q := 1) dX10_met_0 rfl rfl rfl ?_
  refine V_iload_n (q := 2) dX10_met_1 rfl rfl rfl ?_
  obtain ⟨v1, μ2, hc3, h⟩ := bd_i h
  refine V_cV1 (q := 5) (v := vI v1) (kX10_lay (d - 1) (by omega) hc3) (by omega) mv_X10_288 rfl rfl rfl rfl rfl rfl dX10_met_2 rfl ?_
  refine V_ifeq (q := 23) (q2 := 8) dX10_met_5 (by decide) rfl (fun hc4 => ?_) (fun hc4 => ?_)
  · have h := ifT hc4 h
    refine V_iconst (q := 24) dX10_met_23 rfl rfl ?_
    exact V_iret rfl h dX10_met_24
  · have h := ifF hc4 h
    refine V_iload_n (q := 9) dX10_met_8 rfl rfl rfl ?_
    refine V_ifle (q := 23) (q2 := 12) dX10_met_9 (by decide) rfl (fun hc5 => ?_) (fun hc5 => ?_)
    · have h := ifT hc5 h
      refine V_iconst (q := 24) dX10_met_23 rfl rfl ?_
      exact V_iret rfl h dX10_met_24
    · have h := ifF hc5 h
      refine V_iload_n (q := 13) dX10_met_12 rfl rfl rfl ?_
      refine V_aload_n (q := 14) dX10_met_13 rfl rfl rfl ?_
      refine V_getO (q := 17) (t := 48) fl_X10_74 rfl rfl rfl rfl dX10_met_14 rfl ?_
      obtain ⟨v6, μ7, hc8, h⟩ := bd_i h
      refine V_cV1 (q := 20) (v := vI v6) (kX1_allCues (d - 1) (by omega) rfl hc8) (by omega) mv_X10_316 rfl rfl rfl rfl rfl rfl dX10_met_17 rfl ?_
      refine V_icmple (q := 25) (q2 := 23) dX10_met_20 (by decide) rfl (fun hc9 => ?_) (fun hc9 => ?_)
      · have h := ifT hc9 h
        refine V_aload_n (q := 26) dX10_met_25 rfl rfl rfl ?_
        refine V_iload_n (q := 27) dX10_met_26 rfl rfl rfl ?_
        obtain ⟨v10, μ11, hc12, h⟩ := bd_i h
        refine V_cV1 (q := 30) (v := vI v10) (kX10_isMet (d - 1) (by omega) hc12) (by omega) mv_X10_319 rfl rfl rfl rfl rfl rfl dX10_met_27 rfl ?_
        refine V_ifeq (q := 37) (q2 := 33) dX10_met_30 (by decide) rfl (fun hc13 => ?_) (fun hc13 => ?_)
        · have h := ifT hc13 h
          refine V_iconst (q := 38) dX10_met_37 rfl rfl ?_
          exact V_iret rfl h dX10_met_38
        · have h := ifF hc13 h
          refine V_iconst (q := 34) dX10_met_33 rfl rfl ?_
          refine V_goto (q := 38) dX10_met_34 (by decide) ?_
          exact V_iret rfl h dX10_met_38
      · have h := ifF hc9 h
        refine V_iconst (q := 24) dX10_met_23 rfl rfl ?_
        exact V_iret rfl h dX10_met_24
abbrev mJ6_bitCount_0f7a4 : Mth := (yJ6_bitCount_0f7a4, cJ6_bitCount_0f7a4, 1, some .int)
set_option maxRecDepth 100000 in
theorem mi_J6_bitCount_0f7a4 : Cond.static yJ6_bitCount_0f7a4 ∈ tG ∧ Cond.initialized yJ6_bitCount_0f7a4.cls ∈ tG ∧ Cond.code yJ6_bitCount_0f7a4 cJ6_bitCount_0f7a4 1 (some .int) ∈ tG ∧ (yJ6_bitCount_0f7a4.cls ≠ "java/lang/invoke/MethodHandle" ∧ yJ6_bitCount_0f7a4.cls ≠ "java/lang/invoke/VarHandle" ∧ (parseMethodDescriptor yJ6_bitCount_0f7a4.desc).map (fun d => d.parameters.length) = some 1) ∧ 1 ≤ 60 := ⟨(tG_of (tb4 (List.mem_of_getElem? (i := 128) rfl)) (by decide +kernel)), (tG_of (tb1 (List.mem_of_getElem? (i := 15) rfl)) (by decide +kernel)), (tG_of (tb4 (List.mem_of_getElem? (i := 129) rfl)) (by decide +kernel)), ⟨by decide, by decide, by decide +kernel⟩, by decide⟩
set_option maxRecDepth 100000 in
theorem mv_X10_325 : mS RX10 325 mJ6_bitCount_0f7a4 1 := ⟨(tG_of (tb4 (List.mem_of_getElem? (i := 127) rfl)) (by decide +kernel)), mi_J6_bitCount_0f7a4.1, (tG_of (tb1 (List.mem_of_getElem? (i := 1) rfl)) (by decide +kernel)), mi_J6_bitCount_0f7a4.2⟩
set_option maxRecDepth 100000 in
theorem mv_X11_267 : mS RX11 267 mJ6_bitCount_0f7a4 1 := ⟨(tG_of (tb6 (List.mem_of_getElem? (i := 168) rfl)) (by decide +kernel)), mi_J6_bitCount_0f7a4.1, (tG_of (tb1 (List.mem_of_getElem? (i := 12) rfl)) (by decide +kernel)), mi_J6_bitCount_0f7a4.2⟩
theorem dJ6_bitCount_0f7a4_0 : decode cJ6_bitCount_0f7a4 0 = .ok (.iload_n 0, 1) := dc_26 (byA eNcJ6_bitCount_0f7a4 (p := 0) (v := 26) (by decide +kernel))
theorem dJ6_bitCount_0f7a4_1 : decode cJ6_bitCount_0f7a4 1 = .ok (.iload_n 0, 1) := dc_26 (byA eNcJ6_bitCount_0f7a4 (p := 1) (v := 26) (by decide +kernel))
theorem dJ6_bitCount_0f7a4_2 : decode cJ6_bitCount_0f7a4 2 = .ok (.iconst 1, 1) := dc_4 (byA eNcJ6_bitCount_0f7a4 (p := 2) (v := 4) (by decide +kernel))
theorem dJ6_bitCount_0f7a4_3 : decode cJ6_bitCount_0f7a4 3 = .ok (.iushr, 1) := dc_124 (byA eNcJ6_bitCount_0f7a4 (p := 3) (v := 124) (by decide +kernel))
theorem dJ6_bitCount_0f7a4_4 : decode cJ6_bitCount_0f7a4 4 = .ok (.ldc_w 265, 3) := dc_19 (byA eNcJ6_bitCount_0f7a4 (p := 4) (v := 19) (by decide +kernel)) (byA eNcJ6_bitCount_0f7a4 (p := 5) (v := 1) (by decide +kernel)) (byA eNcJ6_bitCount_0f7a4 (p := 6) (v := 9) (by decide +kernel)) rfl
theorem dJ6_bitCount_0f7a4_7 : decode cJ6_bitCount_0f7a4 7 = .ok (.iand, 1) := dc_126 (byA eNcJ6_bitCount_0f7a4 (p := 7) (v := 126) (by decide +kernel))
theorem dJ6_bitCount_0f7a4_8 : decode cJ6_bitCount_0f7a4 8 = .ok (.isub, 1) := dc_100 (byA eNcJ6_bitCount_0f7a4 (p := 8) (v := 100) (by decide +kernel))
theorem dJ6_bitCount_0f7a4_9 : decode cJ6_bitCount_0f7a4 9 = .ok (.istore_n 0, 1) := dc_59 (byA eNcJ6_bitCount_0f7a4 (p := 9) (v := 59) (by decide +kernel))
theorem dJ6_bitCount_0f7a4_10 : decode cJ6_bitCount_0f7a4 10 = .ok (.iload_n 0, 1) := dc_26 (byA eNcJ6_bitCount_0f7a4 (p := 10) (v := 26) (by decide +kernel))
theorem dJ6_bitCount_0f7a4_11 : decode cJ6_bitCount_0f7a4 11 = .ok (.ldc_w 266, 3) := dc_19 (byA eNcJ6_bitCount_0f7a4 (p := 11) (v := 19) (by decide +kernel)) (byA eNcJ6_bitCount_0f7a4 (p := 12) (v := 1) (by decide +kernel)) (byA eNcJ6_bitCount_0f7a4 (p := 13) (v := 10) (by decide +kernel)) rfl
theorem dJ6_bitCount_0f7a4_14 : decode cJ6_bitCount_0f7a4 14 = .ok (.iand, 1) := dc_126 (byA eNcJ6_bitCount_0f7a4 (p := 14) (v := 126) (by decide +kernel))
theorem dJ6_bitCount_0f7a4_15 : decode cJ6_bitCount_0f7a4 15 = .ok (.iload_n 0, 1) := dc_26 (byA eNcJ6_bitCount_0f7a4 (p := 15) (v := 26) (by decide +kernel))
theorem dJ6_bitCount_0f7a4_16 : decode cJ6_bitCount_0f7a4 16 = .ok (.iconst 2, 1) := dc_5 (byA eNcJ6_bitCount_0f7a4 (p := 16) (v := 5) (by decide +kernel))
theorem dJ6_bitCount_0f7a4_17 : decode cJ6_bitCount_0f7a4 17 = .ok (.iushr, 1) := dc_124 (byA eNcJ6_bitCount_0f7a4 (p := 17) (v := 124) (by decide +kernel))
theorem dJ6_bitCount_0f7a4_18 : decode cJ6_bitCount_0f7a4 18 = .ok (.ldc_w 266, 3) := dc_19 (byA eNcJ6_bitCount_0f7a4 (p := 18) (v := 19) (by decide +kernel)) (byA eNcJ6_bitCount_0f7a4 (p := 19) (v := 1) (by decide +kernel)) (byA eNcJ6_bitCount_0f7a4 (p := 20) (v := 10) (by decide +kernel)) rfl
theorem dJ6_bitCount_0f7a4_21 : decode cJ6_bitCount_0f7a4 21 = .ok (.iand, 1) := dc_126 (byA eNcJ6_bitCount_0f7a4 (p := 21) (v := 126) (by decide +kernel))
theorem dJ6_bitCount_0f7a4_22 : decode cJ6_bitCount_0f7a4 22 = .ok (.iadd, 1) := dc_96 (byA eNcJ6_bitCount_0f7a4 (p := 22) (v := 96) (by decide +kernel))
theorem dJ6_bitCount_0f7a4_23 : decode cJ6_bitCount_0f7a4 23 = .ok (.istore_n 0, 1) := dc_59 (byA eNcJ6_bitCount_0f7a4 (p := 23) (v := 59) (by decide +kernel))
theorem dJ6_bitCount_0f7a4_24 : decode cJ6_bitCount_0f7a4 24 = .ok (.iload_n 0, 1) := dc_26 (byA eNcJ6_bitCount_0f7a4 (p := 24) (v := 26) (by decide +kernel))
theorem dJ6_bitCount_0f7a4_25 : decode cJ6_bitCount_0f7a4 25 = .ok (.iload_n 0, 1) := dc_26 (byA eNcJ6_bitCount_0f7a4 (p := 25) (v := 26) (by decide +kernel))
theorem dJ6_bitCount_0f7a4_26 : decode cJ6_bitCount_0f7a4 26 = .ok (.iconst 4, 1) := dc_7 (byA eNcJ6_bitCount_0f7a4 (p := 26) (v := 7) (by decide +kernel))
theorem dJ6_bitCount_0f7a4_27 : decode cJ6_bitCount_0f7a4 27 = .ok (.iushr, 1) := dc_124 (byA eNcJ6_bitCount_0f7a4 (p := 27) (v := 124) (by decide +kernel))
theorem dJ6_bitCount_0f7a4_28 : decode cJ6_bitCount_0f7a4 28 = .ok (.iadd, 1) := dc_96 (byA eNcJ6_bitCount_0f7a4 (p := 28) (v := 96) (by decide +kernel))
theorem dJ6_bitCount_0f7a4_29 : decode cJ6_bitCount_0f7a4 29 = .ok (.ldc_w 267, 3) := dc_19 (byA eNcJ6_bitCount_0f7a4 (p := 29) (v := 19) (by decide +kernel)) (byA eNcJ6_bitCount_0f7a4 (p := 30) (v := 1) (by decide +kernel)) (byA eNcJ6_bitCount_0f7a4 (p := 31) (v := 11) (by decide +kernel)) rfl
theorem dJ6_bitCount_0f7a4_32 : decode cJ6_bitCount_0f7a4 32 = .ok (.iand, 1) := dc_126 (byA eNcJ6_bitCount_0f7a4 (p := 32) (v := 126) (by decide +kernel))
theorem dJ6_bitCount_0f7a4_33 : decode cJ6_bitCount_0f7a4 33 = .ok (.istore_n 0, 1) := dc_59 (byA eNcJ6_bitCount_0f7a4 (p := 33) (v := 59) (by decide +kernel))
theorem dJ6_bitCount_0f7a4_34 : decode cJ6_bitCount_0f7a4 34 = .ok (.iload_n 0, 1) := dc_26 (byA eNcJ6_bitCount_0f7a4 (p := 34) (v := 26) (by decide +kernel))
theorem dJ6_bitCount_0f7a4_35 : decode cJ6_bitCount_0f7a4 35 = .ok (.iload_n 0, 1) := dc_26 (byA eNcJ6_bitCount_0f7a4 (p := 35) (v := 26) (by decide +kernel))
theorem dJ6_bitCount_0f7a4_36 : decode cJ6_bitCount_0f7a4 36 = .ok (.bipush 8, 2) := dc_16 (byA eNcJ6_bitCount_0f7a4 (p := 36) (v := 16) (by decide +kernel)) (byA eNcJ6_bitCount_0f7a4 (p := 37) (v := 8) (by decide +kernel)) (by decide +kernel)
theorem dJ6_bitCount_0f7a4_38 : decode cJ6_bitCount_0f7a4 38 = .ok (.iushr, 1) := dc_124 (byA eNcJ6_bitCount_0f7a4 (p := 38) (v := 124) (by decide +kernel))
theorem dJ6_bitCount_0f7a4_39 : decode cJ6_bitCount_0f7a4 39 = .ok (.iadd, 1) := dc_96 (byA eNcJ6_bitCount_0f7a4 (p := 39) (v := 96) (by decide +kernel))
theorem dJ6_bitCount_0f7a4_40 : decode cJ6_bitCount_0f7a4 40 = .ok (.istore_n 0, 1) := dc_59 (byA eNcJ6_bitCount_0f7a4 (p := 40) (v := 59) (by decide +kernel))
theorem dJ6_bitCount_0f7a4_41 : decode cJ6_bitCount_0f7a4 41 = .ok (.iload_n 0, 1) := dc_26 (byA eNcJ6_bitCount_0f7a4 (p := 41) (v := 26) (by decide +kernel))
theorem dJ6_bitCount_0f7a4_42 : decode cJ6_bitCount_0f7a4 42 = .ok (.iload_n 0, 1) := dc_26 (byA eNcJ6_bitCount_0f7a4 (p := 42) (v := 26) (by decide +kernel))
theorem dJ6_bitCount_0f7a4_43 : decode cJ6_bitCount_0f7a4 43 = .ok (.bipush 16, 2) := dc_16 (byA eNcJ6_bitCount_0f7a4 (p := 43) (v := 16) (by decide +kernel)) (byA eNcJ6_bitCount_0f7a4 (p := 44) (v := 16) (by decide +kernel)) (by decide +kernel)
theorem dJ6_bitCount_0f7a4_45 : decode cJ6_bitCount_0f7a4 45 = .ok (.iushr, 1) := dc_124 (byA eNcJ6_bitCount_0f7a4 (p := 45) (v := 124) (by decide +kernel))
theorem dJ6_bitCount_0f7a4_46 : decode cJ6_bitCount_0f7a4 46 = .ok (.iadd, 1) := dc_96 (byA eNcJ6_bitCount_0f7a4 (p := 46) (v := 96) (by decide +kernel))
theorem dJ6_bitCount_0f7a4_47 : decode cJ6_bitCount_0f7a4 47 = .ok (.istore_n 0, 1) := dc_59 (byA eNcJ6_bitCount_0f7a4 (p := 47) (v := 59) (by decide +kernel))
theorem dJ6_bitCount_0f7a4_48 : decode cJ6_bitCount_0f7a4 48 = .ok (.iload_n 0, 1) := dc_26 (byA eNcJ6_bitCount_0f7a4 (p := 48) (v := 26) (by decide +kernel))
theorem dJ6_bitCount_0f7a4_49 : decode cJ6_bitCount_0f7a4 49 = .ok (.bipush 63, 2) := dc_16 (byA eNcJ6_bitCount_0f7a4 (p := 49) (v := 16) (by decide +kernel)) (byA eNcJ6_bitCount_0f7a4 (p := 50) (v := 63) (by decide +kernel)) (by decide +kernel)
theorem dJ6_bitCount_0f7a4_51 : decode cJ6_bitCount_0f7a4 51 = .ok (.iand, 1) := dc_126 (byA eNcJ6_bitCount_0f7a4 (p := 51) (v := 126) (by decide +kernel))
theorem dJ6_bitCount_0f7a4_52 : decode cJ6_bitCount_0f7a4 52 = .ok (.ireturn, 1) := dc_172 (byA eNcJ6_bitCount_0f7a4 (p := 52) (v := 172) (by decide +kernel))
def J6_bitCount_0f7a4 (l0 : Int) (μ : Mm) : Rs := lt_ (iS l0 (bA (bU l0 1) 1431655765)) fun v1 => lt_ (iA (bA v1 858993459) (bA (bU v1 2) 858993459)) fun v2 => lt_ (bA (iA v2 (bU v2 4)) 252645135) fun v3 => lt_ (iA v3 (bU v3 8)) fun v4 => lt_ (iA v4 (bU v4 16)) fun v5 => some (bA v5 63, μ)
set_option maxHeartbeats 4000000 in
set_option maxRecDepth 100000 in
theorem kJ6_bitCount_0f7a4 (d : Nat) (hd : 1 ≤ d) {l0 : Int} {μ : Mm} {r : Int} {μ' : Mm} (h : J6_bitCount_0f7a4 l0 μ = some (r, μ')) : CC d mJ6_bitCount_0f7a4 [vI l0] μ r μ' := by
  unfold J6_bitCount_0f7a4 at h
  refine V_enter (by decide) (Nat.le_of_ble_eq_true rfl) ?_
  show VV d mJ6_bitCount_0f7a4 0 [some (vI l0)] [] μ r μ'
  refine V_iload_n (q := 1) dJ6_bitCount_0f7a4_0 rfl rfl rfl ?_
  refine V_iload_n (q := 2) dJ6_bitCount_0f7a4_1 rfl rfl rfl ?_
  refine V_iconst (q := 3) dJ6_bitCount_0f7a4_2 rfl rfl ?_
  refine V_iushr (q := 4) dJ6_bitCount_0f7a4_3 rfl ?_
  refine V_ldcw (q := 7) (n := 1431655765) dJ6_bitCount_0f7a4_4 (by unfold rI; omega) kc_J6_265 rfl ?_
  refine V_iand (q := 8) dJ6_bitCount_0f7a4_7 rfl ?_
  refine V_isub (q := 9) dJ6_bitCount_0f7a4_8 rfl ?_
  have h := lt_i h
  refine V_istore_n (q := 10) dJ6_bitCount_0f7a4_9 rfl (Nat.le_of_ble_eq_true rfl) trivial rfl ?_
  refine V_iload_n (q := 11) dJ6_bitCount_0f7a4_10 rfl rfl rfl ?_
  refine V_ldcw (q := 14) (n := 858993459) dJ6_bitCount_0f7a4_11 (by unfold rI; omega) kc_J6_266 rfl ?_
  refine V_iand (q := 15) dJ6_bitCount_0f7a4_14 rfl ?_
  refine V_iload_n (q := 16) dJ6_bitCount_0f7a4_15 rfl rfl rfl ?_
  refine V_iconst (q := 17) dJ6_bitCount_0f7a4_16 rfl rfl ?_
  refine V_iushr (q := 18) dJ6_bitCount_0f7a4_17 rfl ?_
  refine V_ldcw (q := 21) (n := 858993459) dJ6_bitCount_0f7a4_18 (by unfold rI; omega) kc_J6_266 rfl ?_
  refine V_iand (q := 22) dJ6_bitCount_0f7a4_21 rfl ?_
  refine V_iadd (q := 23) dJ6_bitCount_0f7a4_22 rfl ?_
  have h := lt_i h
  refine V_istore_n (q := 24) dJ6_bitCount_0f7a4_23 rfl (Nat.le_of_ble_eq_true rfl) trivial rfl ?_
  refine V_iload_n (q := 25) dJ6_bitCount_0f7a4_24 rfl rfl rfl ?_
  refine V_iload_n (q := 26) dJ6_bitCount_0f7a4_25 rfl rfl rfl ?_
  refine V_iconst (q := 27) dJ6_bitCount_0f7a4_26 rfl rfl ?_
  refine V_iushr (q := 28) dJ6_bitCount_0f7a4_27 rfl ?_
  refine V_iadd (q := 29) dJ6_bitCount_0f7a4_28 rfl ?_
  refine V_ldcw (q := 32) (n := 252645135) dJ6_bitCount_0f7a4_29 (by unfold rI; omega) kc_J6_267 rfl ?_
  refine V_iand (q := 33) dJ6_bitCount_0f7a4_32 rfl ?_
  have h := lt_i h
  refine V_istore_n (q := 34) dJ6_bitCount_0f7a4_33 rfl (Nat.le_of_ble_eq_true rfl) trivial rfl ?_
  refine V_iload_n (q := 35) dJ6_bitCount_0f7a4_34 rfl rfl rfl ?_
  refine V_iload_n (q := 36) dJ6_bitCount_0f7a4_35 rfl rfl rfl ?_
  refine V_bipush (q := 38) dJ6_bitCount_0f7a4_36 rfl rfl rfl ?_
  refine V_iushr (q := 39) dJ6_bitCount_0f7a4_38 rfl ?_
  refine V_iadd (q := 40) dJ6_bitCount_0f7a4_39 rfl ?_
  have h := lt_i h
  refine V_istore_n (q := 41) dJ6_bitCount_0f7a4_40 rfl (Nat.le_of_ble_eq_true rfl) trivial rfl ?_
  refine V_iload_n (q := 42) dJ6_bitCount_0f7a4_41 rfl rfl rfl ?_
  refine V_iload_n (q := 43) dJ6_bitCount_0f7a4_42 rfl rfl rfl ?_
  refine V_bipush (q := 45) dJ6_bitCount_0f7a4_43 rfl rfl rfl ?_
  refine V_iushr (q := 46) dJ6_bitCount_0f7a4_45 rfl ?_
  refine V_iadd (q := 47) dJ6_bitCount_0f7a4_46 rfl ?_
  have h := lt_i h
  refine V_istore_n (q := 48) dJ6_bitCount_0f7a4_47 rfl (Nat.le_of_ble_eq_true rfl) trivial rfl ?_
  refine V_iload_n (q := 49) dJ6_bitCount_0f7a4_48 rfl rfl rfl ?_
  refine V_bipush (q := 51) dJ6_bitCount_0f7a4_49 rfl rfl rfl ?_
  refine V_iand (q := 52) dJ6_bitCount_0f7a4_51 rfl ?_
  exact V_iret rfl h dJ6_bitCount_0f7a4_52
abbrev mX10_knot : Mth := (yX10_knot, cX10_knot, 6, some .int)
set_option maxRecDepth 100000 in
theorem mi_X10_knot : Cond.instanceMethod yX10_knot ∈ tG ∧ Cond.selects yX10_knot.cls yX10_knot yX10_knot ∈ tG ∧ Cond.initialized yX10_knot.cls ∈ tG ∧ Cond.code yX10_knot cX10_knot 6 (some .int) ∈ tG ∧ (yX10_knot.cls ≠ "java/lang/invoke/MethodHandle" ∧ yX10_knot.cls ≠ "java/lang/invoke/VarHandle" ∧ (parseMethodDescriptor yX10_knot.desc).map (fun d => d.parameters.length) = some 1) ∧ 6 ≤ 60 := ⟨(tG_of (tb4 (List.mem_of_getElem? (i := 124) rfl)) (by decide +kernel)), (tG_of (tb4 (List.mem_of_getElem? (i := 125) rfl)) (by decide +kernel)), (tG_of (tb1 (List.mem_of_getElem? (i := 1) rfl)) (by decide +kernel)), (tG_of (tb4 (List.mem_of_getElem? (i := 126) rfl)) (by decide +kernel)), ⟨by decide, by decide, by decide +kernel⟩, by decide⟩
theorem dX10_knot_0 : decode cX10_knot 0 = .ok (.aload_n 0, 1) := dc_42 (byA eNcX10_knot (p := 0) (v := 42) (by decide +kernel))
theorem dX10_knot_1 : decode cX10_knot 1 = .ok (.iload_n 1, 1) := dc_27 (byA eNcX10_knot (p := 1) (v := 27) (by decide +kernel))
theorem dX10_knot_2 : decode cX10_knot 2 = .ok (.invokevirtual 288, 3) := dc_182 (byA eNcX10_knot (p := 2) (v := 182) (by decide +kernel)) (byA eNcX10_knot (p := 3) (v := 1) (by decide +kernel)) (byA eNcX10_knot (p := 4) (v := 32) (by decide +kernel)) rfl
theorem dX10_knot_5 : decode cX10_knot 5 = .ok (.ifCond .ne 5, 3) := dc_154 (byA eNcX10_knot (p := 5) (v := 154) (by decide +kernel)) (byA eNcX10_knot (p := 6) (v := 0) (by decide +kernel)) (byA eNcX10_knot (p := 7) (v := 5) (by decide +kernel)) (by decide +kernel)
theorem dX10_knot_8 : decode cX10_knot 8 = .ok (.iconst (-1), 1) := dc_2 (byA eNcX10_knot (p := 8) (v := 2) (by decide +kernel))
theorem dX10_knot_9 : decode cX10_knot 9 = .ok (.ireturn, 1) := dc_172 (byA eNcX10_knot (p := 9) (v := 172) (by decide +kernel))
theorem dX10_knot_10 : decode cX10_knot 10 = .ok (.iconst (-1), 1) := dc_2 (byA eNcX10_knot (p := 10) (v := 2) (by decide +kernel))
theorem dX10_knot_11 : decode cX10_knot 11 = .ok (.istore_n 2, 1) := dc_61 (byA eNcX10_knot (p := 11) (v := 61) (by decide +kernel))
theorem dX10_knot_12 : decode cX10_knot 12 = .ok (.bipush 9, 2) := dc_16 (byA eNcX10_knot (p := 12) (v := 16) (by decide +kernel)) (byA eNcX10_knot (p := 13) (v := 9) (by decide +kernel)) (by decide +kernel)
theorem dX10_knot_14 : decode cX10_knot 14 = .ok (.istore_n 3, 1) := dc_62 (byA eNcX10_knot (p := 14) (v := 62) (by decide +kernel))
theorem dX10_knot_15 : decode cX10_knot 15 = .ok (.iconst 1, 1) := dc_4 (byA eNcX10_knot (p := 15) (v := 4) (by decide +kernel))
theorem dX10_knot_16 : decode cX10_knot 16 = .ok (.istore 4, 2) := dc_54 (byA eNcX10_knot (p := 16) (v := 54) (by decide +kernel)) (byA eNcX10_knot (p := 17) (v := 4) (by decide +kernel))
theorem dX10_knot_18 : decode cX10_knot 18 = .ok (.iload 4, 2) := dc_21 (byA eNcX10_knot (p := 18) (v := 21) (by decide +kernel)) (byA eNcX10_knot (p := 19) (v := 4) (by decide +kernel))
theorem dX10_knot_20 : decode cX10_knot 20 = .ok (.aload_n 0, 1) := dc_42 (byA eNcX10_knot (p := 20) (v := 42) (by decide +kernel))
theorem dX10_knot_21 : decode cX10_knot 21 = .ok (.getfield 74, 3) := dc_180 (byA eNcX10_knot (p := 21) (v := 180) (by decide +kernel)) (byA eNcX10_knot (p := 22) (v := 0) (by decide +kernel)) (byA eNcX10_knot (p := 23) (v := 74) (by decide +kernel)) rfl
theorem dX10_knot_24 : decode cX10_knot 24 = .ok (.invokevirtual 316, 3) := dc_182 (byA eNcX10_knot (p := 24) (v := 182) (by decide +kernel)) (byA eNcX10_knot (p := 25) (v := 1) (by decide +kernel)) (byA eNcX10_knot (p := 26) (v := 60) (by decide +kernel)) rfl
theorem dX10_knot_27 : decode cX10_knot 27 = .ok (.if_icmp .gt 37, 3) := dc_163 (byA eNcX10_knot (p := 27) (v := 163) (by decide +kernel)) (byA eNcX10_knot (p := 28) (v := 0) (by decide +kernel)) (byA eNcX10_knot (p := 29) (v := 37) (by decide +kernel)) (by decide +kernel)
theorem dX10_knot_30 : decode cX10_knot 30 = .ok (.iload 4, 2) := dc_21 (byA eNcX10_knot (p := 30) (v := 21) (by decide +kernel)) (byA eNcX10_knot (p := 31) (v := 4) (by decide +kernel))
theorem dX10_knot_32 : decode cX10_knot 32 = .ok (.invokestatic 325, 3) := dc_184 (byA eNcX10_knot (p := 32) (v := 184) (by decide +kernel)) (byA eNcX10_knot (p := 33) (v := 1) (by decide +kernel)) (byA eNcX10_knot (p := 34) (v := 69) (by decide +kernel)) rfl
theorem dX10_knot_35 : decode cX10_knot 35 = .ok (.istore 5, 2) := dc_54 (byA eNcX10_knot (p := 35) (v := 54) (by decide +kernel)) (byA eNcX10_knot (p := 36) (v := 5) (by decide +kernel))
theorem dX10_knot_37 : decode cX10_knot 37 = .ok (.iload 5, 2) := dc_21 (byA eNcX10_knot (p := 37) (v := 21) (by decide +kernel)) (byA eNcX10_knot (p := 38) (v := 5) (by decide +kernel))
theorem dX10_knot_39 : decode cX10_knot 39 = .ok (.iload_n 3, 1) := dc_29 (byA eNcX10_knot (p := 39) (v := 29) (by decide +kernel))
theorem dX10_knot_40 : decode cX10_knot 40 = .ok (.if_icmp .ge 18, 3) := dc_162 (byA eNcX10_knot (p := 40) (v := 162) (by decide +kernel)) (byA eNcX10_knot (p := 41) (v := 0) (by decide +kernel)) (byA eNcX10_knot (p := 42) (v := 18) (by decide +kernel)) (by decide +kernel)
theorem dX10_knot_43 : decode cX10_knot 43 = .ok (.aload_n 0, 1) := dc_42 (byA eNcX10_knot (p := 43) (v := 42) (by decide +kernel))
theorem dX10_knot_44 : decode cX10_knot 44 = .ok (.iload 4, 2) := dc_21 (byA eNcX10_knot (p := 44) (v := 21) (by decide +kernel)) (byA eNcX10_knot (p := 45) (v := 4) (by decide +kernel))
theorem dX10_knot_46 : decode cX10_knot 46 = .ok (.invokevirtual 319, 3) := dc_182 (byA eNcX10_knot (p := 46) (v := 182) (by decide +kernel)) (byA eNcX10_knot (p := 47) (v := 1) (by decide +kernel)) (byA eNcX10_knot (p := 48) (v := 63) (by decide +kernel)) rfl
theorem dX10_knot_49 : decode cX10_knot 49 = .ok (.ifCond .ne 9, 3) := dc_154 (byA eNcX10_knot (p := 49) (v := 154) (by decide +kernel)) (byA eNcX10_knot (p := 50) (v := 0) (by decide +kernel)) (byA eNcX10_knot (p := 51) (v := 9) (by decide +kernel)) (by decide +kernel)
theorem dX10_knot_52 : decode cX10_knot 52 = .ok (.iload 5, 2) := dc_21 (byA eNcX10_knot (p := 52) (v := 21) (by decide +kernel)) (byA eNcX10_knot (p := 53) (v := 5) (by decide +kernel))
theorem dX10_knot_54 : decode cX10_knot 54 = .ok (.istore_n 3, 1) := dc_62 (byA eNcX10_knot (p := 54) (v := 62) (by decide +kernel))
theorem dX10_knot_55 : decode cX10_knot 55 = .ok (.iload 4, 2) := dc_21 (byA eNcX10_knot (p := 55) (v := 21) (by decide +kernel)) (byA eNcX10_knot (p := 56) (v := 4) (by decide +kernel))
theorem dX10_knot_57 : decode cX10_knot 57 = .ok (.istore_n 2, 1) := dc_61 (byA eNcX10_knot (p := 57) (v := 61) (by decide +kernel))
theorem dX10_knot_58 : decode cX10_knot 58 = .ok (.iinc 4 1, 3) := dc_132 (byA eNcX10_knot (p := 58) (v := 132) (by decide +kernel)) (byA eNcX10_knot (p := 59) (v := 4) (by decide +kernel)) (byA eNcX10_knot (p := 60) (v := 1) (by decide +kernel)) (by decide +kernel)
theorem dX10_knot_61 : decode cX10_knot 61 = .ok (.goto (-43), 3) := dc_167 (byA eNcX10_knot (p := 61) (v := 167) (by decide +kernel)) (byA eNcX10_knot (p := 62) (v := 255) (by decide +kernel)) (byA eNcX10_knot (p := 63) (v := 213) (by decide +kernel)) (by decide +kernel)
theorem dX10_knot_64 : decode cX10_knot 64 = .ok (.iload_n 2, 1) := dc_28 (byA eNcX10_knot (p := 64) (v := 28) (by decide +kernel))
theorem dX10_knot_65 : decode cX10_knot 65 = .ok (.ireturn, 1) := dc_172 (byA eNcX10_knot (p := 65) (v := 172) (by decide +kernel))
def X10_knot_L18 : Nat → Int → Int → Int → Mm → Rs
  | 0, _, _, _, _ => none
  | n + 1, l2, l3, l4, μ => bd (X1_allCues 48 μ) fun v5 μ6 => if v5 < l4 then (some (l2, μ6)) else (bd (J6_bitCount_0f7a4 l4 μ6) fun v9 μ10 => if l3 ≤ v9 then (X10_knot_L18 n l2 l3 (iA l4 1) μ10) else (bd (X10_isMet l4 μ10) fun v13 μ14 => if v13 = 0 then (X10_knot_L18 n l4 v9 (iA l4 1) μ14) else (X10_knot_L18 n l2 l3 (iA l4 1) μ14)))
def X10_knot (l1 : Int) (μ : Mm) : Rs := bd (X10_lay l1 μ) fun v1 μ2 => if v1 = 0 then (some ((-1), μ2)) else (X10_knot_L18 FU (-1) 9 1 μ2)
set_option maxHeartbeats 4000000 in
set_option maxRecDepth 100000 in
theorem kX10_knot_L18 (d : Nat) (hd : 272 ≤ d) {r : Int} {μ' : Mm} : ∀ (n : Nat) {l2 l3 l4 : Int} {μ : Mm}, X10_knot_L18 n l2 l3 l4 μ = some (r, μ') → VV d mX10_knot 18 [some (vR 0), none, some (vI l2), some (vI l3), some (vI l4), none] [] μ r μ' := by
  intro n
  induction n with
  | zero => intro l2 l3 l4 μ h; rw [X10_knot_L18] at h; cases h
  | succ n ih =>
    intro l2 l3 l4 μ h
    rw [X10_knot_L18] at h
    refine V_iload (q := 20) dX10_knot_18 rfl rfl ?_
    refine V_aload_n (q := 21) dX10_knot_20 rfl rfl rfl ?_
    refine V_getO (q := 24) (t := 48) fl_X10_74 rfl rfl rfl rfl dX10_knot_21 rfl ?_
    obtain ⟨v5, μ6, hc7, h⟩ := bd_i h
    refine V_cV1 (q := 27) (v := vI v5) (kX1_allCues (d - 1) (by omega) rfl hc7) (by omega) mv_X10_316 rfl rfl rfl rfl rfl rfl dX10_knot_24 rfl ?_
    refine V_icmpgt (q := 64) (q2 := 30) dX10_knot_27 (by decide) rfl (fun hc8 => ?_) (fun hc8 => ?_)
    · have h := ifT hc8 h
      refine V_iload_n (q := 65) dX10_knot_64 rfl rfl rfl ?_
      exact V_iret rfl h dX10_knot_65
    · have h := ifF hc8 h
      refine V_iload (q := 32) dX10_knot_30 rfl rfl ?_
      obtain ⟨v9, μ10, hc11, h⟩ := bd_i h
      refine V_cS1 (q := 35) (v := vI v9) (kJ6_bitCount_0f7a4 (d - 1) (by omega) hc11) (by omega) mv_X10_325 rfl rfl rfl rfl dX10_knot_32 rfl ?_
      refine V_istore (q := 37) dX10_knot_35 (Nat.le_of_ble_eq_true rfl) trivial rfl ?_
      refine V_iload (q := 39) dX10_knot_37 rfl rfl ?_
      refine V_iload_n (q := 40) dX10_knot_39 rfl rfl rfl ?_
      refine V_icmpge (q := 58) (q2 := 43) dX10_knot_40 (by decide) rfl (fun hc12 => ?_) (fun hc12 => ?_)
      · have h := ifT hc12 h
        refine V_iinc (q := 61) dX10_knot_58 rfl (Nat.le_of_ble_eq_true rfl) trivial rfl ?_
        refine V_goto (q := 18) dX10_knot_61 (by decide) ?_
        exact V_weak (ih h) (sb_s rfl (sb_n (sb_s rfl (sb_s rfl (sb_s rfl (sb_n sb_0))))))
      · have h := ifF hc12 h
        refine V_aload_n (q := 44) dX10_knot_43 rfl rfl rfl ?_
        refine V_iload (q := 46) dX10_knot_44 rfl rfl ?_
        obtain ⟨v13, μ14, hc15, h⟩ := bd_i h
        refine V_cV1 (q := 49) (v := vI v13) (kX10_isMet (d - 1) (by omega) hc15) (by omega) mv_X10_319 rfl rfl rfl rfl rfl rfl dX10_knot_46 rfl ?_
        refine V_ifne (q := 58) (q2 := 52) dX10_knot_49 (by decide) rfl (fun hc16 => ?_) (fun hc16 => ?_)
        · have h := ifF hc16 h
          refine V_iinc (q := 61) dX10_knot_58 rfl (Nat.le_of_ble_eq_true rfl) trivial rfl ?_
          refine V_goto (q := 18) dX10_knot_61 (by decide) ?_
          exact V_weak (ih h) (sb_s rfl (sb_n (sb_s rfl (sb_s rfl (sb_s rfl (sb_n sb_0))))))
        · have h := ifT hc16 h
          refine V_iload (q := 54) dX10_knot_52 rfl rfl ?_
          refine V_istore_n (q := 55) dX10_knot_54 rfl (Nat.le_of_ble_eq_true rfl) trivial rfl ?_
          refine V_iload (q := 57) dX10_knot_55 rfl rfl ?_
          refine V_istore_n (q := 58) dX10_knot_57 rfl (Nat.le_of_ble_eq_true rfl) trivial rfl ?_
          refine V_iinc (q := 61) dX10_knot_58 rfl (Nat.le_of_ble_eq_true rfl) trivial rfl ?_
          refine V_goto (q := 18) dX10_knot_61 (by decide) ?_
          exact V_weak (ih h) (sb_s rfl (sb_n (sb_s rfl (sb_s rfl (sb_s rfl (sb_n sb_0))))))
set_option maxHeartbeats 4000000 in
set_option maxRecDepth 100000 in
theorem kX10_knot (d : Nat) (hd : 272 ≤ d) {l1 : Int} {μ : Mm} {r : Int} {μ' : Mm} (h : X10_knot l1 μ = some (r, μ')) : CC d mX10_knot [vR 0, vI l1] μ r μ' := by
  unfold X10_knot at h
  refine V_enter (by decide) (Nat.le_of_ble_eq_true rfl) ?_
  show VV d mX10_knot 0 [some (vR 0), some (vI l1), none, none, none, none] [] μ r μ'
  refine V_aload_n (q := 1) dX10_knot_0 rfl rfl rfl ?_
  refine V_iload_n (q := 2) dX10_knot_1 rfl rfl rfl ?_
  obtain ⟨v1, μ2, hc3, h⟩ := bd_i h
  refine V_cV1 (q := 5) (v := vI v1) (kX10_lay (d - 1) (by omega) hc3) (by omega) mv_X10_288 rfl rfl rfl rfl rfl rfl dX10_knot_2 rfl ?_
  refine V_ifne (q := 10) (q2 := 8) dX10_knot_5 (by decide) rfl (fun hc4 => ?_) (fun hc4 => ?_)
  · have h := ifF hc4 h
    refine V_iconst (q := 11) dX10_knot_10 rfl rfl ?_
    refine V_istore_n (q := 12) dX10_knot_11 rfl (Nat.le_of_ble_eq_true rfl) trivial rfl ?_
    refine V_bipush (q := 14) dX10_knot_12 rfl rfl rfl ?_
    refine V_istore_n (q := 15) dX10_knot_14 rfl (Nat.le_of_ble_eq_true rfl) trivial rfl ?_
    refine V_iconst (q := 16) dX10_knot_15 rfl rfl ?_
    refine V_istore (q := 18) dX10_knot_16 (Nat.le_of_ble_eq_true rfl) trivial rfl ?_
    exact V_weak (kX10_knot_L18 d hd  FU h) (sb_s rfl (sb_n (sb_s rfl (sb_s rfl (sb_s rfl (sb_n sb_0))))))
  · have h := ifT hc4 h
    refine V_iconst (q := 9) dX10_knot_8 rfl rfl ?_
    exact V_iret rfl h dX10_knot_9
abbrev mX10_ageOfJob : Mth := (yX10_ageOfJob, cX10_ageOfJob, 2, some .int)
set_option maxRecDepth 100000 in
theorem mi_X10_ageOfJob : Cond.instanceMethod yX10_ageOfJob ∈ tG ∧ Cond.selects yX10_ageOfJob.cls yX10_ageOfJob yX10_ageOfJob ∈ tG ∧ Cond.initialized yX10_ageOfJob.cls ∈ tG ∧ Cond.code yX10_ageOfJob cX10_ageOfJob 2 (some .int) ∈ tG ∧ (yX10_ageOfJob.cls ≠ "java/lang/invoke/MethodHandle" ∧ yX10_ageOfJob.cls ≠ "java/lang/invoke/VarHandle" ∧ (parseMethodDescriptor yX10_ageOfJob.desc).map (fun d => d.parameters.length) = some 0) ∧ 2 ≤ 60 := ⟨(tG_of (tb4 (List.mem_of_getElem? (i := 139) rfl)) (by decide +kernel)), (tG_of (List.mem_of_getElem? (i := 34) (by decide +kernel)) (by decide +kernel)), (tG_of (tb1 (List.mem_of_getElem? (i := 1) rfl)) (by decide +kernel)), (tG_of (tb4 (List.mem_of_getElem? (i := 140) rfl)) (by decide +kernel)), ⟨by decide, by decide, by decide +kernel⟩, by decide⟩
set_option maxRecDepth 100000 in
theorem mv_X10_330 : mV RX10 330 mX10_ageOfJob 0 := ⟨(tG_of (tb4 (List.mem_of_getElem? (i := 137) rfl)) (by decide +kernel)), mi_X10_ageOfJob⟩
theorem dX10_ageOfJob_0 : decode cX10_ageOfJob 0 = .ok (.bipush 9, 2) := dc_16 (byA eNcX10_ageOfJob (p := 0) (v := 16) (by decide +kernel)) (byA eNcX10_ageOfJob (p := 1) (v := 9) (by decide +kernel)) (by decide +kernel)
theorem dX10_ageOfJob_2 : decode cX10_ageOfJob 2 = .ok (.istore_n 1, 1) := dc_60 (byA eNcX10_ageOfJob (p := 2) (v := 60) (by decide +kernel))
theorem dX10_ageOfJob_3 : decode cX10_ageOfJob 3 = .ok (.iload_n 1, 1) := dc_27 (byA eNcX10_ageOfJob (p := 3) (v := 27) (by decide +kernel))
theorem dX10_ageOfJob_4 : decode cX10_ageOfJob 4 = .ok (.ifCond .le 33, 3) := dc_158 (byA eNcX10_ageOfJob (p := 4) (v := 158) (by decide +kernel)) (byA eNcX10_ageOfJob (p := 5) (v := 0) (by decide +kernel)) (byA eNcX10_ageOfJob (p := 6) (v := 33) (by decide +kernel)) (by decide +kernel)
theorem dX10_ageOfJob_7 : decode cX10_ageOfJob 7 = .ok (.aload_n 0, 1) := dc_42 (byA eNcX10_ageOfJob (p := 7) (v := 42) (by decide +kernel))
theorem dX10_ageOfJob_8 : decode cX10_ageOfJob 8 = .ok (.getfield 74, 3) := dc_180 (byA eNcX10_ageOfJob (p := 8) (v := 180) (by decide +kernel)) (byA eNcX10_ageOfJob (p := 9) (v := 0) (by decide +kernel)) (byA eNcX10_ageOfJob (p := 10) (v := 74) (by decide +kernel)) rfl
theorem dX10_ageOfJob_11 : decode cX10_ageOfJob 11 = .ok (.iload_n 1, 1) := dc_27 (byA eNcX10_ageOfJob (p := 11) (v := 27) (by decide +kernel))
theorem dX10_ageOfJob_12 : decode cX10_ageOfJob 12 = .ok (.putfield 333, 3) := dc_181 (byA eNcX10_ageOfJob (p := 12) (v := 181) (by decide +kernel)) (byA eNcX10_ageOfJob (p := 13) (v := 1) (by decide +kernel)) (byA eNcX10_ageOfJob (p := 14) (v := 77) (by decide +kernel)) rfl
theorem dX10_ageOfJob_15 : decode cX10_ageOfJob 15 = .ok (.aload_n 0, 1) := dc_42 (byA eNcX10_ageOfJob (p := 15) (v := 42) (by decide +kernel))
theorem dX10_ageOfJob_16 : decode cX10_ageOfJob 16 = .ok (.aload_n 0, 1) := dc_42 (byA eNcX10_ageOfJob (p := 16) (v := 42) (by decide +kernel))
theorem dX10_ageOfJob_17 : decode cX10_ageOfJob 17 = .ok (.getfield 74, 3) := dc_180 (byA eNcX10_ageOfJob (p := 17) (v := 180) (by decide +kernel)) (byA eNcX10_ageOfJob (p := 18) (v := 0) (by decide +kernel)) (byA eNcX10_ageOfJob (p := 19) (v := 74) (by decide +kernel)) rfl
theorem dX10_ageOfJob_20 : decode cX10_ageOfJob 20 = .ok (.invokevirtual 316, 3) := dc_182 (byA eNcX10_ageOfJob (p := 20) (v := 182) (by decide +kernel)) (byA eNcX10_ageOfJob (p := 21) (v := 1) (by decide +kernel)) (byA eNcX10_ageOfJob (p := 22) (v := 60) (by decide +kernel)) rfl
theorem dX10_ageOfJob_23 : decode cX10_ageOfJob 23 = .ok (.invokevirtual 319, 3) := dc_182 (byA eNcX10_ageOfJob (p := 23) (v := 182) (by decide +kernel)) (byA eNcX10_ageOfJob (p := 24) (v := 1) (by decide +kernel)) (byA eNcX10_ageOfJob (p := 25) (v := 63) (by decide +kernel)) rfl
theorem dX10_ageOfJob_26 : decode cX10_ageOfJob 26 = .ok (.ifCond .eq 5, 3) := dc_153 (byA eNcX10_ageOfJob (p := 26) (v := 153) (by decide +kernel)) (byA eNcX10_ageOfJob (p := 27) (v := 0) (by decide +kernel)) (byA eNcX10_ageOfJob (p := 28) (v := 5) (by decide +kernel)) (by decide +kernel)
theorem dX10_ageOfJob_29 : decode cX10_ageOfJob 29 = .ok (.iload_n 1, 1) := dc_27 (byA eNcX10_ageOfJob (p := 29) (v := 27) (by decide +kernel))
theorem dX10_ageOfJob_30 : decode cX10_ageOfJob 30 = .ok (.ireturn, 1) := dc_172 (byA eNcX10_ageOfJob (p := 30) (v := 172) (by decide +kernel))
theorem dX10_ageOfJob_31 : decode cX10_ageOfJob 31 = .ok (.iinc 1 (-1), 3) := dc_132 (byA eNcX10_ageOfJob (p := 31) (v := 132) (by decide +kernel)) (byA eNcX10_ageOfJob (p := 32) (v := 1) (by decide +kernel)) (byA eNcX10_ageOfJob (p := 33) (v := 255) (by decide +kernel)) (by decide +kernel)
theorem dX10_ageOfJob_34 : decode cX10_ageOfJob 34 = .ok (.goto (-31), 3) := dc_167 (byA eNcX10_ageOfJob (p := 34) (v := 167) (by decide +kernel)) (byA eNcX10_ageOfJob (p := 35) (v := 255) (by decide +kernel)) (byA eNcX10_ageOfJob (p := 36) (v := 225) (by decide +kernel)) (by decide +kernel)
theorem dX10_ageOfJob_37 : decode cX10_ageOfJob 37 = .ok (.iconst 0, 1) := dc_3 (byA eNcX10_ageOfJob (p := 37) (v := 3) (by decide +kernel))
theorem dX10_ageOfJob_38 : decode cX10_ageOfJob 38 = .ok (.ireturn, 1) := dc_172 (byA eNcX10_ageOfJob (p := 38) (v := 172) (by decide +kernel))
def X10_ageOfJob_L3 : Nat → Int → Mm → Rs
  | 0, _, _ => none
  | n + 1, l1, μ => if l1 ≤ 0 then (some (0, μ)) else (sF μ 48 6 l1 fun μ2 => bd (X1_allCues 48 μ2) fun v3 μ4 => bd (X10_isMet v3 μ4) fun v6 μ7 => if v6 = 0 then (X10_ageOfJob_L3 n (iA l1 (-1)) μ7) else (some (l1, μ7)))
def X10_ageOfJob (μ : Mm) : Rs := X10_ageOfJob_L3 FU 9 μ
set_option maxHeartbeats 4000000 in
set_option maxRecDepth 100000 in
theorem kX10_ageOfJob_L3 (d : Nat) (hd : 6 ≤ d) {r : Int} {μ' : Mm} : ∀ (n : Nat) {l1 : Int} {μ : Mm}, X10_ageOfJob_L3 n l1 μ = some (r, μ') → VV d mX10_ageOfJob 3 [some (vR 0), some (vI l1)] [] μ r μ' := by
  intro n
  induction n with
  | zero => intro l1 μ h; rw [X10_ageOfJob_L3] at h; cases h
  | succ n ih =>
    intro l1 μ h
    rw [X10_ageOfJob_L3] at h
    refine V_iload_n (q := 4) dX10_ageOfJob_3 rfl rfl rfl ?_
    refine V_ifle (q := 37) (q2 := 7) dX10_ageOfJob_4 (by decide) rfl (fun hc1 => ?_) (fun hc1 => ?_)
    · have h := ifT hc1 h
      refine V_iconst (q := 38) dX10_ageOfJob_37 rfl rfl ?_
      exact V_iret rfl h dX10_ageOfJob_38
    · have h := ifF hc1 h
      refine V_aload_n (q := 8) dX10_ageOfJob_7 rfl rfl rfl ?_
      refine V_getO (q := 11) (t := 48) fl_X10_74 rfl rfl rfl rfl dX10_ageOfJob_8 rfl ?_
      refine V_iload_n (q := 12) dX10_ageOfJob_11 rfl rfl rfl ?_
      have h := sF_i h
      refine V_putI (q := 15) fl_X10_333 rfl rfl rfl dX10_ageOfJob_12 rfl ?_
      refine V_aload_n (q := 16) dX10_ageOfJob_15 rfl rfl rfl ?_
      refine V_aload_n (q := 17) dX10_ageOfJob_16 rfl rfl rfl ?_
      refine V_getO (q := 20) (t := 48) fl_X10_74 rfl rfl rfl rfl dX10_ageOfJob_17 rfl ?_
      obtain ⟨v3, μ4, hc5, h⟩ := bd_i h
      refine V_cV1 (q := 23) (v := vI v3) (kX1_allCues (d - 1) (by omega) rfl hc5) (by omega) mv_X10_316 rfl rfl rfl rfl rfl rfl dX10_ageOfJob_20 rfl ?_
      obtain ⟨v6, μ7, hc8, h⟩ := bd_i h
      refine V_cV1 (q := 26) (v := vI v6) (kX10_isMet (d - 1) (by omega) hc8) (by omega) mv_X10_319 rfl rfl rfl rfl rfl rfl dX10_ageOfJob_23 rfl ?_
      refine V_ifeq (q := 31) (q2 := 29) dX10_ageOfJob_26 (by decide) rfl (fun hc9 => ?_) (fun hc9 => ?_)
      · have h := ifT hc9 h
        refine V_iinc (q := 34) dX10_ageOfJob_31 rfl (Nat.le_of_ble_eq_true rfl) trivial rfl ?_
        refine V_goto (q := 3) dX10_ageOfJob_34 (by decide) ?_
        exact V_weak (ih h) (sb_s rfl (sb_s rfl sb_0))
      · have h := ifF hc9 h
        refine V_iload_n (q := 30) dX10_ageOfJob_29 rfl rfl rfl ?_
        exact V_iret rfl h dX10_ageOfJob_30
set_option maxHeartbeats 4000000 in
set_option maxRecDepth 100000 in
theorem kX10_ageOfJob (d : Nat) (hd : 6 ≤ d) {μ : Mm} {r : Int} {μ' : Mm} (h : X10_ageOfJob μ = some (r, μ')) : CC d mX10_ageOfJob [vR 0] μ r μ' := by
  unfold X10_ageOfJob at h
  refine V_enter (by decide) (Nat.le_of_ble_eq_true rfl) ?_
  show VV d mX10_ageOfJob 0 [some (vR 0), none] [] μ r μ'
  refine V_bipush (q := 2) dX10_ageOfJob_0 rfl rfl rfl ?_
  refine V_istore_n (q := 3) dX10_ageOfJob_2 rfl (Nat.le_of_ble_eq_true rfl) trivial rfl ?_
  exact V_weak (kX10_ageOfJob_L3 d hd  FU h) (sb_s rfl (sb_s rfl sb_0))
abbrev mX10_age : Mth := (yX10_age, cX10_age, 2, some .int)
set_option maxRecDepth 100000 in
theorem mi_X10_age : Cond.instanceMethod yX10_age ∈ tG ∧ Cond.selects yX10_age.cls yX10_age yX10_age ∈ tG ∧ Cond.initialized yX10_age.cls ∈ tG ∧ Cond.code yX10_age cX10_age 2 (some .int) ∈ tG ∧ (yX10_age.cls ≠ "java/lang/invoke/MethodHandle" ∧ yX10_age.cls ≠ "java/lang/invoke/VarHandle" ∧ (parseMethodDescriptor yX10_age.desc).map (fun d => d.parameters.length) = some 1) ∧ 2 ≤ 60 := ⟨(tG_of (tb4 (List.mem_of_getElem? (i := 134) rfl)) (by decide +kernel)), (tG_of (tb4 (List.mem_of_getElem? (i := 135) rfl)) (by decide +kernel)), (tG_of (tb1 (List.mem_of_getElem? (i := 1) rfl)) (by decide +kernel)), (tG_of (tb4 (List.mem_of_getElem? (i := 136) rfl)) (by decide +kernel)), ⟨by decide, by decide, by decide +kernel⟩, by decide⟩
theorem dX10_age_0 : decode cX10_age 0 = .ok (.aload_n 0, 1) := dc_42 (byA eNcX10_age (p := 0) (v := 42) (by decide +kernel))
theorem dX10_age_1 : decode cX10_age 1 = .ok (.iload_n 1, 1) := dc_27 (byA eNcX10_age (p := 1) (v := 27) (by decide +kernel))
theorem dX10_age_2 : decode cX10_age 2 = .ok (.invokevirtual 288, 3) := dc_182 (byA eNcX10_age (p := 2) (v := 182) (by decide +kernel)) (byA eNcX10_age (p := 3) (v := 1) (by decide +kernel)) (byA eNcX10_age (p := 4) (v := 32) (by decide +kernel)) rfl
theorem dX10_age_5 : decode cX10_age 5 = .ok (.ifCond .eq 10, 3) := dc_153 (byA eNcX10_age (p := 5) (v := 153) (by decide +kernel)) (byA eNcX10_age (p := 6) (v := 0) (by decide +kernel)) (byA eNcX10_age (p := 7) (v := 10) (by decide +kernel)) (by decide +kernel)
theorem dX10_age_8 : decode cX10_age 8 = .ok (.aload_n 0, 1) := dc_42 (byA eNcX10_age (p := 8) (v := 42) (by decide +kernel))
theorem dX10_age_9 : decode cX10_age 9 = .ok (.invokevirtual 330, 3) := dc_182 (byA eNcX10_age (p := 9) (v := 182) (by decide +kernel)) (byA eNcX10_age (p := 10) (v := 1) (by decide +kernel)) (byA eNcX10_age (p := 11) (v := 74) (by decide +kernel)) rfl
theorem dX10_age_12 : decode cX10_age 12 = .ok (.goto 4, 3) := dc_167 (byA eNcX10_age (p := 12) (v := 167) (by decide +kernel)) (byA eNcX10_age (p := 13) (v := 0) (by decide +kernel)) (byA eNcX10_age (p := 14) (v := 4) (by decide +kernel)) (by decide +kernel)
theorem dX10_age_15 : decode cX10_age 15 = .ok (.iconst (-1), 1) := dc_2 (byA eNcX10_age (p := 15) (v := 2) (by decide +kernel))
theorem dX10_age_16 : decode cX10_age 16 = .ok (.ireturn, 1) := dc_172 (byA eNcX10_age (p := 16) (v := 172) (by decide +kernel))
def X10_age (l1 : Int) (μ : Mm) : Rs := bd (X10_lay l1 μ) fun v1 μ2 => if v1 = 0 then (some ((-1), μ2)) else (bd (X10_ageOfJob μ2) fun v5 μ6 => some (v5, μ6))
set_option maxHeartbeats 4000000 in
set_option maxRecDepth 100000 in
theorem kX10_age (d : Nat) (hd : 272 ≤ d) {l1 : Int} {μ : Mm} {r : Int} {μ' : Mm} (h : X10_age l1 μ = some (r, μ')) : CC d mX10_age [vR 0, vI l1] μ r μ' := by
  unfold X10_age at h
  refine V_enter (by decide) (Nat.le_of_ble_eq_true rfl) ?_
  show VV d mX10_age 0 [some (vR 0), some (vI l1)] [] μ r μ'
  refine V_aload_n (q := 1) dX10_age_0 rfl rfl rfl ?_
  refine V_iload_n (q := 2) dX10_age_1 rfl rfl rfl ?_
  obtain ⟨v1, μ2, hc3, h⟩ := bd_i h
  refine V_cV1 (q := 5) (v := vI v1) (kX10_lay (d - 1) (by omega) hc3) (by omega) mv_X10_288 rfl rfl rfl rfl rfl rfl dX10_age_2 rfl ?_
  refine V_ifeq (q := 15) (q2 := 8) dX10_age_5 (by decide) rfl (fun hc4 => ?_) (fun hc4 => ?_)
  · have h := ifT hc4 h
    refine V_iconst (q := 16) dX10_age_15 rfl rfl ?_
    exact V_iret rfl h dX10_age_16
  · have h := ifF hc4 h
    refine V_aload_n (q := 9) dX10_age_8 rfl rfl rfl ?_
    obtain ⟨v5, μ6, hc7, h⟩ := bd_i h
    refine V_cV1 (q := 12) (v := vI v5) (kX10_ageOfJob (d - 1) (by omega) hc7) (by omega) mv_X10_330 rfl rfl rfl rfl rfl rfl dX10_age_9 rfl ?_
    refine V_goto (q := 16) dX10_age_12 (by decide) ?_
    exact V_iret rfl h dX10_age_16
abbrev mX10_first : Mth := (yX10_first, cX10_first, 5, some .int)
set_option maxRecDepth 100000 in
theorem mi_X10_first : Cond.instanceMethod yX10_first ∈ tG ∧ Cond.selects yX10_first.cls yX10_first yX10_first ∈ tG ∧ Cond.initialized yX10_first.cls ∈ tG ∧ Cond.code yX10_first cX10_first 5 (some .int) ∈ tG ∧ (yX10_first.cls ≠ "java/lang/invoke/MethodHandle" ∧ yX10_first.cls ≠ "java/lang/invoke/VarHandle" ∧ (parseMethodDescriptor yX10_first.desc).map (fun d => d.parameters.length) = some 0) ∧ 5 ≤ 60 := ⟨(tG_of (tb4 (List.mem_of_getElem? (i := 142) rfl)) (by decide +kernel)), (tG_of (tb4 (List.mem_of_getElem? (i := 143) rfl)) (by decide +kernel)), (tG_of (tb1 (List.mem_of_getElem? (i := 1) rfl)) (by decide +kernel)), (tG_of (tb4 (List.mem_of_getElem? (i := 144) rfl)) (by decide +kernel)), ⟨by decide, by decide, by decide +kernel⟩, by decide⟩
theorem dX10_first_0 : decode cX10_first 0 = .ok (.iconst (-1), 1) := dc_2 (byA eNcX10_first (p := 0) (v := 2) (by decide +kernel))
theorem dX10_first_1 : decode cX10_first 1 = .ok (.istore_n 1, 1) := dc_60 (byA eNcX10_first (p := 1) (v := 60) (by decide +kernel))
theorem dX10_first_2 : decode cX10_first 2 = .ok (.bipush 10, 2) := dc_16 (byA eNcX10_first (p := 2) (v := 16) (by decide +kernel)) (byA eNcX10_first (p := 3) (v := 10) (by decide +kernel)) (by decide +kernel)
theorem dX10_first_4 : decode cX10_first 4 = .ok (.istore_n 2, 1) := dc_61 (byA eNcX10_first (p := 4) (v := 61) (by decide +kernel))
theorem dX10_first_5 : decode cX10_first 5 = .ok (.iconst 0, 1) := dc_3 (byA eNcX10_first (p := 5) (v := 3) (by decide +kernel))
theorem dX10_first_6 : decode cX10_first 6 = .ok (.istore_n 3, 1) := dc_62 (byA eNcX10_first (p := 6) (v := 62) (by decide +kernel))
theorem dX10_first_7 : decode cX10_first 7 = .ok (.iload_n 3, 1) := dc_29 (byA eNcX10_first (p := 7) (v := 29) (by decide +kernel))
theorem dX10_first_8 : decode cX10_first 8 = .ok (.aload_n 0, 1) := dc_42 (byA eNcX10_first (p := 8) (v := 42) (by decide +kernel))
theorem dX10_first_9 : decode cX10_first 9 = .ok (.getfield 159, 3) := dc_180 (byA eNcX10_first (p := 9) (v := 180) (by decide +kernel)) (byA eNcX10_first (p := 10) (v := 0) (by decide +kernel)) (byA eNcX10_first (p := 11) (v := 159) (by decide +kernel)) rfl
theorem dX10_first_12 : decode cX10_first 12 = .ok (.if_icmp .ge 44, 3) := dc_162 (byA eNcX10_first (p := 12) (v := 162) (by decide +kernel)) (byA eNcX10_first (p := 13) (v := 0) (by decide +kernel)) (byA eNcX10_first (p := 14) (v := 44) (by decide +kernel)) (by decide +kernel)
theorem dX10_first_15 : decode cX10_first 15 = .ok (.aload_n 0, 1) := dc_42 (byA eNcX10_first (p := 15) (v := 42) (by decide +kernel))
theorem dX10_first_16 : decode cX10_first 16 = .ok (.iload_n 3, 1) := dc_29 (byA eNcX10_first (p := 16) (v := 29) (by decide +kernel))
theorem dX10_first_17 : decode cX10_first 17 = .ok (.invokevirtual 288, 3) := dc_182 (byA eNcX10_first (p := 17) (v := 182) (by decide +kernel)) (byA eNcX10_first (p := 18) (v := 1) (by decide +kernel)) (byA eNcX10_first (p := 19) (v := 32) (by decide +kernel)) rfl
theorem dX10_first_20 : decode cX10_first 20 = .ok (.ifCond .eq 10, 3) := dc_153 (byA eNcX10_first (p := 20) (v := 153) (by decide +kernel)) (byA eNcX10_first (p := 21) (v := 0) (by decide +kernel)) (byA eNcX10_first (p := 22) (v := 10) (by decide +kernel)) (by decide +kernel)
theorem dX10_first_23 : decode cX10_first 23 = .ok (.aload_n 0, 1) := dc_42 (byA eNcX10_first (p := 23) (v := 42) (by decide +kernel))
theorem dX10_first_24 : decode cX10_first 24 = .ok (.invokevirtual 330, 3) := dc_182 (byA eNcX10_first (p := 24) (v := 182) (by decide +kernel)) (byA eNcX10_first (p := 25) (v := 1) (by decide +kernel)) (byA eNcX10_first (p := 26) (v := 74) (by decide +kernel)) rfl
theorem dX10_first_27 : decode cX10_first 27 = .ok (.goto 4, 3) := dc_167 (byA eNcX10_first (p := 27) (v := 167) (by decide +kernel)) (byA eNcX10_first (p := 28) (v := 0) (by decide +kernel)) (byA eNcX10_first (p := 29) (v := 4) (by decide +kernel)) (by decide +kernel)
theorem dX10_first_30 : decode cX10_first 30 = .ok (.iconst (-1), 1) := dc_2 (byA eNcX10_first (p := 30) (v := 2) (by decide +kernel))
theorem dX10_first_31 : decode cX10_first 31 = .ok (.istore 4, 2) := dc_54 (byA eNcX10_first (p := 31) (v := 54) (by decide +kernel)) (byA eNcX10_first (p := 32) (v := 4) (by decide +kernel))
theorem dX10_first_33 : decode cX10_first 33 = .ok (.iload 4, 2) := dc_21 (byA eNcX10_first (p := 33) (v := 21) (by decide +kernel)) (byA eNcX10_first (p := 34) (v := 4) (by decide +kernel))
theorem dX10_first_35 : decode cX10_first 35 = .ok (.iconst (-1), 1) := dc_2 (byA eNcX10_first (p := 35) (v := 2) (by decide +kernel))
theorem dX10_first_36 : decode cX10_first 36 = .ok (.if_icmp .eq 14, 3) := dc_159 (byA eNcX10_first (p := 36) (v := 159) (by decide +kernel)) (byA eNcX10_first (p := 37) (v := 0) (by decide +kernel)) (byA eNcX10_first (p := 38) (v := 14) (by decide +kernel)) (by decide +kernel)
theorem dX10_first_39 : decode cX10_first 39 = .ok (.iload 4, 2) := dc_21 (byA eNcX10_first (p := 39) (v := 21) (by decide +kernel)) (byA eNcX10_first (p := 40) (v := 4) (by decide +kernel))
theorem dX10_first_41 : decode cX10_first 41 = .ok (.iload_n 2, 1) := dc_28 (byA eNcX10_first (p := 41) (v := 28) (by decide +kernel))
theorem dX10_first_42 : decode cX10_first 42 = .ok (.if_icmp .ge 8, 3) := dc_162 (byA eNcX10_first (p := 42) (v := 162) (by decide +kernel)) (byA eNcX10_first (p := 43) (v := 0) (by decide +kernel)) (byA eNcX10_first (p := 44) (v := 8) (by decide +kernel)) (by decide +kernel)
theorem dX10_first_45 : decode cX10_first 45 = .ok (.iload 4, 2) := dc_21 (byA eNcX10_first (p := 45) (v := 21) (by decide +kernel)) (byA eNcX10_first (p := 46) (v := 4) (by decide +kernel))
theorem dX10_first_47 : decode cX10_first 47 = .ok (.istore_n 2, 1) := dc_61 (byA eNcX10_first (p := 47) (v := 61) (by decide +kernel))
theorem dX10_first_48 : decode cX10_first 48 = .ok (.iload_n 3, 1) := dc_29 (byA eNcX10_first (p := 48) (v := 29) (by decide +kernel))
theorem dX10_first_49 : decode cX10_first 49 = .ok (.istore_n 1, 1) := dc_60 (byA eNcX10_first (p := 49) (v := 60) (by decide +kernel))
theorem dX10_first_50 : decode cX10_first 50 = .ok (.iinc 3 1, 3) := dc_132 (byA eNcX10_first (p := 50) (v := 132) (by decide +kernel)) (byA eNcX10_first (p := 51) (v := 3) (by decide +kernel)) (byA eNcX10_first (p := 52) (v := 1) (by decide +kernel)) (by decide +kernel)
theorem dX10_first_53 : decode cX10_first 53 = .ok (.goto (-46), 3) := dc_167 (byA eNcX10_first (p := 53) (v := 167) (by decide +kernel)) (byA eNcX10_first (p := 54) (v := 255) (by decide +kernel)) (byA eNcX10_first (p := 55) (v := 210) (by decide +kernel)) (by decide +kernel)
theorem dX10_first_56 : decode cX10_first 56 = .ok (.iload_n 1, 1) := dc_27 (byA eNcX10_first (p := 56) (v := 27) (by decide +kernel))
theorem dX10_first_57 : decode cX10_first 57 = .ok (.ireturn, 1) := dc_172 (byA eNcX10_first (p := 57) (v := 172) (by decide +kernel))
def X10_first_J31 (k7 : Int → Int → Int → Mm → Rs) (l1 : Int) (l2 : Int) (l3 : Int) (s0 : Int) (μ : Mm) : Rs := if s0 = (-1) then (k7 l1 l2 (iA l3 1) μ) else (if l2 ≤ s0 then (k7 l1 l2 (iA l3 1) μ) else (k7 l3 s0 (iA l3 1) μ))
def X10_first_L7 : Nat → Int → Int → Int → Mm → Rs
  | 0, _, _, _, _ => none
  | n + 1, l1, l2, l3, μ => if (μ 0 15) ≤ l3 then (some (l1, μ)) else (bd (X10_lay l3 μ) fun v2 μ3 => if v2 = 0 then (X10_first_J31 (fun w1 w2 w3 μq => X10_first_L7 n w1 w2 w3 μq) l1 l2 l3 (-1) μ3) else (bd (X10_ageOfJob μ3) fun v8 μ9 => X10_first_J31 (fun w1 w2 w3 μq => X10_first_L7 n w1 w2 w3 μq) l1 l2 l3 v8 μ9))
def X10_first (μ : Mm) : Rs := X10_first_L7 FU (-1) 10 0 μ
set_option maxHeartbeats 4000000 in
set_option maxRecDepth 100000 in
theorem kX10_first_J31 (d : Nat) (hd : 272 ≤ d) {k7 : Int → Int → Int → Mm → Rs} {l1 : Int} {l2 : Int} {l3 : Int} {s0 : Int} {μ : Mm} {r : Int} {μ' : Mm} (hk_7 : ∀ (v1 v2 v3 : Int) (μ1 : Mm), k7 v1 v2 v3 μ1 = some (r, μ') → VV d mX10_first 7 [some (vR 0), some (vI v1), some (vI v2), some (vI v3), none] [] μ1 r μ') (h : X10_first_J31 k7 l1 l2 l3 s0 μ = some (r, μ')) : VV d mX10_first 31 [some (vR 0), some (vI l1), some (vI l2), some (vI l3), none] [vI s0] μ r μ' := by
  unfold X10_first_J31 at h
  refine V_istore (q := 33) dX10_first_31 (Nat.le_of_ble_eq_true rfl) trivial rfl ?_
  refine V_iload (q := 35) dX10_first_33 rfl rfl ?_
  refine V_iconst (q := 36) dX10_first_35 rfl rfl ?_
  refine V_icmpeq (q := 50) (q2 := 39) dX10_first_36 (by decide) rfl (fun hc6 => ?_) (fun hc6 => ?_)
  · have h := ifT hc6 h
    refine V_iinc (q := 53) dX10_first_50 rfl (Nat.le_of_ble_eq_true rfl) trivial rfl ?_
    refine V_goto (q := 7) dX10_first_53 (by decide) ?_
    exact V_weak (hk_7 _ _ _ _ h) (sb_s rfl (sb_s rfl (sb_s rfl (sb_s rfl (sb_n sb_0)))))
  · have h := ifF hc6 h
    refine V_iload (q := 41) dX10_first_39 rfl rfl ?_
    refine V_iload_n (q := 42) dX10_first_41 rfl rfl rfl ?_
    refine V_icmpge (q := 50) (q2 := 45) dX10_first_42 (by decide) rfl (fun hc7 => ?_) (fun hc7 => ?_)
    · have h := ifT hc7 h
      refine V_iinc (q := 53) dX10_first_50 rfl (Nat.le_of_ble_eq_true rfl) trivial rfl ?_
      refine V_goto (q := 7) dX10_first_53 (by decide) ?_
      exact V_weak (hk_7 _ _ _ _ h) (sb_s rfl (sb_s rfl (sb_s rfl (sb_s rfl (sb_n sb_0)))))
    · have h := ifF hc7 h
      refine V_iload (q := 47) dX10_first_45 rfl rfl ?_
      refine V_istore_n (q := 48) dX10_first_47 rfl (Nat.le_of_ble_eq_true rfl) trivial rfl ?_
      refine V_iload_n (q := 49) dX10_first_48 rfl rfl rfl ?_
      refine V_istore_n (q := 50) dX10_first_49 rfl (Nat.le_of_ble_eq_true rfl) trivial rfl ?_
      refine V_iinc (q := 53) dX10_first_50 rfl (Nat.le_of_ble_eq_true rfl) trivial rfl ?_
      refine V_goto (q := 7) dX10_first_53 (by decide) ?_
      exact V_weak (hk_7 _ _ _ _ h) (sb_s rfl (sb_s rfl (sb_s rfl (sb_s rfl (sb_n sb_0)))))
set_option maxHeartbeats 4000000 in
set_option maxRecDepth 100000 in
theorem kX10_first_L7 (d : Nat) (hd : 272 ≤ d) {r : Int} {μ' : Mm} : ∀ (n : Nat) {l1 l2 l3 : Int} {μ : Mm}, X10_first_L7 n l1 l2 l3 μ = some (r, μ') → VV d mX10_first 7 [some (vR 0), some (vI l1), some (vI l2), some (vI l3), none] [] μ r μ' := by
  intro n
  induction n with
  | zero => intro l1 l2 l3 μ h; rw [X10_first_L7] at h; cases h
  | succ n ih =>
    intro l1 l2 l3 μ h
    rw [X10_first_L7] at h
    refine V_iload_n (q := 8) dX10_first_7 rfl rfl rfl ?_
    refine V_aload_n (q := 9) dX10_first_8 rfl rfl rfl ?_
    refine V_getI (q := 12) fl_X10_159 rfl rfl rfl dX10_first_9 rfl ?_
    refine V_icmpge (q := 56) (q2 := 15) dX10_first_12 (by decide) rfl (fun hc1 => ?_) (fun hc1 => ?_)
    · have h := ifT hc1 h
      refine V_iload_n (q := 57) dX10_first_56 rfl rfl rfl ?_
      exact V_iret rfl h dX10_first_57
    · have h := ifF hc1 h
      refine V_aload_n (q := 16) dX10_first_15 rfl rfl rfl ?_
      refine V_iload_n (q := 17) dX10_first_16 rfl rfl rfl ?_
      obtain ⟨v2, μ3, hc4, h⟩ := bd_i h
      refine V_cV1 (q := 20) (v := vI v2) (kX10_lay (d - 1) (by omega) hc4) (by omega) mv_X10_288 rfl rfl rfl rfl rfl rfl dX10_first_17 rfl ?_
      refine V_ifeq (q := 30) (q2 := 23) dX10_first_20 (by decide) rfl (fun hc5 => ?_) (fun hc5 => ?_)
      · have h := ifT hc5 h
        refine V_iconst (q := 31) dX10_first_30 rfl rfl ?_
        exact V_weak (kX10_first_J31 d hd (fun _ _ _ _ h => ih h) h) (sb_s rfl (sb_s rfl (sb_s rfl (sb_s rfl (sb_n sb_0)))))
      · have h := ifF hc5 h
        refine V_aload_n (q := 24) dX10_first_23 rfl rfl rfl ?_
        obtain ⟨v8, μ9, hc10, h⟩ := bd_i h
        refine V_cV1 (q := 27) (v := vI v8) (kX10_ageOfJob (d - 1) (by omega) hc10) (by omega) mv_X10_330 rfl rfl rfl rfl rfl rfl dX10_first_24 rfl ?_
        refine V_goto (q := 31) dX10_first_27 (by decide) ?_
        exact V_weak (kX10_first_J31 d hd (fun _ _ _ _ h => ih h) h) (sb_s rfl (sb_s rfl (sb_s rfl (sb_s rfl (sb_n sb_0)))))
set_option maxHeartbeats 4000000 in
set_option maxRecDepth 100000 in
theorem kX10_first (d : Nat) (hd : 272 ≤ d) {μ : Mm} {r : Int} {μ' : Mm} (h : X10_first μ = some (r, μ')) : CC d mX10_first [vR 0] μ r μ' := by
  unfold X10_first at h
  refine V_enter (by decide) (Nat.le_of_ble_eq_true rfl) ?_
  show VV d mX10_first 0 [some (vR 0), none, none, none, none] [] μ r μ'
  refine V_iconst (q := 1) dX10_first_0 rfl rfl ?_
  refine V_istore_n (q := 2) dX10_first_1 rfl (Nat.le_of_ble_eq_true rfl) trivial rfl ?_
  refine V_bipush (q := 4) dX10_first_2 rfl rfl rfl ?_
  refine V_istore_n (q := 5) dX10_first_4 rfl (Nat.le_of_ble_eq_true rfl) trivial rfl ?_
  refine V_iconst (q := 6) dX10_first_5 rfl rfl ?_
  refine V_istore_n (q := 7) dX10_first_6 rfl (Nat.le_of_ble_eq_true rfl) trivial rfl ?_
  exact V_weak (kX10_first_L7 d hd  FU h) (sb_s rfl (sb_s rfl (sb_s rfl (sb_s rfl (sb_n sb_0)))))
abbrev mX10_leastInTrial : Mth := (yX10_leastInTrial, cX10_leastInTrial, 2, some .int)
set_option maxRecDepth 100000 in
theorem mi_X10_leastInTrial : Cond.instanceMethod yX10_leastInTrial ∈ tG ∧ Cond.selects yX10_leastInTrial.cls yX10_leastInTrial yX10_leastInTrial ∈ tG ∧ Cond.initialized yX10_leastInTrial.cls ∈ tG ∧ Cond.code yX10_leastInTrial cX10_leastInTrial 2 (some .int) ∈ tG ∧ (yX10_leastInTrial.cls ≠ "java/lang/invoke/MethodHandle" ∧ yX10_leastInTrial.cls ≠ "java/lang/invoke/VarHandle" ∧ (parseMethodDescriptor yX10_leastInTrial.desc).map (fun d => d.parameters.length) = some 1) ∧ 2 ≤ 60 := ⟨(tG_of (tb4 (List.mem_of_getElem? (i := 151) rfl)) (by decide +kernel)), (tG_of (List.mem_of_getElem? (i := 35) (by decide +kernel)) (by decide +kernel)), (tG_of (tb1 (List.mem_of_getElem? (i := 1) rfl)) (by decide +kernel)), (tG_of (tb4 (List.mem_of_getElem? (i := 152) rfl)) (by decide +kernel)), ⟨by decide, by decide, by decide +kernel⟩, by decide⟩
set_option maxRecDepth 100000 in
theorem mv_X10_334 : mV RX10 334 mX10_leastInTrial 1 := ⟨(tG_of (tb4 (List.mem_of_getElem? (i := 149) rfl)) (by decide +kernel)), mi_X10_leastInTrial⟩
theorem dX10_leastInTrial_0 : decode cX10_leastInTrial 0 = .ok (.aload_n 0, 1) := dc_42 (byA eNcX10_leastInTrial (p := 0) (v := 42) (by decide +kernel))
theorem dX10_leastInTrial_1 : decode cX10_leastInTrial 1 = .ok (.getfield 74, 3) := dc_180 (byA eNcX10_leastInTrial (p := 1) (v := 180) (by decide +kernel)) (byA eNcX10_leastInTrial (p := 2) (v := 0) (by decide +kernel)) (byA eNcX10_leastInTrial (p := 3) (v := 74) (by decide +kernel)) rfl
theorem dX10_leastInTrial_4 : decode cX10_leastInTrial 4 = .ok (.aload_n 0, 1) := dc_42 (byA eNcX10_leastInTrial (p := 4) (v := 42) (by decide +kernel))
theorem dX10_leastInTrial_5 : decode cX10_leastInTrial 5 = .ok (.getfield 44, 3) := dc_180 (byA eNcX10_leastInTrial (p := 5) (v := 180) (by decide +kernel)) (byA eNcX10_leastInTrial (p := 6) (v := 0) (by decide +kernel)) (byA eNcX10_leastInTrial (p := 7) (v := 44) (by decide +kernel)) rfl
theorem dX10_leastInTrial_8 : decode cX10_leastInTrial 8 = .ok (.aload_n 0, 1) := dc_42 (byA eNcX10_leastInTrial (p := 8) (v := 42) (by decide +kernel))
theorem dX10_leastInTrial_9 : decode cX10_leastInTrial 9 = .ok (.getfield 49, 3) := dc_180 (byA eNcX10_leastInTrial (p := 9) (v := 180) (by decide +kernel)) (byA eNcX10_leastInTrial (p := 10) (v := 0) (by decide +kernel)) (byA eNcX10_leastInTrial (p := 11) (v := 49) (by decide +kernel)) rfl
theorem dX10_leastInTrial_12 : decode cX10_leastInTrial 12 = .ok (.iload_n 1, 1) := dc_27 (byA eNcX10_leastInTrial (p := 12) (v := 27) (by decide +kernel))
theorem dX10_leastInTrial_13 : decode cX10_leastInTrial 13 = .ok (.aaload, 1) := dc_50 (byA eNcX10_leastInTrial (p := 13) (v := 50) (by decide +kernel))
theorem dX10_leastInTrial_14 : decode cX10_leastInTrial 14 = .ok (.invokevirtual 284, 3) := dc_182 (byA eNcX10_leastInTrial (p := 14) (v := 182) (by decide +kernel)) (byA eNcX10_leastInTrial (p := 15) (v := 1) (by decide +kernel)) (byA eNcX10_leastInTrial (p := 16) (v := 28) (by decide +kernel)) rfl
theorem dX10_leastInTrial_17 : decode cX10_leastInTrial 17 = .ok (.aload_n 0, 1) := dc_42 (byA eNcX10_leastInTrial (p := 17) (v := 42) (by decide +kernel))
theorem dX10_leastInTrial_18 : decode cX10_leastInTrial 18 = .ok (.invokevirtual 344, 3) := dc_182 (byA eNcX10_leastInTrial (p := 18) (v := 182) (by decide +kernel)) (byA eNcX10_leastInTrial (p := 19) (v := 1) (by decide +kernel)) (byA eNcX10_leastInTrial (p := 20) (v := 88) (by decide +kernel)) rfl
theorem dX10_leastInTrial_21 : decode cX10_leastInTrial 21 = .ok (.ireturn, 1) := dc_172 (byA eNcX10_leastInTrial (p := 21) (v := 172) (by decide +kernel))
def X10_leastInTrial (l1 : Int) (μ : Mm) : Rs := aL 17 l1 fun v1 => bd (X1_prepare 48 13 v1 μ) fun v3 μ4 => bd (X10_leastLates μ4) fun v6 μ7 => some (v6, μ7)
set_option maxHeartbeats 4000000 in
set_option maxRecDepth 100000 in
theorem kX10_leastInTrial (d : Nat) (hd : 137 ≤ d) {l1 : Int} {μ : Mm} {r : Int} {μ' : Mm} (h : X10_leastInTrial l1 μ = some (r, μ')) : CC d mX10_leastInTrial [vR 0, vI l1] μ r μ' := by
  unfold X10_leastInTrial at h
  refine V_enter (by decide) (Nat.le_of_ble_eq_true rfl) ?_
  show VV d mX10_leastInTrial 0 [some (vR 0), some (vI l1)] [] μ r μ'
  refine V_aload_n (q := 1) dX10_leastInTrial_0 rfl rfl rfl ?_
  refine V_getO (q := 4) (t := 48) fl_X10_74 rfl rfl rfl rfl dX10_leastInTrial_1 rfl ?_
  refine V_aload_n (q := 5) dX10_leastInTrial_4 rfl rfl rfl ?_
  refine V_getO (q := 8) (t := 13) fl_X10_44 rfl rfl rfl rfl dX10_leastInTrial_5 rfl ?_
  refine V_aload_n (q := 9) dX10_leastInTrial_8 rfl rfl rfl ?_
  refine V_getO (q := 12) (t := 17) fl_X10_49 rfl rfl rfl rfl dX10_leastInTrial_9 rfl ?_
  refine V_iload_n (q := 13) dX10_leastInTrial_12 rfl rfl rfl ?_
  obtain ⟨hi2, h⟩ := aL_i h
  refine V_aaload (q := 14) (c2 := 1) rfl (Or.inl rfl) hi2 dX10_leastInTrial_13 rfl ?_
  obtain ⟨v3, μ4, hc5, h⟩ := bd_i h
  refine V_cV0 (q := 17) (kX1_prepare (d - 1) (by omega) rfl rfl (kA17 hi2) hc5) (by omega) mv_X10_284 rfl rfl rfl rfl rfl rfl dX10_leastInTrial_14 rfl ?_
  refine V_aload_n (q := 18) dX10_leastInTrial_17 rfl rfl rfl ?_
  obtain ⟨v6, μ7, hc8, h⟩ := bd_i h
  refine V_cV1 (q := 21) (v := vI v6) (kX10_leastLates (d - 1) (by omega) hc8) (by omega) mv_X10_344 rfl rfl rfl rfl rfl rfl dX10_leastInTrial_18 rfl ?_
  exact V_iret rfl h dX10_leastInTrial_21
abbrev mX10_post : Mth := (yX10_post, cX10_post, 7, some .int)
set_option maxRecDepth 100000 in
theorem mi_X10_post : Cond.instanceMethod yX10_post ∈ tG ∧ Cond.selects yX10_post.cls yX10_post yX10_post ∈ tG ∧ Cond.initialized yX10_post.cls ∈ tG ∧ Cond.code yX10_post cX10_post 7 (some .int) ∈ tG ∧ (yX10_post.cls ≠ "java/lang/invoke/MethodHandle" ∧ yX10_post.cls ≠ "java/lang/invoke/VarHandle" ∧ (parseMethodDescriptor yX10_post.desc).map (fun d => d.parameters.length) = some 2) ∧ 7 ≤ 60 := ⟨(tG_of (tb4 (List.mem_of_getElem? (i := 146) rfl)) (by decide +kernel)), (tG_of (tb4 (List.mem_of_getElem? (i := 147) rfl)) (by decide +kernel)), (tG_of (tb1 (List.mem_of_getElem? (i := 1) rfl)) (by decide +kernel)), (tG_of (tb4 (List.mem_of_getElem? (i := 148) rfl)) (by decide +kernel)), ⟨by decide, by decide, by decide +kernel⟩, by decide⟩
theorem dX10_post_0 : decode cX10_post 0 = .ok (.iload_n 2, 1) := dc_28 (byA eNcX10_post (p := 0) (v := 28) (by decide +kernel))
theorem dX10_post_1 : decode cX10_post 1 = .ok (.invokestatic 275, 3) := dc_184 (byA eNcX10_post (p := 1) (v := 184) (by decide +kernel)) (byA eNcX10_post (p := 2) (v := 1) (by decide +kernel)) (byA eNcX10_post (p := 3) (v := 19) (by decide +kernel)) rfl
theorem dX10_post_4 : decode cX10_post 4 = .ok (.ifCond .eq 11, 3) := dc_153 (byA eNcX10_post (p := 4) (v := 153) (by decide +kernel)) (byA eNcX10_post (p := 5) (v := 0) (by decide +kernel)) (byA eNcX10_post (p := 6) (v := 11) (by decide +kernel)) (by decide +kernel)
theorem dX10_post_7 : decode cX10_post 7 = .ok (.aload_n 0, 1) := dc_42 (byA eNcX10_post (p := 7) (v := 42) (by decide +kernel))
theorem dX10_post_8 : decode cX10_post 8 = .ok (.iload_n 1, 1) := dc_27 (byA eNcX10_post (p := 8) (v := 27) (by decide +kernel))
theorem dX10_post_9 : decode cX10_post 9 = .ok (.invokevirtual 288, 3) := dc_182 (byA eNcX10_post (p := 9) (v := 182) (by decide +kernel)) (byA eNcX10_post (p := 10) (v := 1) (by decide +kernel)) (byA eNcX10_post (p := 11) (v := 32) (by decide +kernel)) rfl
theorem dX10_post_12 : decode cX10_post 12 = .ok (.ifCond .ne 5, 3) := dc_154 (byA eNcX10_post (p := 12) (v := 154) (by decide +kernel)) (byA eNcX10_post (p := 13) (v := 0) (by decide +kernel)) (byA eNcX10_post (p := 14) (v := 5) (by decide +kernel)) (by decide +kernel)
theorem dX10_post_15 : decode cX10_post 15 = .ok (.iconst (-1), 1) := dc_2 (byA eNcX10_post (p := 15) (v := 2) (by decide +kernel))
theorem dX10_post_16 : decode cX10_post 16 = .ok (.ireturn, 1) := dc_172 (byA eNcX10_post (p := 16) (v := 172) (by decide +kernel))
theorem dX10_post_17 : decode cX10_post 17 = .ok (.iconst (-1), 1) := dc_2 (byA eNcX10_post (p := 17) (v := 2) (by decide +kernel))
theorem dX10_post_18 : decode cX10_post 18 = .ok (.istore_n 3, 1) := dc_62 (byA eNcX10_post (p := 18) (v := 62) (by decide +kernel))
theorem dX10_post_19 : decode cX10_post 19 = .ok (.iconst (-1), 1) := dc_2 (byA eNcX10_post (p := 19) (v := 2) (by decide +kernel))
theorem dX10_post_20 : decode cX10_post 20 = .ok (.istore 4, 2) := dc_54 (byA eNcX10_post (p := 20) (v := 54) (by decide +kernel)) (byA eNcX10_post (p := 21) (v := 4) (by decide +kernel))
theorem dX10_post_22 : decode cX10_post 22 = .ok (.iconst 0, 1) := dc_3 (byA eNcX10_post (p := 22) (v := 3) (by decide +kernel))
theorem dX10_post_23 : decode cX10_post 23 = .ok (.istore 5, 2) := dc_54 (byA eNcX10_post (p := 23) (v := 54) (by decide +kernel)) (byA eNcX10_post (p := 24) (v := 5) (by decide +kernel))
theorem dX10_post_25 : decode cX10_post 25 = .ok (.iload 5, 2) := dc_21 (byA eNcX10_post (p := 25) (v := 21) (by decide +kernel)) (byA eNcX10_post (p := 26) (v := 5) (by decide +kernel))
theorem dX10_post_27 : decode cX10_post 27 = .ok (.bipush 60, 2) := dc_16 (byA eNcX10_post (p := 27) (v := 16) (by decide +kernel)) (byA eNcX10_post (p := 28) (v := 60) (by decide +kernel)) (by decide +kernel)
theorem dX10_post_29 : decode cX10_post 29 = .ok (.if_icmp .ge 69, 3) := dc_162 (byA eNcX10_post (p := 29) (v := 162) (by decide +kernel)) (byA eNcX10_post (p := 30) (v := 0) (by decide +kernel)) (byA eNcX10_post (p := 31) (v := 69) (by decide +kernel)) (by decide +kernel)
theorem dX10_post_32 : decode cX10_post 32 = .ok (.aload_n 0, 1) := dc_42 (byA eNcX10_post (p := 32) (v := 42) (by decide +kernel))
theorem dX10_post_33 : decode cX10_post 33 = .ok (.getfield 44, 3) := dc_180 (byA eNcX10_post (p := 33) (v := 180) (by decide +kernel)) (byA eNcX10_post (p := 34) (v := 0) (by decide +kernel)) (byA eNcX10_post (p := 35) (v := 44) (by decide +kernel)) rfl
theorem dX10_post_36 : decode cX10_post 36 = .ok (.aload_n 0, 1) := dc_42 (byA eNcX10_post (p := 36) (v := 42) (by decide +kernel))
theorem dX10_post_37 : decode cX10_post 37 = .ok (.getfield 37, 3) := dc_180 (byA eNcX10_post (p := 37) (v := 180) (by decide +kernel)) (byA eNcX10_post (p := 38) (v := 0) (by decide +kernel)) (byA eNcX10_post (p := 39) (v := 37) (by decide +kernel)) rfl
theorem dX10_post_40 : decode cX10_post 40 = .ok (.invokevirtual 208, 3) := dc_182 (byA eNcX10_post (p := 40) (v := 182) (by decide +kernel)) (byA eNcX10_post (p := 41) (v := 0) (by decide +kernel)) (byA eNcX10_post (p := 42) (v := 208) (by decide +kernel)) rfl
theorem dX10_post_43 : decode cX10_post 43 = .ok (.aload_n 0, 1) := dc_42 (byA eNcX10_post (p := 43) (v := 42) (by decide +kernel))
theorem dX10_post_44 : decode cX10_post 44 = .ok (.getfield 44, 3) := dc_180 (byA eNcX10_post (p := 44) (v := 180) (by decide +kernel)) (byA eNcX10_post (p := 45) (v := 0) (by decide +kernel)) (byA eNcX10_post (p := 46) (v := 44) (by decide +kernel)) rfl
theorem dX10_post_47 : decode cX10_post 47 = .ok (.iload 5, 2) := dc_21 (byA eNcX10_post (p := 47) (v := 21) (by decide +kernel)) (byA eNcX10_post (p := 48) (v := 5) (by decide +kernel))
theorem dX10_post_49 : decode cX10_post 49 = .ok (.invokevirtual 201, 3) := dc_182 (byA eNcX10_post (p := 49) (v := 182) (by decide +kernel)) (byA eNcX10_post (p := 50) (v := 0) (by decide +kernel)) (byA eNcX10_post (p := 51) (v := 201) (by decide +kernel)) rfl
theorem dX10_post_52 : decode cX10_post 52 = .ok (.ifCond .eq 11, 3) := dc_153 (byA eNcX10_post (p := 52) (v := 153) (by decide +kernel)) (byA eNcX10_post (p := 53) (v := 0) (by decide +kernel)) (byA eNcX10_post (p := 54) (v := 11) (by decide +kernel)) (by decide +kernel)
theorem dX10_post_55 : decode cX10_post 55 = .ok (.aload_n 0, 1) := dc_42 (byA eNcX10_post (p := 55) (v := 42) (by decide +kernel))
theorem dX10_post_56 : decode cX10_post 56 = .ok (.iload_n 1, 1) := dc_27 (byA eNcX10_post (p := 56) (v := 27) (by decide +kernel))
theorem dX10_post_57 : decode cX10_post 57 = .ok (.invokevirtual 334, 3) := dc_182 (byA eNcX10_post (p := 57) (v := 182) (by decide +kernel)) (byA eNcX10_post (p := 58) (v := 1) (by decide +kernel)) (byA eNcX10_post (p := 59) (v := 78) (by decide +kernel)) rfl
theorem dX10_post_60 : decode cX10_post 60 = .ok (.goto 4, 3) := dc_167 (byA eNcX10_post (p := 60) (v := 167) (by decide +kernel)) (byA eNcX10_post (p := 61) (v := 0) (by decide +kernel)) (byA eNcX10_post (p := 62) (v := 4) (by decide +kernel)) (by decide +kernel)
theorem dX10_post_63 : decode cX10_post 63 = .ok (.iconst (-1), 1) := dc_2 (byA eNcX10_post (p := 63) (v := 2) (by decide +kernel))
theorem dX10_post_64 : decode cX10_post 64 = .ok (.istore 6, 2) := dc_54 (byA eNcX10_post (p := 64) (v := 54) (by decide +kernel)) (byA eNcX10_post (p := 65) (v := 6) (by decide +kernel))
theorem dX10_post_66 : decode cX10_post 66 = .ok (.iload 6, 2) := dc_21 (byA eNcX10_post (p := 66) (v := 21) (by decide +kernel)) (byA eNcX10_post (p := 67) (v := 6) (by decide +kernel))
theorem dX10_post_68 : decode cX10_post 68 = .ok (.iconst (-1), 1) := dc_2 (byA eNcX10_post (p := 68) (v := 2) (by decide +kernel))
theorem dX10_post_69 : decode cX10_post 69 = .ok (.if_icmp .eq 23, 3) := dc_159 (byA eNcX10_post (p := 69) (v := 159) (by decide +kernel)) (byA eNcX10_post (p := 70) (v := 0) (by decide +kernel)) (byA eNcX10_post (p := 71) (v := 23) (by decide +kernel)) (by decide +kernel)
theorem dX10_post_72 : decode cX10_post 72 = .ok (.iload 4, 2) := dc_21 (byA eNcX10_post (p := 72) (v := 21) (by decide +kernel)) (byA eNcX10_post (p := 73) (v := 4) (by decide +kernel))
theorem dX10_post_74 : decode cX10_post 74 = .ok (.iconst (-1), 1) := dc_2 (byA eNcX10_post (p := 74) (v := 2) (by decide +kernel))
theorem dX10_post_75 : decode cX10_post 75 = .ok (.if_icmp .eq 10, 3) := dc_159 (byA eNcX10_post (p := 75) (v := 159) (by decide +kernel)) (byA eNcX10_post (p := 76) (v := 0) (by decide +kernel)) (byA eNcX10_post (p := 77) (v := 10) (by decide +kernel)) (by decide +kernel)
theorem dX10_post_78 : decode cX10_post 78 = .ok (.iload 6, 2) := dc_21 (byA eNcX10_post (p := 78) (v := 21) (by decide +kernel)) (byA eNcX10_post (p := 79) (v := 6) (by decide +kernel))
theorem dX10_post_80 : decode cX10_post 80 = .ok (.iload 4, 2) := dc_21 (byA eNcX10_post (p := 80) (v := 21) (by decide +kernel)) (byA eNcX10_post (p := 81) (v := 4) (by decide +kernel))
theorem dX10_post_82 : decode cX10_post 82 = .ok (.if_icmp .ge 10, 3) := dc_162 (byA eNcX10_post (p := 82) (v := 162) (by decide +kernel)) (byA eNcX10_post (p := 83) (v := 0) (by decide +kernel)) (byA eNcX10_post (p := 84) (v := 10) (by decide +kernel)) (by decide +kernel)
theorem dX10_post_85 : decode cX10_post 85 = .ok (.iload 6, 2) := dc_21 (byA eNcX10_post (p := 85) (v := 21) (by decide +kernel)) (byA eNcX10_post (p := 86) (v := 6) (by decide +kernel))
theorem dX10_post_87 : decode cX10_post 87 = .ok (.istore 4, 2) := dc_54 (byA eNcX10_post (p := 87) (v := 54) (by decide +kernel)) (byA eNcX10_post (p := 88) (v := 4) (by decide +kernel))
theorem dX10_post_89 : decode cX10_post 89 = .ok (.iload 5, 2) := dc_21 (byA eNcX10_post (p := 89) (v := 21) (by decide +kernel)) (byA eNcX10_post (p := 90) (v := 5) (by decide +kernel))
theorem dX10_post_91 : decode cX10_post 91 = .ok (.istore_n 3, 1) := dc_62 (byA eNcX10_post (p := 91) (v := 62) (by decide +kernel))
theorem dX10_post_92 : decode cX10_post 92 = .ok (.iinc 5 1, 3) := dc_132 (byA eNcX10_post (p := 92) (v := 132) (by decide +kernel)) (byA eNcX10_post (p := 93) (v := 5) (by decide +kernel)) (byA eNcX10_post (p := 94) (v := 1) (by decide +kernel)) (by decide +kernel)
theorem dX10_post_95 : decode cX10_post 95 = .ok (.goto (-70), 3) := dc_167 (byA eNcX10_post (p := 95) (v := 167) (by decide +kernel)) (byA eNcX10_post (p := 96) (v := 255) (by decide +kernel)) (byA eNcX10_post (p := 97) (v := 186) (by decide +kernel)) (by decide +kernel)
theorem dX10_post_98 : decode cX10_post 98 = .ok (.iload_n 2, 1) := dc_28 (byA eNcX10_post (p := 98) (v := 28) (by decide +kernel))
theorem dX10_post_99 : decode cX10_post 99 = .ok (.ifCond .ne 7, 3) := dc_154 (byA eNcX10_post (p := 99) (v := 154) (by decide +kernel)) (byA eNcX10_post (p := 100) (v := 0) (by decide +kernel)) (byA eNcX10_post (p := 101) (v := 7) (by decide +kernel)) (by decide +kernel)
theorem dX10_post_102 : decode cX10_post 102 = .ok (.iload_n 3, 1) := dc_29 (byA eNcX10_post (p := 102) (v := 29) (by decide +kernel))
theorem dX10_post_103 : decode cX10_post 103 = .ok (.goto 5, 3) := dc_167 (byA eNcX10_post (p := 103) (v := 167) (by decide +kernel)) (byA eNcX10_post (p := 104) (v := 0) (by decide +kernel)) (byA eNcX10_post (p := 105) (v := 5) (by decide +kernel)) (by decide +kernel)
theorem dX10_post_106 : decode cX10_post 106 = .ok (.iload 4, 2) := dc_21 (byA eNcX10_post (p := 106) (v := 21) (by decide +kernel)) (byA eNcX10_post (p := 107) (v := 4) (by decide +kernel))
theorem dX10_post_108 : decode cX10_post 108 = .ok (.ireturn, 1) := dc_172 (byA eNcX10_post (p := 108) (v := 172) (by decide +kernel))
def X10_post_J64 (k25 : Int → Int → Int → Mm → Rs) (l1 : Int) (l2 : Int) (l3 : Int) (l4 : Int) (l5 : Int) (s0 : Int) (μ : Mm) : Rs := if s0 = (-1) then (k25 l3 l4 (iA l5 1) μ) else (if l4 = (-1) then (k25 l5 s0 (iA l5 1) μ) else (if l4 ≤ s0 then (k25 l3 l4 (iA l5 1) μ) else (k25 l5 s0 (iA l5 1) μ)))
def X10_post_L25 (l1 : Int) (l2 : Int) (k98 : Int → Int → Mm → Rs) : Nat → Int → Int → Int → Mm → Rs
  | 0, _, _, _, _ => none
  | n + 1, l3, l4, l5, μ => if 60 ≤ l5 then (k98 l3 l4 μ) else (bd (X0_copy 13 5 μ) fun v10 μ11 => bd (X0_takePost 13 l5 μ11) fun v13 μ14 => if v13 = 0 then (X10_post_J64 (fun w3 w4 w5 μq => X10_post_L25 l1 l2 k98 n w3 w4 w5 μq) l1 l2 l3 l4 l5 (-1) μ14) else (bd (X10_leastInTrial l1 μ14) fun v20 μ21 => X10_post_J64 (fun w3 w4 w5 μq => X10_post_L25 l1 l2 k98 n w3 w4 w5 μq) l1 l2 l3 l4 l5 v20 μ21))
def X10_post (l1 : Int) (l2 : Int) (μ : Mm) : Rs := bd (X10_isHalf l2 μ) fun v1 μ2 => if v1 = 0 then (some ((-1), μ2)) else (bd (X10_lay l1 μ2) fun v5 μ6 => if v5 = 0 then (some ((-1), μ6)) else (X10_post_L25 l1 l2 (fun v23 v24 μ25 => if l2 = 0 then (some (v23, μ25)) else (some (v24, μ25))) FU (-1) (-1) 0 μ6))
set_option maxHeartbeats 4000000 in
set_option maxRecDepth 100000 in
theorem kX10_post_J64 (d : Nat) (hd : 272 ≤ d) {k25 : Int → Int → Int → Mm → Rs} {l1 : Int} {l2 : Int} {l3 : Int} {l4 : Int} {l5 : Int} {s0 : Int} {μ : Mm} {r : Int} {μ' : Mm} (hk_25 : ∀ (v3 v4 v5 : Int) (μ1 : Mm), k25 v3 v4 v5 μ1 = some (r, μ') → VV d mX10_post 25 [some (vR 0), some (vI l1), some (vI l2), some (vI v3), some (vI v4), some (vI v5), none] [] μ1 r μ') (h : X10_post_J64 k25 l1 l2 l3 l4 l5 s0 μ = some (r, μ')) : VV d mX10_post 64 [some (vR 0), some (vI l1), some (vI l2), some (vI l3), some (vI l4), some (vI l5), none] [vI s0] μ r μ' := by
  unfold X10_post_J64 at h
  refine V_istore (q := 66) dX10_post_64 (Nat.le_of_ble_eq_true rfl) trivial rfl ?_
  refine V_iload (q := 68) dX10_post_66 rfl rfl ?_
  refine V_iconst (q := 69) dX10_post_68 rfl rfl ?_
  refine V_icmpeq (q := 92) (q2 := 72) dX10_post_69 (by decide) rfl (fun hc17 => ?_) (fun hc17 => ?_)
  · have h := ifT hc17 h
    refine V_iinc (q := 95) dX10_post_92 rfl (Nat.le_of_ble_eq_true rfl) trivial rfl ?_
    refine V_goto (q := 25) dX10_post_95 (by decide) ?_
    exact V_weak (hk_25 _ _ _ _ h) (sb_s rfl (sb_s rfl (sb_s rfl (sb_s rfl (sb_s rfl (sb_s rfl (sb_n sb_0)))))))
  · have h := ifF hc17 h
    refine V_iload (q := 74) dX10_post_72 rfl rfl ?_
    refine V_iconst (q := 75) dX10_post_74 rfl rfl ?_
    refine V_icmpeq (q := 85) (q2 := 78) dX10_post_75 (by decide) rfl (fun hc18 => ?_) (fun hc18 => ?_)
    · have h := ifT hc18 h
      refine V_iload (q := 87) dX10_post_85 rfl rfl ?_
      refine V_istore (q := 89) dX10_post_87 (Nat.le_of_ble_eq_true rfl) trivial rfl ?_
      refine V_iload (q := 91) dX10_post_89 rfl rfl ?_
      refine V_istore_n (q := 92) dX10_post_91 rfl (Nat.le_of_ble_eq_true rfl) trivial rfl ?_
      refine V_iinc (q := 95) dX10_post_92 rfl (Nat.le_of_ble_eq_true rfl) trivial rfl ?_
      refine V_goto (q := 25) dX10_post_95 (by decide) ?_
      exact V_weak (hk_25 _ _ _ _ h) (sb_s rfl (sb_s rfl (sb_s rfl (sb_s rfl (sb_s rfl (sb_s rfl (sb_n sb_0)))))))
    · have h := ifF hc18 h
      refine V_iload (q := 80) dX10_post_78 rfl rfl ?_
      refine V_iload (q := 82) dX10_post_80 rfl rfl ?_
      refine V_icmpge (q := 92) (q2 := 85) dX10_post_82 (by decide) rfl (fun hc19 => ?_) (fun hc19 => ?_)
      · have h := ifT hc19 h
        refine V_iinc (q := 95) dX10_post_92 rfl (Nat.le_of_ble_eq_true rfl) trivial rfl ?_
        refine V_goto (q := 25) dX10_post_95 (by decide) ?_
        exact V_weak (hk_25 _ _ _ _ h) (sb_s rfl (sb_s rfl (sb_s rfl (sb_s rfl (sb_s rfl (sb_s rfl (sb_n sb_0)))))))
      · have h := ifF hc19 h
        refine V_iload (q := 87) dX10_post_85 rfl rfl ?_
        refine V_istore (q := 89) dX10_post_87 (Nat.le_of_ble_eq_true rfl) trivial rfl ?_
        refine V_iload (q := 91) dX10_post_89 rfl rfl ?_
        refine V_istore_n (q := 92) dX10_post_91 rfl (Nat.le_of_ble_eq_true rfl) trivial rfl ?_
        refine V_iinc (q := 95) dX10_post_92 rfl (Nat.le_of_ble_eq_true rfl) trivial rfl ?_
        refine V_goto (q := 25) dX10_post_95 (by decide) ?_
        exact V_weak (hk_25 _ _ _ _ h) (sb_s rfl (sb_s rfl (sb_s rfl (sb_s rfl (sb_s rfl (sb_s rfl (sb_n sb_0)))))))
set_option maxHeartbeats 4000000 in
set_option maxRecDepth 100000 in
theorem kX10_post_L25 (d : Nat) (hd : 272 ≤ d) {l1 : Int} {l2 : Int} {k98 : Int → Int → Mm → Rs} {r : Int} {μ' : Mm} (hk_98 : ∀ (v3 v4 : Int) (μ1 : Mm), k98 v3 v4 μ1 = some (r, μ') → VV d mX10_post 98 [none, none, some (vI l2), some (vI v3), some (vI v4), none, none] [] μ1 r μ') : ∀ (n : Nat) {l3 l4 l5 : Int} {μ : Mm}, X10_post_L25 l1 l2 k98 n l3 l4 l5 μ = some (r, μ') → VV d mX10_post 25 [some (vR 0), some (vI l1), some (vI l2), some (vI l3), some (vI l4), some (vI l5), none] [] μ r μ' := by
  intro n
  induction n with
  | zero => intro l3 l4 l5 μ h; rw [X10_post_L25] at h; cases h
  | succ n ih =>
    intro l3 l4 l5 μ h
    rw [X10_post_L25] at h
    refine V_iload (q := 27) dX10_post_25 rfl rfl ?_
    refine V_bipush (q := 29) dX10_post_27 rfl rfl rfl ?_
    refine V_icmpge (q := 98) (q2 := 32) dX10_post_29 (by decide) rfl (fun hc9 => ?_) (fun hc9 => ?_)
    · have h := ifT hc9 h
      exact V_weak (hk_98 _ _ _ h) (sb_n (sb_n (sb_s rfl (sb_s rfl (sb_s rfl (sb_n (sb_n sb_0)))))))
    · have h := ifF hc9 h
      refine V_aload_n (q := 33) dX10_post_32 rfl rfl rfl ?_
      refine V_getO (q := 36) (t := 13) fl_X10_44 rfl rfl rfl rfl dX10_post_33 rfl ?_
      refine V_aload_n (q := 37) dX10_post_36 rfl rfl rfl ?_
      refine V_getO (q := 40) (t := 5) fl_X10_37 rfl rfl rfl rfl dX10_post_37 rfl ?_
      obtain ⟨v10, μ11, hc12, h⟩ := bd_i h
      refine V_cV0 (q := 43) (kX0_copy (d - 1) (by omega) rfl rfl hc12) (by omega) mv_X10_208 rfl rfl rfl rfl rfl rfl dX10_post_40 rfl ?_
      refine V_aload_n (q := 44) dX10_post_43 rfl rfl rfl ?_
      refine V_getO (q := 47) (t := 13) fl_X10_44 rfl rfl rfl rfl dX10_post_44 rfl ?_
      refine V_iload (q := 49) dX10_post_47 rfl rfl ?_
      obtain ⟨v13, μ14, hc15, h⟩ := bd_i h
      refine V_cV1 (q := 52) (v := vI v13) (kX0_takePost (d - 1) (by omega) rfl hc15) (by omega) mv_X10_201 rfl rfl rfl rfl rfl rfl dX10_post_49 rfl ?_
      refine V_ifeq (q := 63) (q2 := 55) dX10_post_52 (by decide) rfl (fun hc16 => ?_) (fun hc16 => ?_)
      · have h := ifT hc16 h
        refine V_iconst (q := 64) dX10_post_63 rfl rfl ?_
        exact V_weak (kX10_post_J64 d hd (fun _ _ _ _ h => ih h) h) (sb_s rfl (sb_s rfl (sb_s rfl (sb_s rfl (sb_s rfl (sb_s rfl (sb_n sb_0)))))))
      · have h := ifF hc16 h
        refine V_aload_n (q := 56) dX10_post_55 rfl rfl rfl ?_
        refine V_iload_n (q := 57) dX10_post_56 rfl rfl rfl ?_
        obtain ⟨v20, μ21, hc22, h⟩ := bd_i h
        refine V_cV1 (q := 60) (v := vI v20) (kX10_leastInTrial (d - 1) (by omega) hc22) (by omega) mv_X10_334 rfl rfl rfl rfl rfl rfl dX10_post_57 rfl ?_
        refine V_goto (q := 64) dX10_post_60 (by decide) ?_
        exact V_weak (kX10_post_J64 d hd (fun _ _ _ _ h => ih h) h) (sb_s rfl (sb_s rfl (sb_s rfl (sb_s rfl (sb_s rfl (sb_s rfl (sb_n sb_0)))))))
set_option maxHeartbeats 4000000 in
set_option maxRecDepth 100000 in
theorem kX10_post (d : Nat) (hd : 272 ≤ d) {l1 : Int} {l2 : Int} {μ : Mm} {r : Int} {μ' : Mm} (h : X10_post l1 l2 μ = some (r, μ')) : CC d mX10_post [vR 0, vI l1, vI l2] μ r μ' := by
  unfold X10_post at h
  refine V_enter (by decide) (Nat.le_of_ble_eq_true rfl) ?_
  show VV d mX10_post 0 [some (vR 0), some (vI l1), some (vI l2), none, none, none, none] [] μ r μ'
  refine V_iload_n (q := 1) dX10_post_0 rfl rfl rfl ?_
  obtain ⟨v1, μ2, hc3, h⟩ := bd_i h
  refine V_cS1 (q := 4) (v := vI v1) (kX10_isHalf (d - 1) (by omega) hc3) (by omega) mv_X10_275 rfl rfl rfl rfl dX10_post_1 rfl ?_
  refine V_ifeq (q := 15) (q2 := 7) dX10_post_4 (by decide) rfl (fun hc4 => ?_) (fun hc4 => ?_)
  · have h := ifT hc4 h
    refine V_iconst (q := 16) dX10_post_15 rfl rfl ?_
    exact V_iret rfl h dX10_post_16
  · have h := ifF hc4 h
    refine V_aload_n (q := 8) dX10_post_7 rfl rfl rfl ?_
    refine V_iload_n (q := 9) dX10_post_8 rfl rfl rfl ?_
    obtain ⟨v5, μ6, hc7, h⟩ := bd_i h
    refine V_cV1 (q := 12) (v := vI v5) (kX10_lay (d - 1) (by omega) hc7) (by omega) mv_X10_288 rfl rfl rfl rfl rfl rfl dX10_post_9 rfl ?_
    refine V_ifne (q := 17) (q2 := 15) dX10_post_12 (by decide) rfl (fun hc8 => ?_) (fun hc8 => ?_)
    · have h := ifF hc8 h
      refine V_iconst (q := 18) dX10_post_17 rfl rfl ?_
      refine V_istore_n (q := 19) dX10_post_18 rfl (Nat.le_of_ble_eq_true rfl) trivial rfl ?_
      refine V_iconst (q := 20) dX10_post_19 rfl rfl ?_
      refine V_istore (q := 22) dX10_post_20 (Nat.le_of_ble_eq_true rfl) trivial rfl ?_
      refine V_iconst (q := 23) dX10_post_22 rfl rfl ?_
      refine V_istore (q := 25) dX10_post_23 (Nat.le_of_ble_eq_true rfl) trivial rfl ?_
      refine V_weak (kX10_post_L25 d hd (fun v23 v24 μ25 h => ?_) FU h) (sb_s rfl (sb_s rfl (sb_s rfl (sb_s rfl (sb_s rfl (sb_s rfl (sb_n sb_0)))))))
      refine V_iload_n (q := 99) dX10_post_98 rfl rfl rfl ?_
      refine V_ifne (q := 106) (q2 := 102) dX10_post_99 (by decide) rfl (fun hc26 => ?_) (fun hc26 => ?_)
      · have h := ifF hc26 h
        refine V_iload (q := 108) dX10_post_106 rfl rfl ?_
        exact V_iret rfl h dX10_post_108
      · have h := ifT hc26 h
        refine V_iload_n (q := 103) dX10_post_102 rfl rfl rfl ?_
        refine V_goto (q := 108) dX10_post_103 (by decide) ?_
        exact V_iret rfl h dX10_post_108
    · have h := ifT hc8 h
      refine V_iconst (q := 16) dX10_post_15 rfl rfl ?_
      exact V_iret rfl h dX10_post_16
