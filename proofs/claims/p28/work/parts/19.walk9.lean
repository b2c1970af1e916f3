abbrev mX10_slack : Mth := (yX10_slack, cX10_slack, 6, some .int)
set_option maxRecDepth 100000 in
theorem mi_X10_slack : Cond.instanceMethod yX10_slack ∈ tG ∧ Cond.selects yX10_slack.cls yX10_slack yX10_slack ∈ tG ∧ Cond.initialized yX10_slack.cls ∈ tG ∧ Cond.code yX10_slack cX10_slack 6 (some .int) ∈ tG ∧ (yX10_slack.cls ≠ "java/lang/invoke/MethodHandle" ∧ yX10_slack.cls ≠ "java/lang/invoke/VarHandle" ∧ (parseMethodDescriptor yX10_slack.desc).map (fun d => d.parameters.length) = some 2) ∧ 6 ≤ 60 := ⟨(tG_of (tb4 (List.mem_of_getElem? (i := 196) rfl)) (by decide +kernel)), (tG_of (tb4 (List.mem_of_getElem? (i := 197) rfl)) (by decide +kernel)), (tG_of (tb1 (List.mem_of_getElem? (i := 1) rfl)) (by decide +kernel)), (tG_of (tb4 (List.mem_of_getElem? (i := 198) rfl)) (by decide +kernel)), ⟨by decide, by decide, by decide +kernel⟩, by decide⟩
theorem dX10_slack_0 : decode cX10_slack 0 = .ok (.aload_n 0, 1) := dc_42 (byA eNcX10_slack (p := 0) (v := 42) (by decide +kernel))
theorem dX10_slack_1 : decode cX10_slack 1 = .ok (.iload_n 1, 1) := dc_27 (byA eNcX10_slack (p := 1) (v := 27) (by decide +kernel))
theorem dX10_slack_2 : decode cX10_slack 2 = .ok (.invokevirtual 288, 3) := dc_182 (byA eNcX10_slack (p := 2) (v := 182) (by decide +kernel)) (byA eNcX10_slack (p := 3) (v := 1) (by decide +kernel)) (byA eNcX10_slack (p := 4) (v := 32) (by decide +kernel)) rfl
theorem dX10_slack_5 : decode cX10_slack 5 = .ok (.ifCond .eq 18, 3) := dc_153 (byA eNcX10_slack (p := 5) (v := 153) (by decide +kernel)) (byA eNcX10_slack (p := 6) (v := 0) (by decide +kernel)) (byA eNcX10_slack (p := 7) (v := 18) (by decide +kernel)) (by decide +kernel)
theorem dX10_slack_8 : decode cX10_slack 8 = .ok (.iload_n 2, 1) := dc_28 (byA eNcX10_slack (p := 8) (v := 28) (by decide +kernel))
theorem dX10_slack_9 : decode cX10_slack 9 = .ok (.ifCond .lt 14, 3) := dc_155 (byA eNcX10_slack (p := 9) (v := 155) (by decide +kernel)) (byA eNcX10_slack (p := 10) (v := 0) (by decide +kernel)) (byA eNcX10_slack (p := 11) (v := 14) (by decide +kernel)) (by decide +kernel)
theorem dX10_slack_12 : decode cX10_slack 12 = .ok (.iload_n 2, 1) := dc_28 (byA eNcX10_slack (p := 12) (v := 28) (by decide +kernel))
theorem dX10_slack_13 : decode cX10_slack 13 = .ok (.aload_n 0, 1) := dc_42 (byA eNcX10_slack (p := 13) (v := 42) (by decide +kernel))
theorem dX10_slack_14 : decode cX10_slack 14 = .ok (.getfield 74, 3) := dc_180 (byA eNcX10_slack (p := 14) (v := 180) (by decide +kernel)) (byA eNcX10_slack (p := 15) (v := 0) (by decide +kernel)) (byA eNcX10_slack (p := 16) (v := 74) (by decide +kernel)) rfl
theorem dX10_slack_17 : decode cX10_slack 17 = .ok (.getfield 264, 3) := dc_180 (byA eNcX10_slack (p := 17) (v := 180) (by decide +kernel)) (byA eNcX10_slack (p := 18) (v := 1) (by decide +kernel)) (byA eNcX10_slack (p := 19) (v := 8) (by decide +kernel)) rfl
theorem dX10_slack_20 : decode cX10_slack 20 = .ok (.if_icmp .lt 5, 3) := dc_161 (byA eNcX10_slack (p := 20) (v := 161) (by decide +kernel)) (byA eNcX10_slack (p := 21) (v := 0) (by decide +kernel)) (byA eNcX10_slack (p := 22) (v := 5) (by decide +kernel)) (by decide +kernel)
theorem dX10_slack_23 : decode cX10_slack 23 = .ok (.iconst (-1), 1) := dc_2 (byA eNcX10_slack (p := 23) (v := 2) (by decide +kernel))
theorem dX10_slack_24 : decode cX10_slack 24 = .ok (.ireturn, 1) := dc_172 (byA eNcX10_slack (p := 24) (v := 172) (by decide +kernel))
theorem dX10_slack_25 : decode cX10_slack 25 = .ok (.aload_n 0, 1) := dc_42 (byA eNcX10_slack (p := 25) (v := 42) (by decide +kernel))
theorem dX10_slack_26 : decode cX10_slack 26 = .ok (.aload_n 0, 1) := dc_42 (byA eNcX10_slack (p := 26) (v := 42) (by decide +kernel))
theorem dX10_slack_27 : decode cX10_slack 27 = .ok (.getfield 74, 3) := dc_180 (byA eNcX10_slack (p := 27) (v := 180) (by decide +kernel)) (byA eNcX10_slack (p := 28) (v := 0) (by decide +kernel)) (byA eNcX10_slack (p := 29) (v := 74) (by decide +kernel)) rfl
theorem dX10_slack_30 : decode cX10_slack 30 = .ok (.invokevirtual 316, 3) := dc_182 (byA eNcX10_slack (p := 30) (v := 182) (by decide +kernel)) (byA eNcX10_slack (p := 31) (v := 1) (by decide +kernel)) (byA eNcX10_slack (p := 32) (v := 60) (by decide +kernel)) rfl
theorem dX10_slack_33 : decode cX10_slack 33 = .ok (.invokevirtual 322, 3) := dc_182 (byA eNcX10_slack (p := 33) (v := 182) (by decide +kernel)) (byA eNcX10_slack (p := 34) (v := 1) (by decide +kernel)) (byA eNcX10_slack (p := 35) (v := 66) (by decide +kernel)) rfl
theorem dX10_slack_36 : decode cX10_slack 36 = .ok (.istore_n 3, 1) := dc_62 (byA eNcX10_slack (p := 36) (v := 62) (by decide +kernel))
theorem dX10_slack_37 : decode cX10_slack 37 = .ok (.iload_n 3, 1) := dc_29 (byA eNcX10_slack (p := 37) (v := 29) (by decide +kernel))
theorem dX10_slack_38 : decode cX10_slack 38 = .ok (.iconst (-1), 1) := dc_2 (byA eNcX10_slack (p := 38) (v := 2) (by decide +kernel))
theorem dX10_slack_39 : decode cX10_slack 39 = .ok (.if_icmp .ne 5, 3) := dc_160 (byA eNcX10_slack (p := 39) (v := 160) (by decide +kernel)) (byA eNcX10_slack (p := 40) (v := 0) (by decide +kernel)) (byA eNcX10_slack (p := 41) (v := 5) (by decide +kernel)) (by decide +kernel)
theorem dX10_slack_42 : decode cX10_slack 42 = .ok (.iconst (-1), 1) := dc_2 (byA eNcX10_slack (p := 42) (v := 2) (by decide +kernel))
theorem dX10_slack_43 : decode cX10_slack 43 = .ok (.ireturn, 1) := dc_172 (byA eNcX10_slack (p := 43) (v := 172) (by decide +kernel))
theorem dX10_slack_44 : decode cX10_slack 44 = .ok (.iconst 0, 1) := dc_3 (byA eNcX10_slack (p := 44) (v := 3) (by decide +kernel))
theorem dX10_slack_45 : decode cX10_slack 45 = .ok (.istore 4, 2) := dc_54 (byA eNcX10_slack (p := 45) (v := 54) (by decide +kernel)) (byA eNcX10_slack (p := 46) (v := 4) (by decide +kernel))
theorem dX10_slack_47 : decode cX10_slack 47 = .ok (.iconst 1, 1) := dc_4 (byA eNcX10_slack (p := 47) (v := 4) (by decide +kernel))
theorem dX10_slack_48 : decode cX10_slack 48 = .ok (.istore 5, 2) := dc_54 (byA eNcX10_slack (p := 48) (v := 54) (by decide +kernel)) (byA eNcX10_slack (p := 49) (v := 5) (by decide +kernel))
theorem dX10_slack_50 : decode cX10_slack 50 = .ok (.iload 5, 2) := dc_21 (byA eNcX10_slack (p := 50) (v := 21) (by decide +kernel)) (byA eNcX10_slack (p := 51) (v := 5) (by decide +kernel))
theorem dX10_slack_52 : decode cX10_slack 52 = .ok (.bipush 30, 2) := dc_16 (byA eNcX10_slack (p := 52) (v := 16) (by decide +kernel)) (byA eNcX10_slack (p := 53) (v := 30) (by decide +kernel)) (by decide +kernel)
theorem dX10_slack_54 : decode cX10_slack 54 = .ok (.if_icmp .gt 44, 3) := dc_163 (byA eNcX10_slack (p := 54) (v := 163) (by decide +kernel)) (byA eNcX10_slack (p := 55) (v := 0) (by decide +kernel)) (byA eNcX10_slack (p := 56) (v := 44) (by decide +kernel)) (by decide +kernel)
theorem dX10_slack_57 : decode cX10_slack 57 = .ok (.aload_n 0, 1) := dc_42 (byA eNcX10_slack (p := 57) (v := 42) (by decide +kernel))
theorem dX10_slack_58 : decode cX10_slack 58 = .ok (.getfield 74, 3) := dc_180 (byA eNcX10_slack (p := 58) (v := 180) (by decide +kernel)) (byA eNcX10_slack (p := 59) (v := 0) (by decide +kernel)) (byA eNcX10_slack (p := 60) (v := 74) (by decide +kernel)) rfl
theorem dX10_slack_61 : decode cX10_slack 61 = .ok (.getfield 350, 3) := dc_180 (byA eNcX10_slack (p := 61) (v := 180) (by decide +kernel)) (byA eNcX10_slack (p := 62) (v := 1) (by decide +kernel)) (byA eNcX10_slack (p := 63) (v := 94) (by decide +kernel)) rfl
theorem dX10_slack_64 : decode cX10_slack 64 = .ok (.iload_n 2, 1) := dc_28 (byA eNcX10_slack (p := 64) (v := 28) (by decide +kernel))
theorem dX10_slack_65 : decode cX10_slack 65 = .ok (.dup2, 1) := dc_92 (byA eNcX10_slack (p := 65) (v := 92) (by decide +kernel))
theorem dX10_slack_66 : decode cX10_slack 66 = .ok (.iaload, 1) := dc_46 (byA eNcX10_slack (p := 66) (v := 46) (by decide +kernel))
theorem dX10_slack_67 : decode cX10_slack 67 = .ok (.iconst 1, 1) := dc_4 (byA eNcX10_slack (p := 67) (v := 4) (by decide +kernel))
theorem dX10_slack_68 : decode cX10_slack 68 = .ok (.iadd, 1) := dc_96 (byA eNcX10_slack (p := 68) (v := 96) (by decide +kernel))
theorem dX10_slack_69 : decode cX10_slack 69 = .ok (.iastore, 1) := dc_79 (byA eNcX10_slack (p := 69) (v := 79) (by decide +kernel))
theorem dX10_slack_70 : decode cX10_slack 70 = .ok (.aload_n 0, 1) := dc_42 (byA eNcX10_slack (p := 70) (v := 42) (by decide +kernel))
theorem dX10_slack_71 : decode cX10_slack 71 = .ok (.aload_n 0, 1) := dc_42 (byA eNcX10_slack (p := 71) (v := 42) (by decide +kernel))
theorem dX10_slack_72 : decode cX10_slack 72 = .ok (.getfield 74, 3) := dc_180 (byA eNcX10_slack (p := 72) (v := 180) (by decide +kernel)) (byA eNcX10_slack (p := 73) (v := 0) (by decide +kernel)) (byA eNcX10_slack (p := 74) (v := 74) (by decide +kernel)) rfl
theorem dX10_slack_75 : decode cX10_slack 75 = .ok (.invokevirtual 316, 3) := dc_182 (byA eNcX10_slack (p := 75) (v := 182) (by decide +kernel)) (byA eNcX10_slack (p := 76) (v := 1) (by decide +kernel)) (byA eNcX10_slack (p := 77) (v := 60) (by decide +kernel)) rfl
theorem dX10_slack_78 : decode cX10_slack 78 = .ok (.invokevirtual 322, 3) := dc_182 (byA eNcX10_slack (p := 78) (v := 182) (by decide +kernel)) (byA eNcX10_slack (p := 79) (v := 1) (by decide +kernel)) (byA eNcX10_slack (p := 80) (v := 66) (by decide +kernel)) rfl
theorem dX10_slack_81 : decode cX10_slack 81 = .ok (.iload_n 3, 1) := dc_29 (byA eNcX10_slack (p := 81) (v := 29) (by decide +kernel))
theorem dX10_slack_82 : decode cX10_slack 82 = .ok (.if_icmp .le 6, 3) := dc_164 (byA eNcX10_slack (p := 82) (v := 164) (by decide +kernel)) (byA eNcX10_slack (p := 83) (v := 0) (by decide +kernel)) (byA eNcX10_slack (p := 84) (v := 6) (by decide +kernel)) (by decide +kernel)
theorem dX10_slack_85 : decode cX10_slack 85 = .ok (.goto 13, 3) := dc_167 (byA eNcX10_slack (p := 85) (v := 167) (by decide +kernel)) (byA eNcX10_slack (p := 86) (v := 0) (by decide +kernel)) (byA eNcX10_slack (p := 87) (v := 13) (by decide +kernel)) (by decide +kernel)
theorem dX10_slack_88 : decode cX10_slack 88 = .ok (.iload 5, 2) := dc_21 (byA eNcX10_slack (p := 88) (v := 21) (by decide +kernel)) (byA eNcX10_slack (p := 89) (v := 5) (by decide +kernel))
theorem dX10_slack_90 : decode cX10_slack 90 = .ok (.istore 4, 2) := dc_54 (byA eNcX10_slack (p := 90) (v := 54) (by decide +kernel)) (byA eNcX10_slack (p := 91) (v := 4) (by decide +kernel))
theorem dX10_slack_92 : decode cX10_slack 92 = .ok (.iinc 5 1, 3) := dc_132 (byA eNcX10_slack (p := 92) (v := 132) (by decide +kernel)) (byA eNcX10_slack (p := 93) (v := 5) (by decide +kernel)) (byA eNcX10_slack (p := 94) (v := 1) (by decide +kernel)) (by decide +kernel)
theorem dX10_slack_95 : decode cX10_slack 95 = .ok (.goto (-45), 3) := dc_167 (byA eNcX10_slack (p := 95) (v := 167) (by decide +kernel)) (byA eNcX10_slack (p := 96) (v := 255) (by decide +kernel)) (byA eNcX10_slack (p := 97) (v := 211) (by decide +kernel)) (by decide +kernel)
theorem dX10_slack_98 : decode cX10_slack 98 = .ok (.iload 4, 2) := dc_21 (byA eNcX10_slack (p := 98) (v := 21) (by decide +kernel)) (byA eNcX10_slack (p := 99) (v := 4) (by decide +kernel))
theorem dX10_slack_100 : decode cX10_slack 100 = .ok (.ireturn, 1) := dc_172 (byA eNcX10_slack (p := 100) (v := 172) (by decide +kernel))
def X10_slack_L50 (l2 : Int) (l3 : Int) (k85 : Int → Mm → Rs) : Nat → Int → Int → Mm → Rs
  | 0, _, _, _ => none
  | n + 1, l4, l5, μ => if 30 < l5 then (some (l4, μ)) else (ldA μ 51 l2 fun v15 => stA μ 51 l2 (iA v15 1) fun μ17 => bd (X1_allCues 48 μ17) fun v19 μ20 => bd (X10_latesByBook v19 μ20) fun v22 μ23 => if v22 ≤ l3 then (X10_slack_L50 l2 l3 k85 n l5 (iA l5 1) μ23) else (k85 l4 μ23))
def X10_slack (l1 : Int) (l2 : Int) (μ : Mm) : Rs := bd (X10_lay l1 μ) fun v1 μ2 => if v1 = 0 then (some ((-1), μ2)) else (if l2 < 0 then (some ((-1), μ2)) else (if l2 < (μ2 48 5) then (bd (X1_allCues 48 μ2) fun v7 μ8 => bd (X10_latesByBook v7 μ8) fun v10 μ11 => if v10 = (-1) then (some ((-1), μ11)) else (X10_slack_L50 l2 v10 (fun v26 μ27 => some (v26, μ27)) FU 0 1 μ11)) else (some ((-1), μ2))))
set_option maxHeartbeats 4000000 in
set_option maxRecDepth 100000 in
theorem kX10_slack_L50 (d : Nat) (hd : 272 ≤ d) {l2 : Int} {l3 : Int} {k85 : Int → Mm → Rs} {r : Int} {μ' : Mm} (hk_85 : ∀ (v4 : Int) (μ1 : Mm), k85 v4 μ1 = some (r, μ') → VV d mX10_slack 85 [none, none, none, none, some (vI v4), none] [] μ1 r μ') : ∀ (n : Nat) {l4 l5 : Int} {μ : Mm}, X10_slack_L50 l2 l3 k85 n l4 l5 μ = some (r, μ') → VV d mX10_slack 50 [some (vR 0), none, some (vI l2), some (vI l3), some (vI l4), some (vI l5)] [] μ r μ' := by
  intro n
  induction n with
  | zero => intro l4 l5 μ h; rw [X10_slack_L50] at h; cases h
  | succ n ih =>
    intro l4 l5 μ h
    rw [X10_slack_L50] at h
    refine V_iload (q := 52) dX10_slack_50 rfl rfl ?_
    refine V_bipush (q := 54) dX10_slack_52 rfl rfl rfl ?_
    refine V_icmpgt (q := 98) (q2 := 57) dX10_slack_54 (by decide) rfl (fun hc14 => ?_) (fun hc14 => ?_)
    · have h := ifT hc14 h
      refine V_iload (q := 100) dX10_slack_98 rfl rfl ?_
      exact V_iret rfl h dX10_slack_100
    · have h := ifF hc14 h
      refine V_aload_n (q := 58) dX10_slack_57 rfl rfl rfl ?_
      refine V_getO (q := 61) (t := 48) fl_X10_74 rfl rfl rfl rfl dX10_slack_58 rfl ?_
      refine V_getO (q := 64) (t := 51) fl_X10_350 rfl rfl rfl rfl dX10_slack_61 rfl ?_
      refine V_iload_n (q := 65) dX10_slack_64 rfl rfl rfl ?_
      refine V_dup2 (q := 66) dX10_slack_65 trivial trivial rfl ?_
      obtain ⟨hi16, h⟩ := ldA_i h
      refine V_iaload (q := 67) rfl hi16 dX10_slack_66 rfl ?_
      refine V_iconst (q := 68) dX10_slack_67 rfl rfl ?_
      refine V_iadd (q := 69) dX10_slack_68 rfl ?_
      obtain ⟨hi18, h⟩ := stA_i h
      refine V_iastore (q := 70) rfl hi18 dX10_slack_69 rfl ?_
      refine V_aload_n (q := 71) dX10_slack_70 rfl rfl rfl ?_
      refine V_aload_n (q := 72) dX10_slack_71 rfl rfl rfl ?_
      refine V_getO (q := 75) (t := 48) fl_X10_74 rfl rfl rfl rfl dX10_slack_72 rfl ?_
      obtain ⟨v19, μ20, hc21, h⟩ := bd_i h
      refine V_cV1 (q := 78) (v := vI v19) (kX1_allCues (d - 1) (by omega) rfl hc21) (by omega) mv_X10_316 rfl rfl rfl rfl rfl rfl dX10_slack_75 rfl ?_
      obtain ⟨v22, μ23, hc24, h⟩ := bd_i h
      refine V_cV1 (q := 81) (v := vI v22) (kX10_latesByBook (d - 1) (by omega) hc24) (by omega) mv_X10_322 rfl rfl rfl rfl rfl rfl dX10_slack_78 rfl ?_
      refine V_iload_n (q := 82) dX10_slack_81 rfl rfl rfl ?_
      refine V_icmple (q := 88) (q2 := 85) dX10_slack_82 (by decide) rfl (fun hc25 => ?_) (fun hc25 => ?_)
      · have h := ifT hc25 h
        refine V_iload (q := 90) dX10_slack_88 rfl rfl ?_
        refine V_istore (q := 92) dX10_slack_90 (Nat.le_of_ble_eq_true rfl) trivial rfl ?_
        refine V_iinc (q := 95) dX10_slack_92 rfl (Nat.le_of_ble_eq_true rfl) trivial rfl ?_
        refine V_goto (q := 50) dX10_slack_95 (by decide) ?_
        exact V_weak (ih h) (sb_s rfl (sb_n (sb_s rfl (sb_s rfl (sb_s rfl (sb_s rfl sb_0))))))
      · have h := ifF hc25 h
        exact V_weak (hk_85 _ _ h) (sb_n (sb_n (sb_n (sb_n (sb_s rfl (sb_n sb_0))))))
set_option maxHeartbeats 4000000 in
set_option maxRecDepth 100000 in
theorem kX10_slack (d : Nat) (hd : 272 ≤ d) {l1 : Int} {l2 : Int} {μ : Mm} {r : Int} {μ' : Mm} (h : X10_slack l1 l2 μ = some (r, μ')) : CC d mX10_slack [vR 0, vI l1, vI l2] μ r μ' := by
  unfold X10_slack at h
  refine V_enter (by decide) (Nat.le_of_ble_eq_true rfl) ?_
  show VV d mX10_slack 0 [some (vR 0), some (vI l1), some (vI l2), none, none, none] [] μ r μ'
  refine V_aload_n (q := 1) dX10_slack_0 rfl rfl rfl ?_
  refine V_iload_n (q := 2) dX10_slack_1 rfl rfl rfl ?_
  obtain ⟨v1, μ2, hc3, h⟩ := bd_i h
  refine V_cV1 (q := 5) (v := vI v1) (kX10_lay (d - 1) (by omega) hc3) (by omega) mv_X10_288 rfl rfl rfl rfl rfl rfl dX10_slack_2 rfl ?_
  refine V_ifeq (q := 23) (q2 := 8) dX10_slack_5 (by decide) rfl (fun hc4 => ?_) (fun hc4 => ?_)
  · have h := ifT hc4 h
    refine V_iconst (q := 24) dX10_slack_23 rfl rfl ?_
    exact V_iret rfl h dX10_slack_24
  · have h := ifF hc4 h
    refine V_iload_n (q := 9) dX10_slack_8 rfl rfl rfl ?_
    refine V_iflt (q := 23) (q2 := 12) dX10_slack_9 (by decide) rfl (fun hc5 => ?_) (fun hc5 => ?_)
    · have h := ifT hc5 h
      refine V_iconst (q := 24) dX10_slack_23 rfl rfl ?_
      exact V_iret rfl h dX10_slack_24
    · have h := ifF hc5 h
      refine V_iload_n (q := 13) dX10_slack_12 rfl rfl rfl ?_
      refine V_aload_n (q := 14) dX10_slack_13 rfl rfl rfl ?_
      refine V_getO (q := 17) (t := 48) fl_X10_74 rfl rfl rfl rfl dX10_slack_14 rfl ?_
      refine V_getI (q := 20) fl_X10_264 rfl rfl rfl dX10_slack_17 rfl ?_
      refine V_icmplt (q := 25) (q2 := 23) dX10_slack_20 (by decide) rfl (fun hc6 => ?_) (fun hc6 => ?_)
      · have h := ifT hc6 h
        refine V_aload_n (q := 26) dX10_slack_25 rfl rfl rfl ?_
        refine V_aload_n (q := 27) dX10_slack_26 rfl rfl rfl ?_
        refine V_getO (q := 30) (t := 48) fl_X10_74 rfl rfl rfl rfl dX10_slack_27 rfl ?_
        obtain ⟨v7, μ8, hc9, h⟩ := bd_i h
        refine V_cV1 (q := 33) (v := vI v7) (kX1_allCues (d - 1) (by omega) rfl hc9) (by omega) mv_X10_316 rfl rfl rfl rfl rfl rfl dX10_slack_30 rfl ?_
        obtain ⟨v10, μ11, hc12, h⟩ := bd_i h
        refine V_cV1 (q := 36) (v := vI v10) (kX10_latesByBook (d - 1) (by omega) hc12) (by omega) mv_X10_322 rfl rfl rfl rfl rfl rfl dX10_slack_33 rfl ?_
        refine V_istore_n (q := 37) dX10_slack_36 rfl (Nat.le_of_ble_eq_true rfl) trivial rfl ?_
        refine V_iload_n (q := 38) dX10_slack_37 rfl rfl rfl ?_
        refine V_iconst (q := 39) dX10_slack_38 rfl rfl ?_
        refine V_icmpne (q := 44) (q2 := 42) dX10_slack_39 (by decide) rfl (fun hc13 => ?_) (fun hc13 => ?_)
        · have h := ifF hc13 h
          refine V_iconst (q := 45) dX10_slack_44 rfl rfl ?_
          refine V_istore (q := 47) dX10_slack_45 (Nat.le_of_ble_eq_true rfl) trivial rfl ?_
          refine V_iconst (q := 48) dX10_slack_47 rfl rfl ?_
          refine V_istore (q := 50) dX10_slack_48 (Nat.le_of_ble_eq_true rfl) trivial rfl ?_
          refine V_weak (kX10_slack_L50 d hd (fun v26 μ27 h => ?_) FU h) (sb_s rfl (sb_n (sb_s rfl (sb_s rfl (sb_s rfl (sb_s rfl sb_0))))))
          refine V_goto (q := 98) dX10_slack_85 (by decide) ?_
          refine V_iload (q := 100) dX10_slack_98 rfl rfl ?_
          exact V_iret rfl h dX10_slack_100
        · have h := ifT hc13 h
          refine V_iconst (q := 43) dX10_slack_42 rfl rfl ?_
          exact V_iret rfl h dX10_slack_43
      · have h := ifF hc6 h
        refine V_iconst (q := 24) dX10_slack_23 rfl rfl ?_
        exact V_iret rfl h dX10_slack_24
abbrev mX10_thud : Mth := (yX10_thud, cX10_thud, 3, some .int)
set_option maxRecDepth 100000 in
theorem mi_X10_thud : Cond.instanceMethod yX10_thud ∈ tG ∧ Cond.selects yX10_thud.cls yX10_thud yX10_thud ∈ tG ∧ Cond.initialized yX10_thud.cls ∈ tG ∧ Cond.code yX10_thud cX10_thud 3 (some .int) ∈ tG ∧ (yX10_thud.cls ≠ "java/lang/invoke/MethodHandle" ∧ yX10_thud.cls ≠ "java/lang/invoke/VarHandle" ∧ (parseMethodDescriptor yX10_thud.desc).map (fun d => d.parameters.length) = some 2) ∧ 3 ≤ 60 := ⟨(tG_of (tb4 (List.mem_of_getElem? (i := 200) rfl)) (by decide +kernel)), (tG_of (tb4 (List.mem_of_getElem? (i := 201) rfl)) (by decide +kernel)), (tG_of (tb1 (List.mem_of_getElem? (i := 1) rfl)) (by decide +kernel)), (tG_of (tb4 (List.mem_of_getElem? (i := 202) rfl)) (by decide +kernel)), ⟨by decide, by decide, by decide +kernel⟩, by decide⟩
theorem dX10_thud_0 : decode cX10_thud 0 = .ok (.iload_n 1, 1) := dc_27 (byA eNcX10_thud (p := 0) (v := 27) (by decide +kernel))
theorem dX10_thud_1 : decode cX10_thud 1 = .ok (.ifCond .lt 22, 3) := dc_155 (byA eNcX10_thud (p := 1) (v := 155) (by decide +kernel)) (byA eNcX10_thud (p := 2) (v := 0) (by decide +kernel)) (byA eNcX10_thud (p := 3) (v := 22) (by decide +kernel)) (by decide +kernel)
theorem dX10_thud_4 : decode cX10_thud 4 = .ok (.iload_n 1, 1) := dc_27 (byA eNcX10_thud (p := 4) (v := 27) (by decide +kernel))
theorem dX10_thud_5 : decode cX10_thud 5 = .ok (.sipush 999, 3) := dc_17 (byA eNcX10_thud (p := 5) (v := 17) (by decide +kernel)) (byA eNcX10_thud (p := 6) (v := 3) (by decide +kernel)) (byA eNcX10_thud (p := 7) (v := 231) (by decide +kernel)) (by decide +kernel)
theorem dX10_thud_8 : decode cX10_thud 8 = .ok (.if_icmp .gt 15, 3) := dc_163 (byA eNcX10_thud (p := 8) (v := 163) (by decide +kernel)) (byA eNcX10_thud (p := 9) (v := 0) (by decide +kernel)) (byA eNcX10_thud (p := 10) (v := 15) (by decide +kernel)) (by decide +kernel)
theorem dX10_thud_11 : decode cX10_thud 11 = .ok (.aload_n 0, 1) := dc_42 (byA eNcX10_thud (p := 11) (v := 42) (by decide +kernel))
theorem dX10_thud_12 : decode cX10_thud 12 = .ok (.getfield 37, 3) := dc_180 (byA eNcX10_thud (p := 12) (v := 180) (by decide +kernel)) (byA eNcX10_thud (p := 13) (v := 0) (by decide +kernel)) (byA eNcX10_thud (p := 14) (v := 37) (by decide +kernel)) rfl
theorem dX10_thud_15 : decode cX10_thud 15 = .ok (.iload_n 2, 1) := dc_28 (byA eNcX10_thud (p := 15) (v := 28) (by decide +kernel))
theorem dX10_thud_16 : decode cX10_thud 16 = .ok (.invokevirtual 168, 3) := dc_182 (byA eNcX10_thud (p := 16) (v := 182) (by decide +kernel)) (byA eNcX10_thud (p := 17) (v := 0) (by decide +kernel)) (byA eNcX10_thud (p := 18) (v := 168) (by decide +kernel)) rfl
theorem dX10_thud_19 : decode cX10_thud 19 = .ok (.iconst (-1), 1) := dc_2 (byA eNcX10_thud (p := 19) (v := 2) (by decide +kernel))
theorem dX10_thud_20 : decode cX10_thud 20 = .ok (.if_icmp .ne 5, 3) := dc_160 (byA eNcX10_thud (p := 20) (v := 160) (by decide +kernel)) (byA eNcX10_thud (p := 21) (v := 0) (by decide +kernel)) (byA eNcX10_thud (p := 22) (v := 5) (by decide +kernel)) (by decide +kernel)
theorem dX10_thud_23 : decode cX10_thud 23 = .ok (.iconst (-1), 1) := dc_2 (byA eNcX10_thud (p := 23) (v := 2) (by decide +kernel))
theorem dX10_thud_24 : decode cX10_thud 24 = .ok (.ireturn, 1) := dc_172 (byA eNcX10_thud (p := 24) (v := 172) (by decide +kernel))
theorem dX10_thud_25 : decode cX10_thud 25 = .ok (.aload_n 0, 1) := dc_42 (byA eNcX10_thud (p := 25) (v := 42) (by decide +kernel))
theorem dX10_thud_26 : decode cX10_thud 26 = .ok (.getfield 100, 3) := dc_180 (byA eNcX10_thud (p := 26) (v := 180) (by decide +kernel)) (byA eNcX10_thud (p := 27) (v := 0) (by decide +kernel)) (byA eNcX10_thud (p := 28) (v := 100) (by decide +kernel)) rfl
theorem dX10_thud_29 : decode cX10_thud 29 = .ok (.iload_n 1, 1) := dc_27 (byA eNcX10_thud (p := 29) (v := 27) (by decide +kernel))
theorem dX10_thud_30 : decode cX10_thud 30 = .ok (.iload_n 2, 1) := dc_28 (byA eNcX10_thud (p := 30) (v := 28) (by decide +kernel))
theorem dX10_thud_31 : decode cX10_thud 31 = .ok (.invokevirtual 353, 3) := dc_182 (byA eNcX10_thud (p := 31) (v := 182) (by decide +kernel)) (byA eNcX10_thud (p := 32) (v := 1) (by decide +kernel)) (byA eNcX10_thud (p := 33) (v := 97) (by decide +kernel)) rfl
theorem dX10_thud_34 : decode cX10_thud 34 = .ok (.ifCond .eq 13, 3) := dc_153 (byA eNcX10_thud (p := 34) (v := 153) (by decide +kernel)) (byA eNcX10_thud (p := 35) (v := 0) (by decide +kernel)) (byA eNcX10_thud (p := 36) (v := 13) (by decide +kernel)) (by decide +kernel)
theorem dX10_thud_37 : decode cX10_thud 37 = .ok (.aload_n 0, 1) := dc_42 (byA eNcX10_thud (p := 37) (v := 42) (by decide +kernel))
theorem dX10_thud_38 : decode cX10_thud 38 = .ok (.getfield 100, 3) := dc_180 (byA eNcX10_thud (p := 38) (v := 180) (by decide +kernel)) (byA eNcX10_thud (p := 39) (v := 0) (by decide +kernel)) (byA eNcX10_thud (p := 40) (v := 100) (by decide +kernel)) rfl
theorem dX10_thud_41 : decode cX10_thud 41 = .ok (.getfield 153, 3) := dc_180 (byA eNcX10_thud (p := 41) (v := 180) (by decide +kernel)) (byA eNcX10_thud (p := 42) (v := 0) (by decide +kernel)) (byA eNcX10_thud (p := 43) (v := 153) (by decide +kernel)) rfl
theorem dX10_thud_44 : decode cX10_thud 44 = .ok (.goto 4, 3) := dc_167 (byA eNcX10_thud (p := 44) (v := 167) (by decide +kernel)) (byA eNcX10_thud (p := 45) (v := 0) (by decide +kernel)) (byA eNcX10_thud (p := 46) (v := 4) (by decide +kernel)) (by decide +kernel)
theorem dX10_thud_47 : decode cX10_thud 47 = .ok (.iconst (-1), 1) := dc_2 (byA eNcX10_thud (p := 47) (v := 2) (by decide +kernel))
theorem dX10_thud_48 : decode cX10_thud 48 = .ok (.ireturn, 1) := dc_172 (byA eNcX10_thud (p := 48) (v := 172) (by decide +kernel))
def X10_thud (l1 : Int) (l2 : Int) (μ : Mm) : Rs := if l1 < 0 then (some ((-1), μ)) else (if 999 < l1 then (some ((-1), μ)) else (bd (X0_placeOf 5 l2 μ) fun v3 μ4 => if v3 = (-1) then (some ((-1), μ4)) else (bd (X8_add l1 l2 μ4) fun v7 μ8 => if v7 = 0 then (some ((-1), μ8)) else (some (μ8 67 2, μ8)))))
set_option maxHeartbeats 4000000 in
set_option maxRecDepth 100000 in
theorem kX10_thud (d : Nat) (hd : 2 ≤ d) {l1 : Int} {l2 : Int} {μ : Mm} {r : Int} {μ' : Mm} (h : X10_thud l1 l2 μ = some (r, μ')) : CC d mX10_thud [vR 0, vI l1, vI l2] μ r μ' := by
  unfold X10_thud at h
  refine V_enter (by decide) (Nat.le_of_ble_eq_true rfl) ?_
  show VV d mX10_thud 0 [some (vR 0), some (vI l1), some (vI l2)] [] μ r μ'
  refine V_iload_n (q := 1) dX10_thud_0 rfl rfl rfl ?_
  refine V_iflt (q := 23) (q2 := 4) dX10_thud_1 (by decide) rfl (fun hc1 => ?_) (fun hc1 => ?_)
  · have h := ifT hc1 h
    refine V_iconst (q := 24) dX10_thud_23 rfl rfl ?_
    exact V_iret rfl h dX10_thud_24
  · have h := ifF hc1 h
    refine V_iload_n (q := 5) dX10_thud_4 rfl rfl rfl ?_
    refine V_sipush (q := 8) dX10_thud_5 rfl rfl rfl ?_
    refine V_icmpgt (q := 23) (q2 := 11) dX10_thud_8 (by decide) rfl (fun hc2 => ?_) (fun hc2 => ?_)
    · have h := ifT hc2 h
      refine V_iconst (q := 24) dX10_thud_23 rfl rfl ?_
      exact V_iret rfl h dX10_thud_24
    · have h := ifF hc2 h
      refine V_aload_n (q := 12) dX10_thud_11 rfl rfl rfl ?_
      refine V_getO (q := 15) (t := 5) fl_X10_37 rfl rfl rfl rfl dX10_thud_12 rfl ?_
      refine V_iload_n (q := 16) dX10_thud_15 rfl rfl rfl ?_
      obtain ⟨v3, μ4, hc5, h⟩ := bd_i h
      refine V_cV1 (q := 19) (v := vI v3) (kX0_placeOf (d - 1) (by omega) rfl hc5) (by omega) mv_X10_168 rfl rfl rfl rfl rfl rfl dX10_thud_16 rfl ?_
      refine V_iconst (q := 20) dX10_thud_19 rfl rfl ?_
      refine V_icmpne (q := 25) (q2 := 23) dX10_thud_20 (by decide) rfl (fun hc6 => ?_) (fun hc6 => ?_)
      · have h := ifF hc6 h
        refine V_aload_n (q := 26) dX10_thud_25 rfl rfl rfl ?_
        refine V_getO (q := 29) (t := 67) fl_X10_100 rfl rfl rfl rfl dX10_thud_26 rfl ?_
        refine V_iload_n (q := 30) dX10_thud_29 rfl rfl rfl ?_
        refine V_iload_n (q := 31) dX10_thud_30 rfl rfl rfl ?_
        obtain ⟨v7, μ8, hc9, h⟩ := bd_i h
        refine V_cV1 (q := 34) (v := vI v7) (kX8_add (d - 1) (by omega) hc9) (by omega) mv_X10_353 rfl rfl rfl rfl rfl rfl dX10_thud_31 rfl ?_
        refine V_ifeq (q := 47) (q2 := 37) dX10_thud_34 (by decide) rfl (fun hc10 => ?_) (fun hc10 => ?_)
        · have h := ifT hc10 h
          refine V_iconst (q := 48) dX10_thud_47 rfl rfl ?_
          exact V_iret rfl h dX10_thud_48
        · have h := ifF hc10 h
          refine V_aload_n (q := 38) dX10_thud_37 rfl rfl rfl ?_
          refine V_getO (q := 41) (t := 67) fl_X10_100 rfl rfl rfl rfl dX10_thud_38 rfl ?_
          refine V_getI (q := 44) fl_X10_153 rfl rfl rfl dX10_thud_41 rfl ?_
          refine V_goto (q := 48) dX10_thud_44 (by decide) ?_
          exact V_iret rfl h dX10_thud_48
      · have h := ifT hc6 h
        refine V_iconst (q := 24) dX10_thud_23 rfl rfl ?_
        exact V_iret rfl h dX10_thud_24
abbrev mX10_fit : Mth := (yX10_fit, cX10_fit, 3, some .int)
set_option maxRecDepth 100000 in
theorem mi_X10_fit : Cond.instanceMethod yX10_fit ∈ tG ∧ Cond.selects yX10_fit.cls yX10_fit yX10_fit ∈ tG ∧ Cond.initialized yX10_fit.cls ∈ tG ∧ Cond.code yX10_fit cX10_fit 3 (some .int) ∈ tG ∧ (yX10_fit.cls ≠ "java/lang/invoke/MethodHandle" ∧ yX10_fit.cls ≠ "java/lang/invoke/VarHandle" ∧ (parseMethodDescriptor yX10_fit.desc).map (fun d => d.parameters.length) = some 2) ∧ 3 ≤ 60 := ⟨(tG_of (tb4 (List.mem_of_getElem? (i := 208) rfl)) (by decide +kernel)), (tG_of (tb4 (List.mem_of_getElem? (i := 209) rfl)) (by decide +kernel)), (tG_of (tb1 (List.mem_of_getElem? (i := 1) rfl)) (by decide +kernel)), (tG_of (tb4 (List.mem_of_getElem? (i := 210) rfl)) (by decide +kernel)), ⟨by decide, by decide, by decide +kernel⟩, by decide⟩
theorem dX10_fit_0 : decode cX10_fit 0 = .ok (.iload_n 2, 1) := dc_28 (byA eNcX10_fit (p := 0) (v := 28) (by decide +kernel))
theorem dX10_fit_1 : decode cX10_fit 1 = .ok (.iconst (-1), 1) := dc_2 (byA eNcX10_fit (p := 1) (v := 2) (by decide +kernel))
theorem dX10_fit_2 : decode cX10_fit 2 = .ok (.if_icmp .lt 11, 3) := dc_161 (byA eNcX10_fit (p := 2) (v := 161) (by decide +kernel)) (byA eNcX10_fit (p := 3) (v := 0) (by decide +kernel)) (byA eNcX10_fit (p := 4) (v := 11) (by decide +kernel)) (by decide +kernel)
theorem dX10_fit_5 : decode cX10_fit 5 = .ok (.aload_n 0, 1) := dc_42 (byA eNcX10_fit (p := 5) (v := 42) (by decide +kernel))
theorem dX10_fit_6 : decode cX10_fit 6 = .ok (.iload_n 1, 1) := dc_27 (byA eNcX10_fit (p := 6) (v := 27) (by decide +kernel))
theorem dX10_fit_7 : decode cX10_fit 7 = .ok (.invokevirtual 288, 3) := dc_182 (byA eNcX10_fit (p := 7) (v := 182) (by decide +kernel)) (byA eNcX10_fit (p := 8) (v := 1) (by decide +kernel)) (byA eNcX10_fit (p := 9) (v := 32) (by decide +kernel)) rfl
theorem dX10_fit_10 : decode cX10_fit 10 = .ok (.ifCond .ne 5, 3) := dc_154 (byA eNcX10_fit (p := 10) (v := 154) (by decide +kernel)) (byA eNcX10_fit (p := 11) (v := 0) (by decide +kernel)) (byA eNcX10_fit (p := 12) (v := 5) (by decide +kernel)) (by decide +kernel)
theorem dX10_fit_13 : decode cX10_fit 13 = .ok (.iconst (-1), 1) := dc_2 (byA eNcX10_fit (p := 13) (v := 2) (by decide +kernel))
theorem dX10_fit_14 : decode cX10_fit 14 = .ok (.ireturn, 1) := dc_172 (byA eNcX10_fit (p := 14) (v := 172) (by decide +kernel))
theorem dX10_fit_15 : decode cX10_fit 15 = .ok (.aload_n 0, 1) := dc_42 (byA eNcX10_fit (p := 15) (v := 42) (by decide +kernel))
theorem dX10_fit_16 : decode cX10_fit 16 = .ok (.getfield 100, 3) := dc_180 (byA eNcX10_fit (p := 16) (v := 180) (by decide +kernel)) (byA eNcX10_fit (p := 17) (v := 0) (by decide +kernel)) (byA eNcX10_fit (p := 18) (v := 100) (by decide +kernel)) rfl
theorem dX10_fit_19 : decode cX10_fit 19 = .ok (.aload_n 0, 1) := dc_42 (byA eNcX10_fit (p := 19) (v := 42) (by decide +kernel))
theorem dX10_fit_20 : decode cX10_fit 20 = .ok (.getfield 74, 3) := dc_180 (byA eNcX10_fit (p := 20) (v := 180) (by decide +kernel)) (byA eNcX10_fit (p := 21) (v := 0) (by decide +kernel)) (byA eNcX10_fit (p := 22) (v := 74) (by decide +kernel)) rfl
theorem dX10_fit_23 : decode cX10_fit 23 = .ok (.iload_n 2, 1) := dc_28 (byA eNcX10_fit (p := 23) (v := 28) (by decide +kernel))
theorem dX10_fit_24 : decode cX10_fit 24 = .ok (.invokevirtual 355, 3) := dc_182 (byA eNcX10_fit (p := 24) (v := 182) (by decide +kernel)) (byA eNcX10_fit (p := 25) (v := 1) (by decide +kernel)) (byA eNcX10_fit (p := 26) (v := 99) (by decide +kernel)) rfl
theorem dX10_fit_27 : decode cX10_fit 27 = .ok (.ireturn, 1) := dc_172 (byA eNcX10_fit (p := 27) (v := 172) (by decide +kernel))
def X10_fit (l1 : Int) (l2 : Int) (μ : Mm) : Rs := if l2 < (-1) then (some ((-1), μ)) else (bd (X10_lay l1 μ) fun v2 μ3 => if v2 = 0 then (some ((-1), μ3)) else (bd (X8_fitting 48 l2 μ3) fun v6 μ7 => some (v6, μ7)))
set_option maxHeartbeats 4000000 in
set_option maxRecDepth 100000 in
theorem kX10_fit (d : Nat) (hd : 272 ≤ d) {l1 : Int} {l2 : Int} {μ : Mm} {r : Int} {μ' : Mm} (h : X10_fit l1 l2 μ = some (r, μ')) : CC d mX10_fit [vR 0, vI l1, vI l2] μ r μ' := by
  unfold X10_fit at h
  refine V_enter (by decide) (Nat.le_of_ble_eq_true rfl) ?_
  show VV d mX10_fit 0 [some (vR 0), some (vI l1), some (vI l2)] [] μ r μ'
  refine V_iload_n (q := 1) dX10_fit_0 rfl rfl rfl ?_
  refine V_iconst (q := 2) dX10_fit_1 rfl rfl ?_
  refine V_icmplt (q := 13) (q2 := 5) dX10_fit_2 (by decide) rfl (fun hc1 => ?_) (fun hc1 => ?_)
  · have h := ifT hc1 h
    refine V_iconst (q := 14) dX10_fit_13 rfl rfl ?_
    exact V_iret rfl h dX10_fit_14
  · have h := ifF hc1 h
    refine V_aload_n (q := 6) dX10_fit_5 rfl rfl rfl ?_
    refine V_iload_n (q := 7) dX10_fit_6 rfl rfl rfl ?_
    obtain ⟨v2, μ3, hc4, h⟩ := bd_i h
    refine V_cV1 (q := 10) (v := vI v2) (kX10_lay (d - 1) (by omega) hc4) (by omega) mv_X10_288 rfl rfl rfl rfl rfl rfl dX10_fit_7 rfl ?_
    refine V_ifne (q := 15) (q2 := 13) dX10_fit_10 (by decide) rfl (fun hc5 => ?_) (fun hc5 => ?_)
    · have h := ifF hc5 h
      refine V_aload_n (q := 16) dX10_fit_15 rfl rfl rfl ?_
      refine V_getO (q := 19) (t := 67) fl_X10_100 rfl rfl rfl rfl dX10_fit_16 rfl ?_
      refine V_aload_n (q := 20) dX10_fit_19 rfl rfl rfl ?_
      refine V_getO (q := 23) (t := 48) fl_X10_74 rfl rfl rfl rfl dX10_fit_20 rfl ?_
      refine V_iload_n (q := 24) dX10_fit_23 rfl rfl rfl ?_
      obtain ⟨v6, μ7, hc8, h⟩ := bd_i h
      refine V_cV1 (q := 27) (v := vI v6) (kX8_fitting (d - 1) (by omega) rfl hc8) (by omega) mv_X10_355 rfl rfl rfl rfl rfl rfl dX10_fit_24 rfl ?_
      exact V_iret rfl h dX10_fit_27
    · have h := ifT hc5 h
      refine V_iconst (q := 14) dX10_fit_13 rfl rfl ?_
      exact V_iret rfl h dX10_fit_14
abbrev mX10_boy : Mth := (yX10_boy, cX10_boy, 6, some .int)
set_option maxRecDepth 100000 in
theorem mi_X10_boy : Cond.instanceMethod yX10_boy ∈ tG ∧ Cond.selects yX10_boy.cls yX10_boy yX10_boy ∈ tG ∧ Cond.initialized yX10_boy.cls ∈ tG ∧ Cond.code yX10_boy cX10_boy 6 (some .int) ∈ tG ∧ (yX10_boy.cls ≠ "java/lang/invoke/MethodHandle" ∧ yX10_boy.cls ≠ "java/lang/invoke/VarHandle" ∧ (parseMethodDescriptor yX10_boy.desc).map (fun d => d.parameters.length) = some 4) ∧ 6 ≤ 60 := ⟨(tG_of (tb4 (List.mem_of_getElem? (i := 239) rfl)) (by decide +kernel)), (tG_of (tb5 (List.mem_of_getElem? (i := 0) rfl)) (by decide +kernel)), (tG_of (tb1 (List.mem_of_getElem? (i := 1) rfl)) (by decide +kernel)), (tG_of (tb5 (List.mem_of_getElem? (i := 1) rfl)) (by decide +kernel)), ⟨by decide, by decide, by decide +kernel⟩, by decide⟩
theorem dX10_boy_0 : decode cX10_boy 0 = .ok (.iload 4, 2) := dc_21 (byA eNcX10_boy (p := 0) (v := 21) (by decide +kernel)) (byA eNcX10_boy (p := 1) (v := 4) (by decide +kernel))
theorem dX10_boy_2 : decode cX10_boy 2 = .ok (.invokestatic 275, 3) := dc_184 (byA eNcX10_boy (p := 2) (v := 184) (by decide +kernel)) (byA eNcX10_boy (p := 3) (v := 1) (by decide +kernel)) (byA eNcX10_boy (p := 4) (v := 19) (by decide +kernel)) rfl
theorem dX10_boy_5 : decode cX10_boy 5 = .ok (.ifCond .eq 33, 3) := dc_153 (byA eNcX10_boy (p := 5) (v := 153) (by decide +kernel)) (byA eNcX10_boy (p := 6) (v := 0) (by decide +kernel)) (byA eNcX10_boy (p := 7) (v := 33) (by decide +kernel)) (by decide +kernel)
theorem dX10_boy_8 : decode cX10_boy 8 = .ok (.iload_n 3, 1) := dc_29 (byA eNcX10_boy (p := 8) (v := 29) (by decide +kernel))
theorem dX10_boy_9 : decode cX10_boy 9 = .ok (.iconst 1, 1) := dc_4 (byA eNcX10_boy (p := 9) (v := 4) (by decide +kernel))
theorem dX10_boy_10 : decode cX10_boy 10 = .ok (.if_icmp .lt 28, 3) := dc_161 (byA eNcX10_boy (p := 10) (v := 161) (by decide +kernel)) (byA eNcX10_boy (p := 11) (v := 0) (by decide +kernel)) (byA eNcX10_boy (p := 12) (v := 28) (by decide +kernel)) (by decide +kernel)
theorem dX10_boy_13 : decode cX10_boy 13 = .ok (.iload_n 3, 1) := dc_29 (byA eNcX10_boy (p := 13) (v := 29) (by decide +kernel))
theorem dX10_boy_14 : decode cX10_boy 14 = .ok (.bipush 9, 2) := dc_16 (byA eNcX10_boy (p := 14) (v := 16) (by decide +kernel)) (byA eNcX10_boy (p := 15) (v := 9) (by decide +kernel)) (by decide +kernel)
theorem dX10_boy_16 : decode cX10_boy 16 = .ok (.if_icmp .gt 22, 3) := dc_163 (byA eNcX10_boy (p := 16) (v := 163) (by decide +kernel)) (byA eNcX10_boy (p := 17) (v := 0) (by decide +kernel)) (byA eNcX10_boy (p := 18) (v := 22) (by decide +kernel)) (by decide +kernel)
theorem dX10_boy_19 : decode cX10_boy 19 = .ok (.aload_n 0, 1) := dc_42 (byA eNcX10_boy (p := 19) (v := 42) (by decide +kernel))
theorem dX10_boy_20 : decode cX10_boy 20 = .ok (.getfield 37, 3) := dc_180 (byA eNcX10_boy (p := 20) (v := 180) (by decide +kernel)) (byA eNcX10_boy (p := 21) (v := 0) (by decide +kernel)) (byA eNcX10_boy (p := 22) (v := 37) (by decide +kernel)) rfl
theorem dX10_boy_23 : decode cX10_boy 23 = .ok (.iload_n 2, 1) := dc_28 (byA eNcX10_boy (p := 23) (v := 28) (by decide +kernel))
theorem dX10_boy_24 : decode cX10_boy 24 = .ok (.invokevirtual 217, 3) := dc_182 (byA eNcX10_boy (p := 24) (v := 182) (by decide +kernel)) (byA eNcX10_boy (p := 25) (v := 0) (by decide +kernel)) (byA eNcX10_boy (p := 26) (v := 217) (by decide +kernel)) rfl
theorem dX10_boy_27 : decode cX10_boy 27 = .ok (.ifCond .eq 11, 3) := dc_153 (byA eNcX10_boy (p := 27) (v := 153) (by decide +kernel)) (byA eNcX10_boy (p := 28) (v := 0) (by decide +kernel)) (byA eNcX10_boy (p := 29) (v := 11) (by decide +kernel)) (by decide +kernel)
theorem dX10_boy_30 : decode cX10_boy 30 = .ok (.aload_n 0, 1) := dc_42 (byA eNcX10_boy (p := 30) (v := 42) (by decide +kernel))
theorem dX10_boy_31 : decode cX10_boy 31 = .ok (.iload_n 1, 1) := dc_27 (byA eNcX10_boy (p := 31) (v := 27) (by decide +kernel))
theorem dX10_boy_32 : decode cX10_boy 32 = .ok (.invokevirtual 288, 3) := dc_182 (byA eNcX10_boy (p := 32) (v := 182) (by decide +kernel)) (byA eNcX10_boy (p := 33) (v := 1) (by decide +kernel)) (byA eNcX10_boy (p := 34) (v := 32) (by decide +kernel)) rfl
theorem dX10_boy_35 : decode cX10_boy 35 = .ok (.ifCond .ne 5, 3) := dc_154 (byA eNcX10_boy (p := 35) (v := 154) (by decide +kernel)) (byA eNcX10_boy (p := 36) (v := 0) (by decide +kernel)) (byA eNcX10_boy (p := 37) (v := 5) (by decide +kernel)) (by decide +kernel)
theorem dX10_boy_38 : decode cX10_boy 38 = .ok (.iconst (-1), 1) := dc_2 (byA eNcX10_boy (p := 38) (v := 2) (by decide +kernel))
theorem dX10_boy_39 : decode cX10_boy 39 = .ok (.ireturn, 1) := dc_172 (byA eNcX10_boy (p := 39) (v := 172) (by decide +kernel))
theorem dX10_boy_40 : decode cX10_boy 40 = .ok (.aload_n 0, 1) := dc_42 (byA eNcX10_boy (p := 40) (v := 42) (by decide +kernel))
theorem dX10_boy_41 : decode cX10_boy 41 = .ok (.getfield 78, 3) := dc_180 (byA eNcX10_boy (p := 41) (v := 180) (by decide +kernel)) (byA eNcX10_boy (p := 42) (v := 0) (by decide +kernel)) (byA eNcX10_boy (p := 43) (v := 78) (by decide +kernel)) rfl
theorem dX10_boy_44 : decode cX10_boy 44 = .ok (.aload_n 0, 1) := dc_42 (byA eNcX10_boy (p := 44) (v := 42) (by decide +kernel))
theorem dX10_boy_45 : decode cX10_boy 45 = .ok (.getfield 74, 3) := dc_180 (byA eNcX10_boy (p := 45) (v := 180) (by decide +kernel)) (byA eNcX10_boy (p := 46) (v := 0) (by decide +kernel)) (byA eNcX10_boy (p := 47) (v := 74) (by decide +kernel)) rfl
theorem dX10_boy_48 : decode cX10_boy 48 = .ok (.invokevirtual 358, 3) := dc_182 (byA eNcX10_boy (p := 48) (v := 182) (by decide +kernel)) (byA eNcX10_boy (p := 49) (v := 1) (by decide +kernel)) (byA eNcX10_boy (p := 50) (v := 102) (by decide +kernel)) rfl
theorem dX10_boy_51 : decode cX10_boy 51 = .ok (.aload_n 0, 1) := dc_42 (byA eNcX10_boy (p := 51) (v := 42) (by decide +kernel))
theorem dX10_boy_52 : decode cX10_boy 52 = .ok (.getfield 78, 3) := dc_180 (byA eNcX10_boy (p := 52) (v := 180) (by decide +kernel)) (byA eNcX10_boy (p := 53) (v := 0) (by decide +kernel)) (byA eNcX10_boy (p := 54) (v := 78) (by decide +kernel)) rfl
theorem dX10_boy_55 : decode cX10_boy 55 = .ok (.aload_n 0, 1) := dc_42 (byA eNcX10_boy (p := 55) (v := 42) (by decide +kernel))
theorem dX10_boy_56 : decode cX10_boy 56 = .ok (.getfield 37, 3) := dc_180 (byA eNcX10_boy (p := 56) (v := 180) (by decide +kernel)) (byA eNcX10_boy (p := 57) (v := 0) (by decide +kernel)) (byA eNcX10_boy (p := 58) (v := 37) (by decide +kernel)) rfl
theorem dX10_boy_59 : decode cX10_boy 59 = .ok (.iload_n 2, 1) := dc_28 (byA eNcX10_boy (p := 59) (v := 28) (by decide +kernel))
theorem dX10_boy_60 : decode cX10_boy 60 = .ok (.iload_n 3, 1) := dc_29 (byA eNcX10_boy (p := 60) (v := 29) (by decide +kernel))
theorem dX10_boy_61 : decode cX10_boy 61 = .ok (.invokevirtual 360, 3) := dc_182 (byA eNcX10_boy (p := 61) (v := 182) (by decide +kernel)) (byA eNcX10_boy (p := 62) (v := 1) (by decide +kernel)) (byA eNcX10_boy (p := 63) (v := 104) (by decide +kernel)) rfl
theorem dX10_boy_64 : decode cX10_boy 64 = .ok (.aload_n 0, 1) := dc_42 (byA eNcX10_boy (p := 64) (v := 42) (by decide +kernel))
theorem dX10_boy_65 : decode cX10_boy 65 = .ok (.getfield 93, 3) := dc_180 (byA eNcX10_boy (p := 65) (v := 180) (by decide +kernel)) (byA eNcX10_boy (p := 66) (v := 0) (by decide +kernel)) (byA eNcX10_boy (p := 67) (v := 93) (by decide +kernel)) rfl
theorem dX10_boy_68 : decode cX10_boy 68 = .ok (.aload_n 0, 1) := dc_42 (byA eNcX10_boy (p := 68) (v := 42) (by decide +kernel))
theorem dX10_boy_69 : decode cX10_boy 69 = .ok (.getfield 74, 3) := dc_180 (byA eNcX10_boy (p := 69) (v := 180) (by decide +kernel)) (byA eNcX10_boy (p := 70) (v := 0) (by decide +kernel)) (byA eNcX10_boy (p := 71) (v := 74) (by decide +kernel)) rfl
theorem dX10_boy_72 : decode cX10_boy 72 = .ok (.aload_n 0, 1) := dc_42 (byA eNcX10_boy (p := 72) (v := 42) (by decide +kernel))
theorem dX10_boy_73 : decode cX10_boy 73 = .ok (.getfield 78, 3) := dc_180 (byA eNcX10_boy (p := 73) (v := 180) (by decide +kernel)) (byA eNcX10_boy (p := 74) (v := 0) (by decide +kernel)) (byA eNcX10_boy (p := 75) (v := 78) (by decide +kernel)) rfl
theorem dX10_boy_76 : decode cX10_boy 76 = .ok (.invokevirtual 364, 3) := dc_182 (byA eNcX10_boy (p := 76) (v := 182) (by decide +kernel)) (byA eNcX10_boy (p := 77) (v := 1) (by decide +kernel)) (byA eNcX10_boy (p := 78) (v := 108) (by decide +kernel)) rfl
theorem dX10_boy_79 : decode cX10_boy 79 = .ok (.istore 5, 2) := dc_54 (byA eNcX10_boy (p := 79) (v := 54) (by decide +kernel)) (byA eNcX10_boy (p := 80) (v := 5) (by decide +kernel))
theorem dX10_boy_81 : decode cX10_boy 81 = .ok (.iload 5, 2) := dc_21 (byA eNcX10_boy (p := 81) (v := 21) (by decide +kernel)) (byA eNcX10_boy (p := 82) (v := 5) (by decide +kernel))
theorem dX10_boy_83 : decode cX10_boy 83 = .ok (.iconst (-1), 1) := dc_2 (byA eNcX10_boy (p := 83) (v := 2) (by decide +kernel))
theorem dX10_boy_84 : decode cX10_boy 84 = .ok (.if_icmp .ne 5, 3) := dc_160 (byA eNcX10_boy (p := 84) (v := 160) (by decide +kernel)) (byA eNcX10_boy (p := 85) (v := 0) (by decide +kernel)) (byA eNcX10_boy (p := 86) (v := 5) (by decide +kernel)) (by decide +kernel)
theorem dX10_boy_87 : decode cX10_boy 87 = .ok (.iconst (-1), 1) := dc_2 (byA eNcX10_boy (p := 87) (v := 2) (by decide +kernel))
theorem dX10_boy_88 : decode cX10_boy 88 = .ok (.ireturn, 1) := dc_172 (byA eNcX10_boy (p := 88) (v := 172) (by decide +kernel))
theorem dX10_boy_89 : decode cX10_boy 89 = .ok (.iload 4, 2) := dc_21 (byA eNcX10_boy (p := 89) (v := 21) (by decide +kernel)) (byA eNcX10_boy (p := 90) (v := 4) (by decide +kernel))
theorem dX10_boy_91 : decode cX10_boy 91 = .ok (.ifCond .ne 8, 3) := dc_154 (byA eNcX10_boy (p := 91) (v := 154) (by decide +kernel)) (byA eNcX10_boy (p := 92) (v := 0) (by decide +kernel)) (byA eNcX10_boy (p := 93) (v := 8) (by decide +kernel)) (by decide +kernel)
theorem dX10_boy_94 : decode cX10_boy 94 = .ok (.iload 5, 2) := dc_21 (byA eNcX10_boy (p := 94) (v := 21) (by decide +kernel)) (byA eNcX10_boy (p := 95) (v := 5) (by decide +kernel))
theorem dX10_boy_96 : decode cX10_boy 96 = .ok (.goto 10, 3) := dc_167 (byA eNcX10_boy (p := 96) (v := 167) (by decide +kernel)) (byA eNcX10_boy (p := 97) (v := 0) (by decide +kernel)) (byA eNcX10_boy (p := 98) (v := 10) (by decide +kernel)) (by decide +kernel)
theorem dX10_boy_99 : decode cX10_boy 99 = .ok (.aload_n 0, 1) := dc_42 (byA eNcX10_boy (p := 99) (v := 42) (by decide +kernel))
theorem dX10_boy_100 : decode cX10_boy 100 = .ok (.getfield 93, 3) := dc_180 (byA eNcX10_boy (p := 100) (v := 180) (by decide +kernel)) (byA eNcX10_boy (p := 101) (v := 0) (by decide +kernel)) (byA eNcX10_boy (p := 102) (v := 93) (by decide +kernel)) rfl
theorem dX10_boy_103 : decode cX10_boy 103 = .ok (.getfield 313, 3) := dc_180 (byA eNcX10_boy (p := 103) (v := 180) (by decide +kernel)) (byA eNcX10_boy (p := 104) (v := 1) (by decide +kernel)) (byA eNcX10_boy (p := 105) (v := 57) (by decide +kernel)) rfl
theorem dX10_boy_106 : decode cX10_boy 106 = .ok (.ireturn, 1) := dc_172 (byA eNcX10_boy (p := 106) (v := 172) (by decide +kernel))
def X10_boy (l1 : Int) (l2 : Int) (l3 : Int) (l4 : Int) (μ : Mm) : Rs := bd (X10_isHalf l4 μ) fun v1 μ2 => if v1 = 0 then (some ((-1), μ2)) else (if l3 < 1 then (some ((-1), μ2)) else (if 9 < l3 then (some ((-1), μ2)) else (bd (X0_isOpen 5 l2 μ2) fun v7 μ8 => if v7 = 0 then (some ((-1), μ8)) else (bd (X10_lay l1 μ8) fun v11 μ12 => if v11 = 0 then (some ((-1), μ12)) else (bd (X1_copy 53 48 μ12) fun v15 μ16 => bd (X1_standAt 53 5 l2 l3 μ16) fun v18 μ19 => bd (X6_share 48 53 μ19) fun v21 μ22 => if v21 = (-1) then (some ((-1), μ22)) else (if l4 = 0 then (some (v21, μ22)) else (some (μ22 62 7, μ22))))))))
set_option maxHeartbeats 4000000 in
set_option maxRecDepth 100000 in
theorem kX10_boy (d : Nat) (hd : 272 ≤ d) {l1 : Int} {l2 : Int} {l3 : Int} {l4 : Int} {μ : Mm} {r : Int} {μ' : Mm} (h : X10_boy l1 l2 l3 l4 μ = some (r, μ')) : CC d mX10_boy [vR 0, vI l1, vI l2, vI l3, vI l4] μ r μ' := by
  unfold X10_boy at h
  refine V_enter (by decide) (Nat.le_of_ble_eq_true rfl) ?_
  show VV d mX10_boy 0 [some (vR 0), some (vI l1), some (vI l2), some (vI l3), some (vI l4), none] [] μ r μ'
  refine V_iload (q := 2) dX10_boy_0 rfl rfl ?_
  obtain ⟨v1, μ2, hc3, h⟩ := bd_i h
  refine V_cS1 (q := 5) (v := vI v1) (kX10_isHalf (d - 1) (by omega) hc3) (by omega) mv_X10_275 rfl rfl rfl rfl dX10_boy_2 rfl ?_
  refine V_ifeq (q := 38) (q2 := 8) dX10_boy_5 (by decide) rfl (fun hc4 => ?_) (fun hc4 => ?_)
  · have h := ifT hc4 h
    refine V_iconst (q := 39) dX10_boy_38 rfl rfl ?_
    exact V_iret rfl h dX10_boy_39
  · have h := ifF hc4 h
    refine V_iload_n (q := 9) dX10_boy_8 rfl rfl rfl ?_
    refine V_iconst (q := 10) dX10_boy_9 rfl rfl ?_
    refine V_icmplt (q := 38) (q2 := 13) dX10_boy_10 (by decide) rfl (fun hc5 => ?_) (fun hc5 => ?_)
    · have h := ifT hc5 h
      refine V_iconst (q := 39) dX10_boy_38 rfl rfl ?_
      exact V_iret rfl h dX10_boy_39
    · have h := ifF hc5 h
      refine V_iload_n (q := 14) dX10_boy_13 rfl rfl rfl ?_
      refine V_bipush (q := 16) dX10_boy_14 rfl rfl rfl ?_
      refine V_icmpgt (q := 38) (q2 := 19) dX10_boy_16 (by decide) rfl (fun hc6 => ?_) (fun hc6 => ?_)
      · have h := ifT hc6 h
        refine V_iconst (q := 39) dX10_boy_38 rfl rfl ?_
        exact V_iret rfl h dX10_boy_39
      · have h := ifF hc6 h
        refine V_aload_n (q := 20) dX10_boy_19 rfl rfl rfl ?_
        refine V_getO (q := 23) (t := 5) fl_X10_37 rfl rfl rfl rfl dX10_boy_20 rfl ?_
        refine V_iload_n (q := 24) dX10_boy_23 rfl rfl rfl ?_
        obtain ⟨v7, μ8, hc9, h⟩ := bd_i h
        refine V_cV1 (q := 27) (v := vI v7) (kX0_isOpen (d - 1) (by omega) rfl hc9) (by omega) mv_X10_217 rfl rfl rfl rfl rfl rfl dX10_boy_24 rfl ?_
        refine V_ifeq (q := 38) (q2 := 30) dX10_boy_27 (by decide) rfl (fun hc10 => ?_) (fun hc10 => ?_)
        · have h := ifT hc10 h
          refine V_iconst (q := 39) dX10_boy_38 rfl rfl ?_
          exact V_iret rfl h dX10_boy_39
        · have h := ifF hc10 h
          refine V_aload_n (q := 31) dX10_boy_30 rfl rfl rfl ?_
          refine V_iload_n (q := 32) dX10_boy_31 rfl rfl rfl ?_
          obtain ⟨v11, μ12, hc13, h⟩ := bd_i h
          refine V_cV1 (q := 35) (v := vI v11) (kX10_lay (d - 1) (by omega) hc13) (by omega) mv_X10_288 rfl rfl rfl rfl rfl rfl dX10_boy_32 rfl ?_
          refine V_ifne (q := 40) (q2 := 38) dX10_boy_35 (by decide) rfl (fun hc14 => ?_) (fun hc14 => ?_)
          · have h := ifF hc14 h
            refine V_aload_n (q := 41) dX10_boy_40 rfl rfl rfl ?_
            refine V_getO (q := 44) (t := 53) fl_X10_78 rfl rfl rfl rfl dX10_boy_41 rfl ?_
            refine V_aload_n (q := 45) dX10_boy_44 rfl rfl rfl ?_
            refine V_getO (q := 48) (t := 48) fl_X10_74 rfl rfl rfl rfl dX10_boy_45 rfl ?_
            obtain ⟨v15, μ16, hc17, h⟩ := bd_i h
            refine V_cV0 (q := 51) (kX1_copy (d - 1) (by omega) rfl rfl hc17) (by omega) mv_X10_358 rfl rfl rfl rfl rfl rfl dX10_boy_48 rfl ?_
            refine V_aload_n (q := 52) dX10_boy_51 rfl rfl rfl ?_
            refine V_getO (q := 55) (t := 53) fl_X10_78 rfl rfl rfl rfl dX10_boy_52 rfl ?_
            refine V_aload_n (q := 56) dX10_boy_55 rfl rfl rfl ?_
            refine V_getO (q := 59) (t := 5) fl_X10_37 rfl rfl rfl rfl dX10_boy_56 rfl ?_
            refine V_iload_n (q := 60) dX10_boy_59 rfl rfl rfl ?_
            refine V_iload_n (q := 61) dX10_boy_60 rfl rfl rfl ?_
            obtain ⟨v18, μ19, hc20, h⟩ := bd_i h
            refine V_cV0 (q := 64) (kX1_standAt (d - 1) (by omega) rfl rfl hc20) (by omega) mv_X10_360 rfl rfl rfl rfl rfl rfl dX10_boy_61 rfl ?_
            refine V_aload_n (q := 65) dX10_boy_64 rfl rfl rfl ?_
            refine V_getO (q := 68) (t := 62) fl_X10_93 rfl rfl rfl rfl dX10_boy_65 rfl ?_
            refine V_aload_n (q := 69) dX10_boy_68 rfl rfl rfl ?_
            refine V_getO (q := 72) (t := 48) fl_X10_74 rfl rfl rfl rfl dX10_boy_69 rfl ?_
            refine V_aload_n (q := 73) dX10_boy_72 rfl rfl rfl ?_
            refine V_getO (q := 76) (t := 53) fl_X10_78 rfl rfl rfl rfl dX10_boy_73 rfl ?_
            obtain ⟨v21, μ22, hc23, h⟩ := bd_i h
            refine V_cV1 (q := 79) (v := vI v21) (kX6_share (d - 1) (by omega) rfl rfl hc23) (by omega) mv_X10_364 rfl rfl rfl rfl rfl rfl dX10_boy_76 rfl ?_
            refine V_istore (q := 81) dX10_boy_79 (Nat.le_of_ble_eq_true rfl) trivial rfl ?_
            refine V_iload (q := 83) dX10_boy_81 rfl rfl ?_
            refine V_iconst (q := 84) dX10_boy_83 rfl rfl ?_
            refine V_icmpne (q := 89) (q2 := 87) dX10_boy_84 (by decide) rfl (fun hc24 => ?_) (fun hc24 => ?_)
            · have h := ifF hc24 h
              refine V_iload (q := 91) dX10_boy_89 rfl rfl ?_
              refine V_ifne (q := 99) (q2 := 94) dX10_boy_91 (by decide) rfl (fun hc25 => ?_) (fun hc25 => ?_)
              · have h := ifF hc25 h
                refine V_aload_n (q := 100) dX10_boy_99 rfl rfl rfl ?_
                refine V_getO (q := 103) (t := 62) fl_X10_93 rfl rfl rfl rfl dX10_boy_100 rfl ?_
                refine V_getI (q := 106) fl_X10_313 rfl rfl rfl dX10_boy_103 rfl ?_
                exact V_iret rfl h dX10_boy_106
              · have h := ifT hc25 h
                refine V_iload (q := 96) dX10_boy_94 rfl rfl ?_
                refine V_goto (q := 106) dX10_boy_96 (by decide) ?_
                exact V_iret rfl h dX10_boy_106
            · have h := ifT hc24 h
              refine V_iconst (q := 88) dX10_boy_87 rfl rfl ?_
              exact V_iret rfl h dX10_boy_88
          · have h := ifT hc14 h
            refine V_iconst (q := 39) dX10_boy_38 rfl rfl ?_
            exact V_iret rfl h dX10_boy_39
abbrev mX11_in : Mth := (yX11_in, cX11_in, 3, some .boolean)
set_option maxRecDepth 100000 in
theorem mi_X11_in : Cond.static yX11_in ∈ tG ∧ Cond.initialized yX11_in.cls ∈ tG ∧ Cond.code yX11_in cX11_in 3 (some .boolean) ∈ tG ∧ (yX11_in.cls ≠ "java/lang/invoke/MethodHandle" ∧ yX11_in.cls ≠ "java/lang/invoke/VarHandle" ∧ (parseMethodDescriptor yX11_in.desc).map (fun d => d.parameters.length) = some 3) ∧ 3 ≤ 60 := ⟨(tG_of (tb6 (List.mem_of_getElem? (i := 66) rfl)) (by decide +kernel)), (tG_of (tb1 (List.mem_of_getElem? (i := 12) rfl)) (by decide +kernel)), (tG_of (tb6 (List.mem_of_getElem? (i := 67) rfl)) (by decide +kernel)), ⟨by decide, by decide, by decide +kernel⟩, by decide⟩
set_option maxRecDepth 100000 in
theorem mv_X11_213 : mS RX11 213 mX11_in 3 := ⟨(tG_of (tb6 (List.mem_of_getElem? (i := 65) rfl)) (by decide +kernel)), mi_X11_in.1, (tG_of (tb1 (List.mem_of_getElem? (i := 12) rfl)) (by decide +kernel)), mi_X11_in.2⟩
theorem dX11_in_0 : decode cX11_in 0 = .ok (.iload_n 0, 1) := dc_26 (byA eNcX11_in (p := 0) (v := 26) (by decide +kernel))
theorem dX11_in_1 : decode cX11_in 1 = .ok (.iload_n 1, 1) := dc_27 (byA eNcX11_in (p := 1) (v := 27) (by decide +kernel))
theorem dX11_in_2 : decode cX11_in 2 = .ok (.if_icmp .lt 12, 3) := dc_161 (byA eNcX11_in (p := 2) (v := 161) (by decide +kernel)) (byA eNcX11_in (p := 3) (v := 0) (by decide +kernel)) (byA eNcX11_in (p := 4) (v := 12) (by decide +kernel)) (by decide +kernel)
theorem dX11_in_5 : decode cX11_in 5 = .ok (.iload_n 0, 1) := dc_26 (byA eNcX11_in (p := 5) (v := 26) (by decide +kernel))
theorem dX11_in_6 : decode cX11_in 6 = .ok (.iload_n 2, 1) := dc_28 (byA eNcX11_in (p := 6) (v := 28) (by decide +kernel))
theorem dX11_in_7 : decode cX11_in 7 = .ok (.if_icmp .gt 7, 3) := dc_163 (byA eNcX11_in (p := 7) (v := 163) (by decide +kernel)) (byA eNcX11_in (p := 8) (v := 0) (by decide +kernel)) (byA eNcX11_in (p := 9) (v := 7) (by decide +kernel)) (by decide +kernel)
theorem dX11_in_10 : decode cX11_in 10 = .ok (.iconst 1, 1) := dc_4 (byA eNcX11_in (p := 10) (v := 4) (by decide +kernel))
theorem dX11_in_11 : decode cX11_in 11 = .ok (.goto 4, 3) := dc_167 (byA eNcX11_in (p := 11) (v := 167) (by decide +kernel)) (byA eNcX11_in (p := 12) (v := 0) (by decide +kernel)) (byA eNcX11_in (p := 13) (v := 4) (by decide +kernel)) (by decide +kernel)
theorem dX11_in_14 : decode cX11_in 14 = .ok (.iconst 0, 1) := dc_3 (byA eNcX11_in (p := 14) (v := 3) (by decide +kernel))
theorem dX11_in_15 : decode cX11_in 15 = .ok (.ireturn, 1) := dc_172 (byA eNcX11_in (p := 15) (v := 172) (by decide +kernel))
def X11_in (l0 : Int) (l1 : Int) (l2 : Int) (μ : Mm) : Rs := if l0 < l1 then (some (0, μ)) else (if l2 < l0 then (some (0, μ)) else (some (1, μ)))
set_option maxHeartbeats 4000000 in
set_option maxRecDepth 100000 in
theorem kX11_in (d : Nat) (hd : 1 ≤ d) {l0 : Int} {l1 : Int} {l2 : Int} {μ : Mm} {r : Int} {μ' : Mm} (h : X11_in l0 l1 l2 μ = some (r, μ')) : CC d mX11_in [vI l0, vI l1, vI l2] μ r μ' := by
  unfold X11_in at h
  refine V_enter (by decide) (Nat.le_of_ble_eq_true rfl) ?_
  show VV d mX11_in 0 [some (vI l0), some (vI l1), some (vI l2)] [] μ r μ'
  refine V_iload_n (q := 1) dX11_in_0 rfl rfl rfl ?_
  refine V_iload_n (q := 2) dX11_in_1 rfl rfl rfl ?_
  refine V_icmplt (q := 14) (q2 := 5) dX11_in_2 (by decide) rfl (fun hc1 => ?_) (fun hc1 => ?_)
  · have h := ifT hc1 h
    refine V_iconst (q := 15) dX11_in_14 rfl rfl ?_
    exact V_zret rfl (Or.inl rfl) h dX11_in_15
  · have h := ifF hc1 h
    refine V_iload_n (q := 6) dX11_in_5 rfl rfl rfl ?_
    refine V_iload_n (q := 7) dX11_in_6 rfl rfl rfl ?_
    refine V_icmpgt (q := 14) (q2 := 10) dX11_in_7 (by decide) rfl (fun hc2 => ?_) (fun hc2 => ?_)
    · have h := ifT hc2 h
      refine V_iconst (q := 15) dX11_in_14 rfl rfl ?_
      exact V_zret rfl (Or.inl rfl) h dX11_in_15
    · have h := ifF hc2 h
      refine V_iconst (q := 11) dX11_in_10 rfl rfl ?_
      refine V_goto (q := 15) dX11_in_11 (by decide) ?_
      exact V_zret rfl (Or.inr rfl) h dX11_in_15
abbrev mX11_has : Mth := (yX11_has, cX11_has, 2, some .boolean)
set_option maxRecDepth 100000 in
theorem mi_X11_has : Cond.static yX11_has ∈ tG ∧ Cond.initialized yX11_has.cls ∈ tG ∧ Cond.code yX11_has cX11_has 2 (some .boolean) ∈ tG ∧ (yX11_has.cls ≠ "java/lang/invoke/MethodHandle" ∧ yX11_has.cls ≠ "java/lang/invoke/VarHandle" ∧ (parseMethodDescriptor yX11_has.desc).map (fun d => d.parameters.length) = some 2) ∧ 2 ≤ 60 := ⟨(tG_of (tb6 (List.mem_of_getElem? (i := 69) rfl)) (by decide +kernel)), (tG_of (tb1 (List.mem_of_getElem? (i := 12) rfl)) (by decide +kernel)), (tG_of (tb6 (List.mem_of_getElem? (i := 70) rfl)) (by decide +kernel)), ⟨by decide, by decide, by decide +kernel⟩, by decide⟩
set_option maxRecDepth 100000 in
theorem mv_X11_227 : mS RX11 227 mX11_has 2 := ⟨(tG_of (tb6 (List.mem_of_getElem? (i := 68) rfl)) (by decide +kernel)), mi_X11_has.1, (tG_of (tb1 (List.mem_of_getElem? (i := 12) rfl)) (by decide +kernel)), mi_X11_has.2⟩
theorem dX11_has_0 : decode cX11_has 0 = .ok (.iload_n 0, 1) := dc_26 (byA eNcX11_has (p := 0) (v := 26) (by decide +kernel))
theorem dX11_has_1 : decode cX11_has 1 = .ok (.iload_n 1, 1) := dc_27 (byA eNcX11_has (p := 1) (v := 27) (by decide +kernel))
theorem dX11_has_2 : decode cX11_has 2 = .ok (.ishr, 1) := dc_122 (byA eNcX11_has (p := 2) (v := 122) (by decide +kernel))
theorem dX11_has_3 : decode cX11_has 3 = .ok (.iconst 1, 1) := dc_4 (byA eNcX11_has (p := 3) (v := 4) (by decide +kernel))
theorem dX11_has_4 : decode cX11_has 4 = .ok (.iand, 1) := dc_126 (byA eNcX11_has (p := 4) (v := 126) (by decide +kernel))
theorem dX11_has_5 : decode cX11_has 5 = .ok (.iconst 1, 1) := dc_4 (byA eNcX11_has (p := 5) (v := 4) (by decide +kernel))
theorem dX11_has_6 : decode cX11_has 6 = .ok (.if_icmp .ne 7, 3) := dc_160 (byA eNcX11_has (p := 6) (v := 160) (by decide +kernel)) (byA eNcX11_has (p := 7) (v := 0) (by decide +kernel)) (byA eNcX11_has (p := 8) (v := 7) (by decide +kernel)) (by decide +kernel)
theorem dX11_has_9 : decode cX11_has 9 = .ok (.iconst 1, 1) := dc_4 (byA eNcX11_has (p := 9) (v := 4) (by decide +kernel))
theorem dX11_has_10 : decode cX11_has 10 = .ok (.goto 4, 3) := dc_167 (byA eNcX11_has (p := 10) (v := 167) (by decide +kernel)) (byA eNcX11_has (p := 11) (v := 0) (by decide +kernel)) (byA eNcX11_has (p := 12) (v := 4) (by decide +kernel)) (by decide +kernel)
theorem dX11_has_13 : decode cX11_has 13 = .ok (.iconst 0, 1) := dc_3 (byA eNcX11_has (p := 13) (v := 3) (by decide +kernel))
theorem dX11_has_14 : decode cX11_has 14 = .ok (.ireturn, 1) := dc_172 (byA eNcX11_has (p := 14) (v := 172) (by decide +kernel))
def X11_has (l0 : Int) (l1 : Int) (μ : Mm) : Rs := if (bA (bR l0 l1) 1) = 1 then (some (1, μ)) else (some (0, μ))
set_option maxHeartbeats 4000000 in
set_option maxRecDepth 100000 in
theorem kX11_has (d : Nat) (hd : 1 ≤ d) {l0 : Int} {l1 : Int} {μ : Mm} {r : Int} {μ' : Mm} (h : X11_has l0 l1 μ = some (r, μ')) : CC d mX11_has [vI l0, vI l1] μ r μ' := by
  unfold X11_has at h
  refine V_enter (by decide) (Nat.le_of_ble_eq_true rfl) ?_
  show VV d mX11_has 0 [some (vI l0), some (vI l1)] [] μ r μ'
  refine V_iload_n (q := 1) dX11_has_0 rfl rfl rfl ?_
  refine V_iload_n (q := 2) dX11_has_1 rfl rfl rfl ?_
  refine V_ishr (q := 3) dX11_has_2 rfl ?_
  refine V_iconst (q := 4) dX11_has_3 rfl rfl ?_
  refine V_iand (q := 5) dX11_has_4 rfl ?_
  refine V_iconst (q := 6) dX11_has_5 rfl rfl ?_
  refine V_icmpne (q := 13) (q2 := 9) dX11_has_6 (by decide) rfl (fun hc1 => ?_) (fun hc1 => ?_)
  · have h := ifF hc1 h
    refine V_iconst (q := 14) dX11_has_13 rfl rfl ?_
    exact V_zret rfl (Or.inl rfl) h dX11_has_14
  · have h := ifT hc1 h
    refine V_iconst (q := 10) dX11_has_9 rfl rfl ?_
    refine V_goto (q := 14) dX11_has_10 (by decide) ?_
    exact V_zret rfl (Or.inr rfl) h dX11_has_14
abbrev mX11_byteOf : Mth := (yX11_byteOf, cX11_byteOf, 7, some .int)
set_option maxRecDepth 100000 in
theorem mi_X11_byteOf : Cond.static yX11_byteOf ∈ tG ∧ Cond.initialized yX11_byteOf.cls ∈ tG ∧ Cond.code yX11_byteOf cX11_byteOf 7 (some .int) ∈ tG ∧ (yX11_byteOf.cls ≠ "java/lang/invoke/MethodHandle" ∧ yX11_byteOf.cls ≠ "java/lang/invoke/VarHandle" ∧ (parseMethodDescriptor yX11_byteOf.desc).map (fun d => d.parameters.length) = some 6) ∧ 7 ≤ 60 := ⟨(tG_of (tb6 (List.mem_of_getElem? (i := 36) rfl)) (by decide +kernel)), (tG_of (tb1 (List.mem_of_getElem? (i := 12) rfl)) (by decide +kernel)), (tG_of (tb6 (List.mem_of_getElem? (i := 37) rfl)) (by decide +kernel)), ⟨by decide, by decide, by decide +kernel⟩, by decide⟩
set_option maxRecDepth 100000 in
theorem mv_X11_101 : mS RX11 101 mX11_byteOf 6 := ⟨(tG_of (tb6 (List.mem_of_getElem? (i := 35) rfl)) (by decide +kernel)), mi_X11_byteOf.1, (tG_of (tb1 (List.mem_of_getElem? (i := 12) rfl)) (by decide +kernel)), mi_X11_byteOf.2⟩
theorem dX11_byteOf_0 : decode cX11_byteOf 0 = .ok (.iload 5, 2) := dc_21 (byA eNcX11_byteOf (p := 0) (v := 21) (by decide +kernel)) (byA eNcX11_byteOf (p := 1) (v := 5) (by decide +kernel))
theorem dX11_byteOf_2 : decode cX11_byteOf 2 = .ok (.iconst 4, 1) := dc_7 (byA eNcX11_byteOf (p := 2) (v := 7) (by decide +kernel))
theorem dX11_byteOf_3 : decode cX11_byteOf 3 = .ok (.if_icmp .ge 7, 3) := dc_162 (byA eNcX11_byteOf (p := 3) (v := 162) (by decide +kernel)) (byA eNcX11_byteOf (p := 4) (v := 0) (by decide +kernel)) (byA eNcX11_byteOf (p := 5) (v := 7) (by decide +kernel)) (by decide +kernel)
theorem dX11_byteOf_6 : decode cX11_byteOf 6 = .ok (.iload_n 0, 1) := dc_26 (byA eNcX11_byteOf (p := 6) (v := 26) (by decide +kernel))
theorem dX11_byteOf_7 : decode cX11_byteOf 7 = .ok (.goto 38, 3) := dc_167 (byA eNcX11_byteOf (p := 7) (v := 167) (by decide +kernel)) (byA eNcX11_byteOf (p := 8) (v := 0) (by decide +kernel)) (byA eNcX11_byteOf (p := 9) (v := 38) (by decide +kernel)) (by decide +kernel)
theorem dX11_byteOf_10 : decode cX11_byteOf 10 = .ok (.iload 5, 2) := dc_21 (byA eNcX11_byteOf (p := 10) (v := 21) (by decide +kernel)) (byA eNcX11_byteOf (p := 11) (v := 5) (by decide +kernel))
theorem dX11_byteOf_12 : decode cX11_byteOf 12 = .ok (.bipush 8, 2) := dc_16 (byA eNcX11_byteOf (p := 12) (v := 16) (by decide +kernel)) (byA eNcX11_byteOf (p := 13) (v := 8) (by decide +kernel)) (by decide +kernel)
theorem dX11_byteOf_14 : decode cX11_byteOf 14 = .ok (.if_icmp .ge 7, 3) := dc_162 (byA eNcX11_byteOf (p := 14) (v := 162) (by decide +kernel)) (byA eNcX11_byteOf (p := 15) (v := 0) (by decide +kernel)) (byA eNcX11_byteOf (p := 16) (v := 7) (by decide +kernel)) (by decide +kernel)
theorem dX11_byteOf_17 : decode cX11_byteOf 17 = .ok (.iload_n 1, 1) := dc_27 (byA eNcX11_byteOf (p := 17) (v := 27) (by decide +kernel))
theorem dX11_byteOf_18 : decode cX11_byteOf 18 = .ok (.goto 27, 3) := dc_167 (byA eNcX11_byteOf (p := 18) (v := 167) (by decide +kernel)) (byA eNcX11_byteOf (p := 19) (v := 0) (by decide +kernel)) (byA eNcX11_byteOf (p := 20) (v := 27) (by decide +kernel)) (by decide +kernel)
theorem dX11_byteOf_21 : decode cX11_byteOf 21 = .ok (.iload 5, 2) := dc_21 (byA eNcX11_byteOf (p := 21) (v := 21) (by decide +kernel)) (byA eNcX11_byteOf (p := 22) (v := 5) (by decide +kernel))
theorem dX11_byteOf_23 : decode cX11_byteOf 23 = .ok (.bipush 12, 2) := dc_16 (byA eNcX11_byteOf (p := 23) (v := 16) (by decide +kernel)) (byA eNcX11_byteOf (p := 24) (v := 12) (by decide +kernel)) (by decide +kernel)
theorem dX11_byteOf_25 : decode cX11_byteOf 25 = .ok (.if_icmp .ge 7, 3) := dc_162 (byA eNcX11_byteOf (p := 25) (v := 162) (by decide +kernel)) (byA eNcX11_byteOf (p := 26) (v := 0) (by decide +kernel)) (byA eNcX11_byteOf (p := 27) (v := 7) (by decide +kernel)) (by decide +kernel)
theorem dX11_byteOf_28 : decode cX11_byteOf 28 = .ok (.iload_n 2, 1) := dc_28 (byA eNcX11_byteOf (p := 28) (v := 28) (by decide +kernel))
theorem dX11_byteOf_29 : decode cX11_byteOf 29 = .ok (.goto 16, 3) := dc_167 (byA eNcX11_byteOf (p := 29) (v := 167) (by decide +kernel)) (byA eNcX11_byteOf (p := 30) (v := 0) (by decide +kernel)) (byA eNcX11_byteOf (p := 31) (v := 16) (by decide +kernel)) (by decide +kernel)
theorem dX11_byteOf_32 : decode cX11_byteOf 32 = .ok (.iload 5, 2) := dc_21 (byA eNcX11_byteOf (p := 32) (v := 21) (by decide +kernel)) (byA eNcX11_byteOf (p := 33) (v := 5) (by decide +kernel))
theorem dX11_byteOf_34 : decode cX11_byteOf 34 = .ok (.bipush 16, 2) := dc_16 (byA eNcX11_byteOf (p := 34) (v := 16) (by decide +kernel)) (byA eNcX11_byteOf (p := 35) (v := 16) (by decide +kernel)) (by decide +kernel)
theorem dX11_byteOf_36 : decode cX11_byteOf 36 = .ok (.if_icmp .ge 7, 3) := dc_162 (byA eNcX11_byteOf (p := 36) (v := 162) (by decide +kernel)) (byA eNcX11_byteOf (p := 37) (v := 0) (by decide +kernel)) (byA eNcX11_byteOf (p := 38) (v := 7) (by decide +kernel)) (by decide +kernel)
theorem dX11_byteOf_39 : decode cX11_byteOf 39 = .ok (.iload_n 3, 1) := dc_29 (byA eNcX11_byteOf (p := 39) (v := 29) (by decide +kernel))
theorem dX11_byteOf_40 : decode cX11_byteOf 40 = .ok (.goto 5, 3) := dc_167 (byA eNcX11_byteOf (p := 40) (v := 167) (by decide +kernel)) (byA eNcX11_byteOf (p := 41) (v := 0) (by decide +kernel)) (byA eNcX11_byteOf (p := 42) (v := 5) (by decide +kernel)) (by decide +kernel)
theorem dX11_byteOf_43 : decode cX11_byteOf 43 = .ok (.iload 4, 2) := dc_21 (byA eNcX11_byteOf (p := 43) (v := 21) (by decide +kernel)) (byA eNcX11_byteOf (p := 44) (v := 4) (by decide +kernel))
theorem dX11_byteOf_45 : decode cX11_byteOf 45 = .ok (.istore 6, 2) := dc_54 (byA eNcX11_byteOf (p := 45) (v := 54) (by decide +kernel)) (byA eNcX11_byteOf (p := 46) (v := 6) (by decide +kernel))
theorem dX11_byteOf_47 : decode cX11_byteOf 47 = .ok (.iload 6, 2) := dc_21 (byA eNcX11_byteOf (p := 47) (v := 21) (by decide +kernel)) (byA eNcX11_byteOf (p := 48) (v := 6) (by decide +kernel))
theorem dX11_byteOf_49 : decode cX11_byteOf 49 = .ok (.bipush 24, 2) := dc_16 (byA eNcX11_byteOf (p := 49) (v := 16) (by decide +kernel)) (byA eNcX11_byteOf (p := 50) (v := 24) (by decide +kernel)) (by decide +kernel)
theorem dX11_byteOf_51 : decode cX11_byteOf 51 = .ok (.bipush 8, 2) := dc_16 (byA eNcX11_byteOf (p := 51) (v := 16) (by decide +kernel)) (byA eNcX11_byteOf (p := 52) (v := 8) (by decide +kernel)) (by decide +kernel)
theorem dX11_byteOf_53 : decode cX11_byteOf 53 = .ok (.iload 5, 2) := dc_21 (byA eNcX11_byteOf (p := 53) (v := 21) (by decide +kernel)) (byA eNcX11_byteOf (p := 54) (v := 5) (by decide +kernel))
theorem dX11_byteOf_55 : decode cX11_byteOf 55 = .ok (.iconst 4, 1) := dc_7 (byA eNcX11_byteOf (p := 55) (v := 7) (by decide +kernel))
theorem dX11_byteOf_56 : decode cX11_byteOf 56 = .ok (.irem, 1) := dc_112 (byA eNcX11_byteOf (p := 56) (v := 112) (by decide +kernel))
theorem dX11_byteOf_57 : decode cX11_byteOf 57 = .ok (.imul, 1) := dc_104 (byA eNcX11_byteOf (p := 57) (v := 104) (by decide +kernel))
theorem dX11_byteOf_58 : decode cX11_byteOf 58 = .ok (.isub, 1) := dc_100 (byA eNcX11_byteOf (p := 58) (v := 100) (by decide +kernel))
theorem dX11_byteOf_59 : decode cX11_byteOf 59 = .ok (.ishr, 1) := dc_122 (byA eNcX11_byteOf (p := 59) (v := 122) (by decide +kernel))
theorem dX11_byteOf_60 : decode cX11_byteOf 60 = .ok (.sipush 255, 3) := dc_17 (byA eNcX11_byteOf (p := 60) (v := 17) (by decide +kernel)) (byA eNcX11_byteOf (p := 61) (v := 0) (by decide +kernel)) (byA eNcX11_byteOf (p := 62) (v := 255) (by decide +kernel)) (by decide +kernel)
theorem dX11_byteOf_63 : decode cX11_byteOf 63 = .ok (.iand, 1) := dc_126 (byA eNcX11_byteOf (p := 63) (v := 126) (by decide +kernel))
theorem dX11_byteOf_64 : decode cX11_byteOf 64 = .ok (.ireturn, 1) := dc_172 (byA eNcX11_byteOf (p := 64) (v := 172) (by decide +kernel))
def X11_byteOf_J45 (l5 : Int) (s0 : Int) (μ : Mm) : Rs := some (bA (bR s0 (iS 24 (iM 8 (iR l5 4)))) 255, μ)
def X11_byteOf (l0 : Int) (l1 : Int) (l2 : Int) (l3 : Int) (l4 : Int) (l5 : Int) (μ : Mm) : Rs := if 4 ≤ l5 then (if 8 ≤ l5 then (if 12 ≤ l5 then (if 16 ≤ l5 then (X11_byteOf_J45 l5 l4 μ) else (X11_byteOf_J45 l5 l3 μ)) else (X11_byteOf_J45 l5 l2 μ)) else (X11_byteOf_J45 l5 l1 μ)) else (X11_byteOf_J45 l5 l0 μ)
set_option maxHeartbeats 4000000 in
set_option maxRecDepth 100000 in
theorem kX11_byteOf_J45 (d : Nat) (hd : 1 ≤ d) {l5 : Int} {s0 : Int} {μ : Mm} {r : Int} {μ' : Mm} (h : X11_byteOf_J45 l5 s0 μ = some (r, μ')) : VV d mX11_byteOf 45 [none, none, none, none, none, some (vI l5), none] [vI s0] μ r μ' := by
  unfold X11_byteOf_J45 at h
  refine V_istore (q := 47) dX11_byteOf_45 (Nat.le_of_ble_eq_true rfl) trivial rfl ?_
  refine V_iload (q := 49) dX11_byteOf_47 rfl rfl ?_
  refine V_bipush (q := 51) dX11_byteOf_49 rfl rfl rfl ?_
  refine V_bipush (q := 53) dX11_byteOf_51 rfl rfl rfl ?_
  refine V_iload (q := 55) dX11_byteOf_53 rfl rfl ?_
  refine V_iconst (q := 56) dX11_byteOf_55 rfl rfl ?_
  refine V_irem (q := 57) dX11_byteOf_56 (by decide) rfl ?_
  refine V_imul (q := 58) dX11_byteOf_57 rfl ?_
  refine V_isub (q := 59) dX11_byteOf_58 rfl ?_
  refine V_ishr (q := 60) dX11_byteOf_59 rfl ?_
  refine V_sipush (q := 63) dX11_byteOf_60 rfl rfl rfl ?_
  refine V_iand (q := 64) dX11_byteOf_63 rfl ?_
  exact V_iret rfl h dX11_byteOf_64
set_option maxHeartbeats 4000000 in
set_option maxRecDepth 100000 in
theorem kX11_byteOf (d : Nat) (hd : 1 ≤ d) {l0 : Int} {l1 : Int} {l2 : Int} {l3 : Int} {l4 : Int} {l5 : Int} {μ : Mm} {r : Int} {μ' : Mm} (h : X11_byteOf l0 l1 l2 l3 l4 l5 μ = some (r, μ')) : CC d mX11_byteOf [vI l0, vI l1, vI l2, vI l3, vI l4, vI l5] μ r μ' := by
  unfold X11_byteOf at h
  refine V_enter (by decide) (Nat.le_of_ble_eq_true rfl) ?_
  show VV d mX11_byteOf 0 [some (vI l0), some (vI l1), some (vI l2), some (vI l3), some (vI l4), some (vI l5), none] [] μ r μ'
  refine V_iload (q := 2) dX11_byteOf_0 rfl rfl ?_
  refine V_iconst (q := 3) dX11_byteOf_2 rfl rfl ?_
  refine V_icmpge (q := 10) (q2 := 6) dX11_byteOf_3 (by decide) rfl (fun hc1 => ?_) (fun hc1 => ?_)
  · have h := ifT hc1 h
    refine V_iload (q := 12) dX11_byteOf_10 rfl rfl ?_
    refine V_bipush (q := 14) dX11_byteOf_12 rfl rfl rfl ?_
    refine V_icmpge (q := 21) (q2 := 17) dX11_byteOf_14 (by decide) rfl (fun hc2 => ?_) (fun hc2 => ?_)
    · have h := ifT hc2 h
      refine V_iload (q := 23) dX11_byteOf_21 rfl rfl ?_
      refine V_bipush (q := 25) dX11_byteOf_23 rfl rfl rfl ?_
      refine V_icmpge (q := 32) (q2 := 28) dX11_byteOf_25 (by decide) rfl (fun hc3 => ?_) (fun hc3 => ?_)
      · have h := ifT hc3 h
        refine V_iload (q := 34) dX11_byteOf_32 rfl rfl ?_
        refine V_bipush (q := 36) dX11_byteOf_34 rfl rfl rfl ?_
        refine V_icmpge (q := 43) (q2 := 39) dX11_byteOf_36 (by decide) rfl (fun hc4 => ?_) (fun hc4 => ?_)
        · have h := ifT hc4 h
          refine V_iload (q := 45) dX11_byteOf_43 rfl rfl ?_
          exact V_weak (kX11_byteOf_J45 d hd h) (sb_n (sb_n (sb_n (sb_n (sb_n (sb_s rfl (sb_n sb_0)))))))
        · have h := ifF hc4 h
          refine V_iload_n (q := 40) dX11_byteOf_39 rfl rfl rfl ?_
          refine V_goto (q := 45) dX11_byteOf_40 (by decide) ?_
          exact V_weak (kX11_byteOf_J45 d hd h) (sb_n (sb_n (sb_n (sb_n (sb_n (sb_s rfl (sb_n sb_0)))))))
      · have h := ifF hc3 h
        refine V_iload_n (q := 29) dX11_byteOf_28 rfl rfl rfl ?_
        refine V_goto (q := 45) dX11_byteOf_29 (by decide) ?_
        exact V_weak (kX11_byteOf_J45 d hd h) (sb_n (sb_n (sb_n (sb_n (sb_n (sb_s rfl (sb_n sb_0)))))))
    · have h := ifF hc2 h
      refine V_iload_n (q := 18) dX11_byteOf_17 rfl rfl rfl ?_
      refine V_goto (q := 45) dX11_byteOf_18 (by decide) ?_
      exact V_weak (kX11_byteOf_J45 d hd h) (sb_n (sb_n (sb_n (sb_n (sb_n (sb_s rfl (sb_n sb_0)))))))
  · have h := ifF hc1 h
    refine V_iload_n (q := 7) dX11_byteOf_6 rfl rfl rfl ?_
    refine V_goto (q := 45) dX11_byteOf_7 (by decide) ?_
    exact V_weak (kX11_byteOf_J45 d hd h) (sb_n (sb_n (sb_n (sb_n (sb_n (sb_s rfl (sb_n sb_0)))))))
abbrev mX11_feed : Mth := (yX11_feed, cX11_feed, 9, some .int)
set_option maxRecDepth 100000 in
theorem mi_X11_feed : Cond.instanceMethod yX11_feed ∈ tG ∧ Cond.selects yX11_feed.cls yX11_feed yX11_feed ∈ tG ∧ Cond.initialized yX11_feed.cls ∈ tG ∧ Cond.code yX11_feed cX11_feed 9 (some .int) ∈ tG ∧ (yX11_feed.cls ≠ "java/lang/invoke/MethodHandle" ∧ yX11_feed.cls ≠ "java/lang/invoke/VarHandle" ∧ (parseMethodDescriptor yX11_feed.desc).map (fun d => d.parameters.length) = some 5) ∧ 9 ≤ 60 := ⟨(tG_of (tb6 (List.mem_of_getElem? (i := 32) rfl)) (by decide +kernel)), (tG_of (tb6 (List.mem_of_getElem? (i := 33) rfl)) (by decide +kernel)), (tG_of (tb1 (List.mem_of_getElem? (i := 12) rfl)) (by decide +kernel)), (tG_of (tb6 (List.mem_of_getElem? (i := 34) rfl)) (by decide +kernel)), ⟨by decide, by decide, by decide +kernel⟩, by decide⟩
theorem dX11_feed_0 : decode cX11_feed 0 = .ok (.iconst 0, 1) := dc_3 (byA eNcX11_feed (p := 0) (v := 3) (by decide +kernel))
theorem dX11_feed_1 : decode cX11_feed 1 = .ok (.istore 6, 2) := dc_54 (byA eNcX11_feed (p := 1) (v := 54) (by decide +kernel)) (byA eNcX11_feed (p := 2) (v := 6) (by decide +kernel))
theorem dX11_feed_3 : decode cX11_feed 3 = .ok (.iconst 0, 1) := dc_3 (byA eNcX11_feed (p := 3) (v := 3) (by decide +kernel))
theorem dX11_feed_4 : decode cX11_feed 4 = .ok (.istore 7, 2) := dc_54 (byA eNcX11_feed (p := 4) (v := 54) (by decide +kernel)) (byA eNcX11_feed (p := 5) (v := 7) (by decide +kernel))
theorem dX11_feed_6 : decode cX11_feed 6 = .ok (.iload 7, 2) := dc_21 (byA eNcX11_feed (p := 6) (v := 21) (by decide +kernel)) (byA eNcX11_feed (p := 7) (v := 7) (by decide +kernel))
theorem dX11_feed_8 : decode cX11_feed 8 = .ok (.bipush 20, 2) := dc_16 (byA eNcX11_feed (p := 8) (v := 16) (by decide +kernel)) (byA eNcX11_feed (p := 9) (v := 20) (by decide +kernel)) (by decide +kernel)
theorem dX11_feed_10 : decode cX11_feed 10 = .ok (.if_icmp .ge 34, 3) := dc_162 (byA eNcX11_feed (p := 10) (v := 162) (by decide +kernel)) (byA eNcX11_feed (p := 11) (v := 0) (by decide +kernel)) (byA eNcX11_feed (p := 12) (v := 34) (by decide +kernel)) (by decide +kernel)
theorem dX11_feed_13 : decode cX11_feed 13 = .ok (.iload 6, 2) := dc_21 (byA eNcX11_feed (p := 13) (v := 21) (by decide +kernel)) (byA eNcX11_feed (p := 14) (v := 6) (by decide +kernel))
theorem dX11_feed_15 : decode cX11_feed 15 = .ok (.iload_n 1, 1) := dc_27 (byA eNcX11_feed (p := 15) (v := 27) (by decide +kernel))
theorem dX11_feed_16 : decode cX11_feed 16 = .ok (.iload_n 2, 1) := dc_28 (byA eNcX11_feed (p := 16) (v := 28) (by decide +kernel))
theorem dX11_feed_17 : decode cX11_feed 17 = .ok (.iload_n 3, 1) := dc_29 (byA eNcX11_feed (p := 17) (v := 29) (by decide +kernel))
theorem dX11_feed_18 : decode cX11_feed 18 = .ok (.iload 4, 2) := dc_21 (byA eNcX11_feed (p := 18) (v := 21) (by decide +kernel)) (byA eNcX11_feed (p := 19) (v := 4) (by decide +kernel))
theorem dX11_feed_20 : decode cX11_feed 20 = .ok (.iload 5, 2) := dc_21 (byA eNcX11_feed (p := 20) (v := 21) (by decide +kernel)) (byA eNcX11_feed (p := 21) (v := 5) (by decide +kernel))
theorem dX11_feed_22 : decode cX11_feed 22 = .ok (.iload 7, 2) := dc_21 (byA eNcX11_feed (p := 22) (v := 21) (by decide +kernel)) (byA eNcX11_feed (p := 23) (v := 7) (by decide +kernel))
theorem dX11_feed_24 : decode cX11_feed 24 = .ok (.invokestatic 101, 3) := dc_184 (byA eNcX11_feed (p := 24) (v := 184) (by decide +kernel)) (byA eNcX11_feed (p := 25) (v := 0) (by decide +kernel)) (byA eNcX11_feed (p := 26) (v := 101) (by decide +kernel)) rfl
theorem dX11_feed_27 : decode cX11_feed 27 = .ok (.ifCond .eq 7, 3) := dc_153 (byA eNcX11_feed (p := 27) (v := 153) (by decide +kernel)) (byA eNcX11_feed (p := 28) (v := 0) (by decide +kernel)) (byA eNcX11_feed (p := 29) (v := 7) (by decide +kernel)) (by decide +kernel)
theorem dX11_feed_30 : decode cX11_feed 30 = .ok (.iconst 1, 1) := dc_4 (byA eNcX11_feed (p := 30) (v := 4) (by decide +kernel))
theorem dX11_feed_31 : decode cX11_feed 31 = .ok (.goto 4, 3) := dc_167 (byA eNcX11_feed (p := 31) (v := 167) (by decide +kernel)) (byA eNcX11_feed (p := 32) (v := 0) (by decide +kernel)) (byA eNcX11_feed (p := 33) (v := 4) (by decide +kernel)) (by decide +kernel)
theorem dX11_feed_34 : decode cX11_feed 34 = .ok (.iconst 0, 1) := dc_3 (byA eNcX11_feed (p := 34) (v := 3) (by decide +kernel))
theorem dX11_feed_35 : decode cX11_feed 35 = .ok (.iadd, 1) := dc_96 (byA eNcX11_feed (p := 35) (v := 96) (by decide +kernel))
theorem dX11_feed_36 : decode cX11_feed 36 = .ok (.istore 6, 2) := dc_54 (byA eNcX11_feed (p := 36) (v := 54) (by decide +kernel)) (byA eNcX11_feed (p := 37) (v := 6) (by decide +kernel))
theorem dX11_feed_38 : decode cX11_feed 38 = .ok (.iinc 7 1, 3) := dc_132 (byA eNcX11_feed (p := 38) (v := 132) (by decide +kernel)) (byA eNcX11_feed (p := 39) (v := 7) (by decide +kernel)) (byA eNcX11_feed (p := 40) (v := 1) (by decide +kernel)) (by decide +kernel)
theorem dX11_feed_41 : decode cX11_feed 41 = .ok (.goto (-35), 3) := dc_167 (byA eNcX11_feed (p := 41) (v := 167) (by decide +kernel)) (byA eNcX11_feed (p := 42) (v := 255) (by decide +kernel)) (byA eNcX11_feed (p := 43) (v := 221) (by decide +kernel)) (by decide +kernel)
theorem dX11_feed_44 : decode cX11_feed 44 = .ok (.aload_n 0, 1) := dc_42 (byA eNcX11_feed (p := 44) (v := 42) (by decide +kernel))
theorem dX11_feed_45 : decode cX11_feed 45 = .ok (.getfield 105, 3) := dc_180 (byA eNcX11_feed (p := 45) (v := 180) (by decide +kernel)) (byA eNcX11_feed (p := 46) (v := 0) (by decide +kernel)) (byA eNcX11_feed (p := 47) (v := 105) (by decide +kernel)) rfl
theorem dX11_feed_48 : decode cX11_feed 48 = .ok (.iload 6, 2) := dc_21 (byA eNcX11_feed (p := 48) (v := 21) (by decide +kernel)) (byA eNcX11_feed (p := 49) (v := 6) (by decide +kernel))
theorem dX11_feed_50 : decode cX11_feed 50 = .ok (.iadd, 1) := dc_96 (byA eNcX11_feed (p := 50) (v := 96) (by decide +kernel))
theorem dX11_feed_51 : decode cX11_feed 51 = .ok (.sipush 160, 3) := dc_17 (byA eNcX11_feed (p := 51) (v := 17) (by decide +kernel)) (byA eNcX11_feed (p := 52) (v := 0) (by decide +kernel)) (byA eNcX11_feed (p := 53) (v := 160) (by decide +kernel)) (by decide +kernel)
theorem dX11_feed_54 : decode cX11_feed 54 = .ok (.if_icmp .le 5, 3) := dc_164 (byA eNcX11_feed (p := 54) (v := 164) (by decide +kernel)) (byA eNcX11_feed (p := 55) (v := 0) (by decide +kernel)) (byA eNcX11_feed (p := 56) (v := 5) (by decide +kernel)) (by decide +kernel)
theorem dX11_feed_57 : decode cX11_feed 57 = .ok (.iconst (-1), 1) := dc_2 (byA eNcX11_feed (p := 57) (v := 2) (by decide +kernel))
theorem dX11_feed_58 : decode cX11_feed 58 = .ok (.ireturn, 1) := dc_172 (byA eNcX11_feed (p := 58) (v := 172) (by decide +kernel))
theorem dX11_feed_59 : decode cX11_feed 59 = .ok (.iconst 0, 1) := dc_3 (byA eNcX11_feed (p := 59) (v := 3) (by decide +kernel))
theorem dX11_feed_60 : decode cX11_feed 60 = .ok (.istore 7, 2) := dc_54 (byA eNcX11_feed (p := 60) (v := 54) (by decide +kernel)) (byA eNcX11_feed (p := 61) (v := 7) (by decide +kernel))
theorem dX11_feed_62 : decode cX11_feed 62 = .ok (.iload 7, 2) := dc_21 (byA eNcX11_feed (p := 62) (v := 21) (by decide +kernel)) (byA eNcX11_feed (p := 63) (v := 7) (by decide +kernel))
theorem dX11_feed_64 : decode cX11_feed 64 = .ok (.bipush 20, 2) := dc_16 (byA eNcX11_feed (p := 64) (v := 16) (by decide +kernel)) (byA eNcX11_feed (p := 65) (v := 20) (by decide +kernel)) (by decide +kernel)
theorem dX11_feed_66 : decode cX11_feed 66 = .ok (.if_icmp .ge 49, 3) := dc_162 (byA eNcX11_feed (p := 66) (v := 162) (by decide +kernel)) (byA eNcX11_feed (p := 67) (v := 0) (by decide +kernel)) (byA eNcX11_feed (p := 68) (v := 49) (by decide +kernel)) (by decide +kernel)
theorem dX11_feed_69 : decode cX11_feed 69 = .ok (.iload_n 1, 1) := dc_27 (byA eNcX11_feed (p := 69) (v := 27) (by decide +kernel))
theorem dX11_feed_70 : decode cX11_feed 70 = .ok (.iload_n 2, 1) := dc_28 (byA eNcX11_feed (p := 70) (v := 28) (by decide +kernel))
theorem dX11_feed_71 : decode cX11_feed 71 = .ok (.iload_n 3, 1) := dc_29 (byA eNcX11_feed (p := 71) (v := 29) (by decide +kernel))
theorem dX11_feed_72 : decode cX11_feed 72 = .ok (.iload 4, 2) := dc_21 (byA eNcX11_feed (p := 72) (v := 21) (by decide +kernel)) (byA eNcX11_feed (p := 73) (v := 4) (by decide +kernel))
theorem dX11_feed_74 : decode cX11_feed 74 = .ok (.iload 5, 2) := dc_21 (byA eNcX11_feed (p := 74) (v := 21) (by decide +kernel)) (byA eNcX11_feed (p := 75) (v := 5) (by decide +kernel))
theorem dX11_feed_76 : decode cX11_feed 76 = .ok (.iload 7, 2) := dc_21 (byA eNcX11_feed (p := 76) (v := 21) (by decide +kernel)) (byA eNcX11_feed (p := 77) (v := 7) (by decide +kernel))
theorem dX11_feed_78 : decode cX11_feed 78 = .ok (.invokestatic 101, 3) := dc_184 (byA eNcX11_feed (p := 78) (v := 184) (by decide +kernel)) (byA eNcX11_feed (p := 79) (v := 0) (by decide +kernel)) (byA eNcX11_feed (p := 80) (v := 101) (by decide +kernel)) rfl
theorem dX11_feed_81 : decode cX11_feed 81 = .ok (.istore 8, 2) := dc_54 (byA eNcX11_feed (p := 81) (v := 54) (by decide +kernel)) (byA eNcX11_feed (p := 82) (v := 8) (by decide +kernel))
theorem dX11_feed_83 : decode cX11_feed 83 = .ok (.iload 8, 2) := dc_21 (byA eNcX11_feed (p := 83) (v := 21) (by decide +kernel)) (byA eNcX11_feed (p := 84) (v := 8) (by decide +kernel))
theorem dX11_feed_85 : decode cX11_feed 85 = .ok (.ifCond .eq 24, 3) := dc_153 (byA eNcX11_feed (p := 85) (v := 153) (by decide +kernel)) (byA eNcX11_feed (p := 86) (v := 0) (by decide +kernel)) (byA eNcX11_feed (p := 87) (v := 24) (by decide +kernel)) (by decide +kernel)
theorem dX11_feed_88 : decode cX11_feed 88 = .ok (.aload_n 0, 1) := dc_42 (byA eNcX11_feed (p := 88) (v := 42) (by decide +kernel))
theorem dX11_feed_89 : decode cX11_feed 89 = .ok (.getfield 9, 3) := dc_180 (byA eNcX11_feed (p := 89) (v := 180) (by decide +kernel)) (byA eNcX11_feed (p := 90) (v := 0) (by decide +kernel)) (byA eNcX11_feed (p := 91) (v := 9) (by decide +kernel)) rfl
theorem dX11_feed_92 : decode cX11_feed 92 = .ok (.aload_n 0, 1) := dc_42 (byA eNcX11_feed (p := 92) (v := 42) (by decide +kernel))
theorem dX11_feed_93 : decode cX11_feed 93 = .ok (.getfield 105, 3) := dc_180 (byA eNcX11_feed (p := 93) (v := 180) (by decide +kernel)) (byA eNcX11_feed (p := 94) (v := 0) (by decide +kernel)) (byA eNcX11_feed (p := 95) (v := 105) (by decide +kernel)) rfl
theorem dX11_feed_96 : decode cX11_feed 96 = .ok (.iload 8, 2) := dc_21 (byA eNcX11_feed (p := 96) (v := 21) (by decide +kernel)) (byA eNcX11_feed (p := 97) (v := 8) (by decide +kernel))
theorem dX11_feed_98 : decode cX11_feed 98 = .ok (.iastore, 1) := dc_79 (byA eNcX11_feed (p := 98) (v := 79) (by decide +kernel))
theorem dX11_feed_99 : decode cX11_feed 99 = .ok (.aload_n 0, 1) := dc_42 (byA eNcX11_feed (p := 99) (v := 42) (by decide +kernel))
theorem dX11_feed_100 : decode cX11_feed 100 = .ok (.dup, 1) := dc_89 (byA eNcX11_feed (p := 100) (v := 89) (by decide +kernel))
theorem dX11_feed_101 : decode cX11_feed 101 = .ok (.getfield 105, 3) := dc_180 (byA eNcX11_feed (p := 101) (v := 180) (by decide +kernel)) (byA eNcX11_feed (p := 102) (v := 0) (by decide +kernel)) (byA eNcX11_feed (p := 103) (v := 105) (by decide +kernel)) rfl
theorem dX11_feed_104 : decode cX11_feed 104 = .ok (.iconst 1, 1) := dc_4 (byA eNcX11_feed (p := 104) (v := 4) (by decide +kernel))
theorem dX11_feed_105 : decode cX11_feed 105 = .ok (.iadd, 1) := dc_96 (byA eNcX11_feed (p := 105) (v := 96) (by decide +kernel))
theorem dX11_feed_106 : decode cX11_feed 106 = .ok (.putfield 105, 3) := dc_181 (byA eNcX11_feed (p := 106) (v := 181) (by decide +kernel)) (byA eNcX11_feed (p := 107) (v := 0) (by decide +kernel)) (byA eNcX11_feed (p := 108) (v := 105) (by decide +kernel)) rfl
theorem dX11_feed_109 : decode cX11_feed 109 = .ok (.iinc 7 1, 3) := dc_132 (byA eNcX11_feed (p := 109) (v := 132) (by decide +kernel)) (byA eNcX11_feed (p := 110) (v := 7) (by decide +kernel)) (byA eNcX11_feed (p := 111) (v := 1) (by decide +kernel)) (by decide +kernel)
theorem dX11_feed_112 : decode cX11_feed 112 = .ok (.goto (-50), 3) := dc_167 (byA eNcX11_feed (p := 112) (v := 167) (by decide +kernel)) (byA eNcX11_feed (p := 113) (v := 255) (by decide +kernel)) (byA eNcX11_feed (p := 114) (v := 206) (by decide +kernel)) (by decide +kernel)
theorem dX11_feed_115 : decode cX11_feed 115 = .ok (.aload_n 0, 1) := dc_42 (byA eNcX11_feed (p := 115) (v := 42) (by decide +kernel))
theorem dX11_feed_116 : decode cX11_feed 116 = .ok (.getfield 105, 3) := dc_180 (byA eNcX11_feed (p := 116) (v := 180) (by decide +kernel)) (byA eNcX11_feed (p := 117) (v := 0) (by decide +kernel)) (byA eNcX11_feed (p := 118) (v := 105) (by decide +kernel)) rfl
theorem dX11_feed_119 : decode cX11_feed 119 = .ok (.ireturn, 1) := dc_172 (byA eNcX11_feed (p := 119) (v := 172) (by decide +kernel))
def X11_feed_L6 (l1 : Int) (l2 : Int) (l3 : Int) (l4 : Int) (l5 : Int) (k44 : Int → Mm → Rs) : Nat → Int → Int → Mm → Rs
  | 0, _, _, _ => none
  | n + 1, l6, l7, μ => if 20 ≤ l7 then (k44 l6 μ) else (bd (X11_byteOf l1 l2 l3 l4 l5 l7 μ) fun v2 μ3 => if v2 = 0 then (X11_feed_L6 l1 l2 l3 l4 l5 k44 n (iA l6 0) (iA l7 1) μ3) else (X11_feed_L6 l1 l2 l3 l4 l5 k44 n (iA l6 1) (iA l7 1) μ3))
def X11_feed_L62 (l1 : Int) (l2 : Int) (l3 : Int) (l4 : Int) (l5 : Int) : Nat → Int → Mm → Rs
  | 0, _, _ => none
  | n + 1, l7, μ => if 20 ≤ l7 then (some (μ 70 2, μ)) else (bd (X11_byteOf l1 l2 l3 l4 l5 l7 μ) fun v10 μ11 => if v10 = 0 then (X11_feed_L62 l1 l2 l3 l4 l5 n (iA l7 1) μ11) else (stA μ11 71 (μ11 70 2) v10 fun μ14 => sF μ14 70 2 (iA (μ14 70 2) 1) fun μ16 => X11_feed_L62 l1 l2 l3 l4 l5 n (iA l7 1) μ16))
def X11_feed (l1 : Int) (l2 : Int) (l3 : Int) (l4 : Int) (l5 : Int) (μ : Mm) : Rs := X11_feed_L6 l1 l2 l3 l4 l5 (fun v6 μ7 => if (iA (μ7 70 2) v6) ≤ 160 then (X11_feed_L62 l1 l2 l3 l4 l5 FU 0 μ7) else (some ((-1), μ7))) FU 0 0 μ
set_option maxHeartbeats 4000000 in
set_option maxRecDepth 100000 in
theorem kX11_feed_L6 (d : Nat) (hd : 2 ≤ d) {l1 : Int} {l2 : Int} {l3 : Int} {l4 : Int} {l5 : Int} {k44 : Int → Mm → Rs} {r : Int} {μ' : Mm} (hk_44 : ∀ (v6 : Int) (μ1 : Mm), k44 v6 μ1 = some (r, μ') → VV d mX11_feed 44 [some (vR 70), some (vI l1), some (vI l2), some (vI l3), some (vI l4), some (vI l5), some (vI v6), none, none] [] μ1 r μ') : ∀ (n : Nat) {l6 l7 : Int} {μ : Mm}, X11_feed_L6 l1 l2 l3 l4 l5 k44 n l6 l7 μ = some (r, μ') → VV d mX11_feed 6 [some (vR 70), some (vI l1), some (vI l2), some (vI l3), some (vI l4), some (vI l5), some (vI l6), some (vI l7), none] [] μ r μ' := by
  intro n
  induction n with
  | zero => intro l6 l7 μ h; rw [X11_feed_L6] at h; cases h
  | succ n ih =>
    intro l6 l7 μ h
    rw [X11_feed_L6] at h
    refine V_iload (q := 8) dX11_feed_6 rfl rfl ?_
    refine V_bipush (q := 10) dX11_feed_8 rfl rfl rfl ?_
    refine V_icmpge (q := 44) (q2 := 13) dX11_feed_10 (by decide) rfl (fun hc1 => ?_) (fun hc1 => ?_)
    · have h := ifT hc1 h
      exact V_weak (hk_44 _ _ h) (sb_s rfl (sb_s rfl (sb_s rfl (sb_s rfl (sb_s rfl (sb_s rfl (sb_s rfl (sb_n (sb_n sb_0)))))))))
    · have h := ifF hc1 h
      refine V_iload (q := 15) dX11_feed_13 rfl rfl ?_
      refine V_iload_n (q := 16) dX11_feed_15 rfl rfl rfl ?_
      refine V_iload_n (q := 17) dX11_feed_16 rfl rfl rfl ?_
      refine V_iload_n (q := 18) dX11_feed_17 rfl rfl rfl ?_
      refine V_iload (q := 20) dX11_feed_18 rfl rfl ?_
      refine V_iload (q := 22) dX11_feed_20 rfl rfl ?_
      refine V_iload (q := 24) dX11_feed_22 rfl rfl ?_
      obtain ⟨v2, μ3, hc4, h⟩ := bd_i h
      refine V_cS1 (q := 27) (v := vI v2) (kX11_byteOf (d - 1) (by omega) hc4) (by omega) mv_X11_101 rfl rfl rfl rfl dX11_feed_24 rfl ?_
      refine V_ifeq (q := 34) (q2 := 30) dX11_feed_27 (by decide) rfl (fun hc5 => ?_) (fun hc5 => ?_)
      · have h := ifT hc5 h
        refine V_iconst (q := 35) dX11_feed_34 rfl rfl ?_
        refine V_iadd (q := 36) dX11_feed_35 rfl ?_
        refine V_istore (q := 38) dX11_feed_36 (Nat.le_of_ble_eq_true rfl) trivial rfl ?_
        refine V_iinc (q := 41) dX11_feed_38 rfl (Nat.le_of_ble_eq_true rfl) trivial rfl ?_
        refine V_goto (q := 6) dX11_feed_41 (by decide) ?_
        exact V_weak (ih h) (sb_s rfl (sb_s rfl (sb_s rfl (sb_s rfl (sb_s rfl (sb_s rfl (sb_s rfl (sb_s rfl (sb_n sb_0)))))))))
      · have h := ifF hc5 h
        refine V_iconst (q := 31) dX11_feed_30 rfl rfl ?_
        refine V_goto (q := 35) dX11_feed_31 (by decide) ?_
        refine V_iadd (q := 36) dX11_feed_35 rfl ?_
        refine V_istore (q := 38) dX11_feed_36 (Nat.le_of_ble_eq_true rfl) trivial rfl ?_
        refine V_iinc (q := 41) dX11_feed_38 rfl (Nat.le_of_ble_eq_true rfl) trivial rfl ?_
        refine V_goto (q := 6) dX11_feed_41 (by decide) ?_
        exact V_weak (ih h) (sb_s rfl (sb_s rfl (sb_s rfl (sb_s rfl (sb_s rfl (sb_s rfl (sb_s rfl (sb_s rfl (sb_n sb_0)))))))))
set_option maxHeartbeats 4000000 in
set_option maxRecDepth 100000 in
theorem kX11_feed_L62 (d : Nat) (hd : 2 ≤ d) {l1 : Int} {l2 : Int} {l3 : Int} {l4 : Int} {l5 : Int} {r : Int} {μ' : Mm} : ∀ (n : Nat) {l7 : Int} {μ : Mm}, X11_feed_L62 l1 l2 l3 l4 l5 n l7 μ = some (r, μ') → VV d mX11_feed 62 [some (vR 70), some (vI l1), some (vI l2), some (vI l3), some (vI l4), some (vI l5), none, some (vI l7), none] [] μ r μ' := by
  intro n
  induction n with
  | zero => intro l7 μ h; rw [X11_feed_L62] at h; cases h
  | succ n ih =>
    intro l7 μ h
    rw [X11_feed_L62] at h
    refine V_iload (q := 64) dX11_feed_62 rfl rfl ?_
    refine V_bipush (q := 66) dX11_feed_64 rfl rfl rfl ?_
    refine V_icmpge (q := 115) (q2 := 69) dX11_feed_66 (by decide) rfl (fun hc9 => ?_) (fun hc9 => ?_)
    · have h := ifT hc9 h
      refine V_aload_n (q := 116) dX11_feed_115 rfl rfl rfl ?_
      refine V_getI (q := 119) fl_X11_105 rfl rfl rfl dX11_feed_116 rfl ?_
      exact V_iret rfl h dX11_feed_119
    · have h := ifF hc9 h
      refine V_iload_n (q := 70) dX11_feed_69 rfl rfl rfl ?_
      refine V_iload_n (q := 71) dX11_feed_70 rfl rfl rfl ?_
      refine V_iload_n (q := 72) dX11_feed_71 rfl rfl rfl ?_
      refine V_iload (q := 74) dX11_feed_72 rfl rfl ?_
      refine V_iload (q := 76) dX11_feed_74 rfl rfl ?_
      refine V_iload (q := 78) dX11_feed_76 rfl rfl ?_
      obtain ⟨v10, μ11, hc12, h⟩ := bd_i h
      refine V_cS1 (q := 81) (v := vI v10) (kX11_byteOf (d - 1) (by omega) hc12) (by omega) mv_X11_101 rfl rfl rfl rfl dX11_feed_78 rfl ?_
      refine V_istore (q := 83) dX11_feed_81 (Nat.le_of_ble_eq_true rfl) trivial rfl ?_
      refine V_iload (q := 85) dX11_feed_83 rfl rfl ?_
      refine V_ifeq (q := 109) (q2 := 88) dX11_feed_85 (by decide) rfl (fun hc13 => ?_) (fun hc13 => ?_)
      · have h := ifT hc13 h
        refine V_iinc (q := 112) dX11_feed_109 rfl (Nat.le_of_ble_eq_true rfl) trivial rfl ?_
        refine V_goto (q := 62) dX11_feed_112 (by decide) ?_
        exact V_weak (ih h) (sb_s rfl (sb_s rfl (sb_s rfl (sb_s rfl (sb_s rfl (sb_s rfl (sb_n (sb_s rfl (sb_n sb_0)))))))))
      · have h := ifF hc13 h
        refine V_aload_n (q := 89) dX11_feed_88 rfl rfl rfl ?_
        refine V_getO (q := 92) (t := 71) fl_X11_9 rfl rfl rfl rfl dX11_feed_89 rfl ?_
        refine V_aload_n (q := 93) dX11_feed_92 rfl rfl rfl ?_
        refine V_getI (q := 96) fl_X11_105 rfl rfl rfl dX11_feed_93 rfl ?_
        refine V_iload (q := 98) dX11_feed_96 rfl rfl ?_
        obtain ⟨hi15, h⟩ := stA_i h
        refine V_iastore (q := 99) rfl hi15 dX11_feed_98 rfl ?_
        refine V_aload_n (q := 100) dX11_feed_99 rfl rfl rfl ?_
        refine V_dup (q := 101) dX11_feed_100 trivial rfl ?_
        refine V_getI (q := 104) fl_X11_105 rfl rfl rfl dX11_feed_101 rfl ?_
        refine V_iconst (q := 105) dX11_feed_104 rfl rfl ?_
        refine V_iadd (q := 106) dX11_feed_105 rfl ?_
        have h := sF_i h
        refine V_putI (q := 109) fl_X11_105 rfl rfl rfl dX11_feed_106 rfl ?_
        refine V_iinc (q := 112) dX11_feed_109 rfl (Nat.le_of_ble_eq_true rfl) trivial rfl ?_
        refine V_goto (q := 62) dX11_feed_112 (by decide) ?_
        exact V_weak (ih h) (sb_s rfl (sb_s rfl (sb_s rfl (sb_s rfl (sb_s rfl (sb_s rfl (sb_n (sb_s rfl (sb_n sb_0)))))))))
set_option maxHeartbeats 4000000 in
set_option maxRecDepth 100000 in
theorem kX11_feed (d : Nat) (hd : 2 ≤ d) {l1 : Int} {l2 : Int} {l3 : Int} {l4 : Int} {l5 : Int} {μ : Mm} {r : Int} {μ' : Mm} (h : X11_feed l1 l2 l3 l4 l5 μ = some (r, μ')) : CC d mX11_feed [vR 70, vI l1, vI l2, vI l3, vI l4, vI l5] μ r μ' := by
  unfold X11_feed at h
  refine V_enter (by decide) (Nat.le_of_ble_eq_true rfl) ?_
  show VV d mX11_feed 0 [some (vR 70), some (vI l1), some (vI l2), some (vI l3), some (vI l4), some (vI l5), none, none, none] [] μ r μ'
  refine V_iconst (q := 1) dX11_feed_0 rfl rfl ?_
  refine V_istore (q := 3) dX11_feed_1 (Nat.le_of_ble_eq_true rfl) trivial rfl ?_
  refine V_iconst (q := 4) dX11_feed_3 rfl rfl ?_
  refine V_istore (q := 6) dX11_feed_4 (Nat.le_of_ble_eq_true rfl) trivial rfl ?_
  refine V_weak (kX11_feed_L6 d hd (fun v6 μ7 h => ?_) FU h) (sb_s rfl (sb_s rfl (sb_s rfl (sb_s rfl (sb_s rfl (sb_s rfl (sb_s rfl (sb_s rfl (sb_n sb_0)))))))))
  refine V_aload_n (q := 45) dX11_feed_44 rfl rfl rfl ?_
  refine V_getI (q := 48) fl_X11_105 rfl rfl rfl dX11_feed_45 rfl ?_
  refine V_iload (q := 50) dX11_feed_48 rfl rfl ?_
  refine V_iadd (q := 51) dX11_feed_50 rfl ?_
  refine V_sipush (q := 54) dX11_feed_51 rfl rfl rfl ?_
  refine V_icmple (q := 59) (q2 := 57) dX11_feed_54 (by decide) rfl (fun hc8 => ?_) (fun hc8 => ?_)
  · have h := ifT hc8 h
    refine V_iconst (q := 60) dX11_feed_59 rfl rfl ?_
    refine V_istore (q := 62) dX11_feed_60 (Nat.le_of_ble_eq_true rfl) trivial rfl ?_
    exact V_weak (kX11_feed_L62 d hd  FU h) (sb_s rfl (sb_s rfl (sb_s rfl (sb_s rfl (sb_s rfl (sb_s rfl (sb_n (sb_s rfl (sb_n sb_0)))))))))
  · have h := ifF hc8 h
    refine V_iconst (q := 58) dX11_feed_57 rfl rfl ?_
    exact V_iret rfl h dX11_feed_58
abbrev mX11_end : Mth := (yX11_end, cX11_end, 2, some .boolean)
set_option maxRecDepth 100000 in
theorem mi_X11_end : Cond.instanceMethod yX11_end ∈ tG ∧ Cond.selects yX11_end.cls yX11_end yX11_end ∈ tG ∧ Cond.initialized yX11_end.cls ∈ tG ∧ Cond.code yX11_end cX11_end 2 (some .boolean) ∈ tG ∧ (yX11_end.cls ≠ "java/lang/invoke/MethodHandle" ∧ yX11_end.cls ≠ "java/lang/invoke/VarHandle" ∧ (parseMethodDescriptor yX11_end.desc).map (fun d => d.parameters.length) = some 1) ∧ 2 ≤ 60 := ⟨(tG_of (tb6 (List.mem_of_getElem? (i := 39) rfl)) (by decide +kernel)), (tG_of (tb6 (List.mem_of_getElem? (i := 40) rfl)) (by decide +kernel)), (tG_of (tb1 (List.mem_of_getElem? (i := 12) rfl)) (by decide +kernel)), (tG_of (tb6 (List.mem_of_getElem? (i := 41) rfl)) (by decide +kernel)), ⟨by decide, by decide, by decide +kernel⟩, by decide⟩
theorem dX11_end_0 : decode cX11_end 0 = .ok (.iload_n 1, 1) := dc_27 (byA eNcX11_end (p := 0) (v := 27) (by decide +kernel))
theorem dX11_end_1 : decode cX11_end 1 = .ok (.ifCond .lt 11, 3) := dc_155 (byA eNcX11_end (p := 1) (v := 155) (by decide +kernel)) (byA eNcX11_end (p := 2) (v := 0) (by decide +kernel)) (byA eNcX11_end (p := 3) (v := 11) (by decide +kernel)) (by decide +kernel)
theorem dX11_end_4 : decode cX11_end 4 = .ok (.iload_n 1, 1) := dc_27 (byA eNcX11_end (p := 4) (v := 27) (by decide +kernel))
theorem dX11_end_5 : decode cX11_end 5 = .ok (.aload_n 0, 1) := dc_42 (byA eNcX11_end (p := 5) (v := 42) (by decide +kernel))
theorem dX11_end_6 : decode cX11_end 6 = .ok (.getfield 105, 3) := dc_180 (byA eNcX11_end (p := 6) (v := 180) (by decide +kernel)) (byA eNcX11_end (p := 7) (v := 0) (by decide +kernel)) (byA eNcX11_end (p := 8) (v := 105) (by decide +kernel)) rfl
theorem dX11_end_9 : decode cX11_end 9 = .ok (.if_icmp .le 5, 3) := dc_164 (byA eNcX11_end (p := 9) (v := 164) (by decide +kernel)) (byA eNcX11_end (p := 10) (v := 0) (by decide +kernel)) (byA eNcX11_end (p := 11) (v := 5) (by decide +kernel)) (by decide +kernel)
theorem dX11_end_12 : decode cX11_end 12 = .ok (.iconst 0, 1) := dc_3 (byA eNcX11_end (p := 12) (v := 3) (by decide +kernel))
theorem dX11_end_13 : decode cX11_end 13 = .ok (.ireturn, 1) := dc_172 (byA eNcX11_end (p := 13) (v := 172) (by decide +kernel))
theorem dX11_end_14 : decode cX11_end 14 = .ok (.aload_n 0, 1) := dc_42 (byA eNcX11_end (p := 14) (v := 42) (by decide +kernel))
theorem dX11_end_15 : decode cX11_end 15 = .ok (.iload_n 1, 1) := dc_27 (byA eNcX11_end (p := 15) (v := 27) (by decide +kernel))
theorem dX11_end_16 : decode cX11_end 16 = .ok (.putfield 105, 3) := dc_181 (byA eNcX11_end (p := 16) (v := 181) (by decide +kernel)) (byA eNcX11_end (p := 17) (v := 0) (by decide +kernel)) (byA eNcX11_end (p := 18) (v := 105) (by decide +kernel)) rfl
theorem dX11_end_19 : decode cX11_end 19 = .ok (.iconst 1, 1) := dc_4 (byA eNcX11_end (p := 19) (v := 4) (by decide +kernel))
theorem dX11_end_20 : decode cX11_end 20 = .ok (.ireturn, 1) := dc_172 (byA eNcX11_end (p := 20) (v := 172) (by decide +kernel))
def X11_end (l1 : Int) (μ : Mm) : Rs := if l1 < 0 then (some (0, μ)) else (if l1 ≤ (μ 70 2) then (sF μ 70 2 l1 fun μ3 => some (1, μ3)) else (some (0, μ)))
set_option maxHeartbeats 4000000 in
set_option maxRecDepth 100000 in
theorem kX11_end (d : Nat) (hd : 1 ≤ d) {l1 : Int} {μ : Mm} {r : Int} {μ' : Mm} (h : X11_end l1 μ = some (r, μ')) : CC d mX11_end [vR 70, vI l1] μ r μ' := by
  unfold X11_end at h
  refine V_enter (by decide) (Nat.le_of_ble_eq_true rfl) ?_
  show VV d mX11_end 0 [some (vR 70), some (vI l1)] [] μ r μ'
  refine V_iload_n (q := 1) dX11_end_0 rfl rfl rfl ?_
  refine V_iflt (q := 12) (q2 := 4) dX11_end_1 (by decide) rfl (fun hc1 => ?_) (fun hc1 => ?_)
  · have h := ifT hc1 h
    refine V_iconst (q := 13) dX11_end_12 rfl rfl ?_
    exact V_zret rfl (Or.inl rfl) h dX11_end_13
  · have h := ifF hc1 h
    refine V_iload_n (q := 5) dX11_end_4 rfl rfl rfl ?_
    refine V_aload_n (q := 6) dX11_end_5 rfl rfl rfl ?_
    refine V_getI (q := 9) fl_X11_105 rfl rfl rfl dX11_end_6 rfl ?_
    refine V_icmple (q := 14) (q2 := 12) dX11_end_9 (by decide) rfl (fun hc2 => ?_) (fun hc2 => ?_)
    · have h := ifT hc2 h
      refine V_aload_n (q := 15) dX11_end_14 rfl rfl rfl ?_
      refine V_iload_n (q := 16) dX11_end_15 rfl rfl rfl ?_
      have h := sF_i h
      refine V_putI (q := 19) fl_X11_105 rfl rfl rfl dX11_end_16 rfl ?_
      refine V_iconst (q := 20) dX11_end_19 rfl rfl ?_
      exact V_zret rfl (Or.inr rfl) h dX11_end_20
    · have h := ifF hc2 h
      refine V_iconst (q := 13) dX11_end_12 rfl rfl ?_
      exact V_zret rfl (Or.inl rfl) h dX11_end_13
abbrev mX11_here : Mth := (yX11_here, cX11_here, 1, some .int)
set_option maxRecDepth 100000 in
theorem mi_X11_here : Cond.instanceMethod yX11_here ∈ tG ∧ Cond.selects yX11_here.cls yX11_here yX11_here ∈ tG ∧ Cond.initialized yX11_here.cls ∈ tG ∧ Cond.code yX11_here cX11_here 1 (some .int) ∈ tG ∧ (yX11_here.cls ≠ "java/lang/invoke/MethodHandle" ∧ yX11_here.cls ≠ "java/lang/invoke/VarHandle" ∧ (parseMethodDescriptor yX11_here.desc).map (fun d => d.parameters.length) = some 0) ∧ 1 ≤ 60 := ⟨(tG_of (tb6 (List.mem_of_getElem? (i := 60) rfl)) (by decide +kernel)), (tG_of (List.mem_of_getElem? (i := 50) (by decide +kernel)) (by decide +kernel)), (tG_of (tb1 (List.mem_of_getElem? (i := 12) rfl)) (by decide +kernel)), (tG_of (tb6 (List.mem_of_getElem? (i := 61) rfl)) (by decide +kernel)), ⟨by decide, by decide, by decide +kernel⟩, by decide⟩
set_option maxRecDepth 100000 in
theorem mv_X11_111 : mV RX11 111 mX11_here 0 := ⟨(tG_of (tb6 (List.mem_of_getElem? (i := 58) rfl)) (by decide +kernel)), mi_X11_here⟩
theorem dX11_here_0 : decode cX11_here 0 = .ok (.aload_n 0, 1) := dc_42 (byA eNcX11_here (p := 0) (v := 42) (by decide +kernel))
theorem dX11_here_1 : decode cX11_here 1 = .ok (.getfield 108, 3) := dc_180 (byA eNcX11_here (p := 1) (v := 180) (by decide +kernel)) (byA eNcX11_here (p := 2) (v := 0) (by decide +kernel)) (byA eNcX11_here (p := 3) (v := 108) (by decide +kernel)) rfl
theorem dX11_here_4 : decode cX11_here 4 = .ok (.aload_n 0, 1) := dc_42 (byA eNcX11_here (p := 4) (v := 42) (by decide +kernel))
theorem dX11_here_5 : decode cX11_here 5 = .ok (.getfield 105, 3) := dc_180 (byA eNcX11_here (p := 5) (v := 180) (by decide +kernel)) (byA eNcX11_here (p := 6) (v := 0) (by decide +kernel)) (byA eNcX11_here (p := 7) (v := 105) (by decide +kernel)) rfl
theorem dX11_here_8 : decode cX11_here 8 = .ok (.if_icmp .ge 15, 3) := dc_162 (byA eNcX11_here (p := 8) (v := 162) (by decide +kernel)) (byA eNcX11_here (p := 9) (v := 0) (by decide +kernel)) (byA eNcX11_here (p := 10) (v := 15) (by decide +kernel)) (by decide +kernel)
theorem dX11_here_11 : decode cX11_here 11 = .ok (.aload_n 0, 1) := dc_42 (byA eNcX11_here (p := 11) (v := 42) (by decide +kernel))
theorem dX11_here_12 : decode cX11_here 12 = .ok (.getfield 9, 3) := dc_180 (byA eNcX11_here (p := 12) (v := 180) (by decide +kernel)) (byA eNcX11_here (p := 13) (v := 0) (by decide +kernel)) (byA eNcX11_here (p := 14) (v := 9) (by decide +kernel)) rfl
theorem dX11_here_15 : decode cX11_here 15 = .ok (.aload_n 0, 1) := dc_42 (byA eNcX11_here (p := 15) (v := 42) (by decide +kernel))
theorem dX11_here_16 : decode cX11_here 16 = .ok (.getfield 108, 3) := dc_180 (byA eNcX11_here (p := 16) (v := 180) (by decide +kernel)) (byA eNcX11_here (p := 17) (v := 0) (by decide +kernel)) (byA eNcX11_here (p := 18) (v := 108) (by decide +kernel)) rfl
theorem dX11_here_19 : decode cX11_here 19 = .ok (.iaload, 1) := dc_46 (byA eNcX11_here (p := 19) (v := 46) (by decide +kernel))
theorem dX11_here_20 : decode cX11_here 20 = .ok (.goto 4, 3) := dc_167 (byA eNcX11_here (p := 20) (v := 167) (by decide +kernel)) (byA eNcX11_here (p := 21) (v := 0) (by decide +kernel)) (byA eNcX11_here (p := 22) (v := 4) (by decide +kernel)) (by decide +kernel)
theorem dX11_here_23 : decode cX11_here 23 = .ok (.iconst (-1), 1) := dc_2 (byA eNcX11_here (p := 23) (v := 2) (by decide +kernel))
theorem dX11_here_24 : decode cX11_here 24 = .ok (.ireturn, 1) := dc_172 (byA eNcX11_here (p := 24) (v := 172) (by decide +kernel))
def X11_here (μ : Mm) : Rs := if (μ 70 2) ≤ (μ 70 3) then (some ((-1), μ)) else (ldA μ 71 (μ 70 3) fun v2 => some (v2, μ))
set_option maxHeartbeats 4000000 in
set_option maxRecDepth 100000 in
theorem kX11_here (d : Nat) (hd : 1 ≤ d) {μ : Mm} {r : Int} {μ' : Mm} (h : X11_here μ = some (r, μ')) : CC d mX11_here [vR 70] μ r μ' := by
  unfold X11_here at h
  refine V_enter (by decide) (Nat.le_of_ble_eq_true rfl) ?_
  show VV d mX11_here 0 [some (vR 70)] [] μ r μ'
  refine V_aload_n (q := 1) dX11_here_0 rfl rfl rfl ?_
  refine V_getI (q := 4) fl_X11_108 rfl rfl rfl dX11_here_1 rfl ?_
  refine V_aload_n (q := 5) dX11_here_4 rfl rfl rfl ?_
  refine V_getI (q := 8) fl_X11_105 rfl rfl rfl dX11_here_5 rfl ?_
  refine V_icmpge (q := 23) (q2 := 11) dX11_here_8 (by decide) rfl (fun hc1 => ?_) (fun hc1 => ?_)
  · have h := ifT hc1 h
    refine V_iconst (q := 24) dX11_here_23 rfl rfl ?_
    exact V_iret rfl h dX11_here_24
  · have h := ifF hc1 h
    refine V_aload_n (q := 12) dX11_here_11 rfl rfl rfl ?_
    refine V_getO (q := 15) (t := 71) fl_X11_9 rfl rfl rfl rfl dX11_here_12 rfl ?_
    refine V_aload_n (q := 16) dX11_here_15 rfl rfl rfl ?_
    refine V_getI (q := 19) fl_X11_108 rfl rfl rfl dX11_here_16 rfl ?_
    obtain ⟨hi3, h⟩ := ldA_i h
    refine V_iaload (q := 20) rfl hi3 dX11_here_19 rfl ?_
    refine V_goto (q := 24) dX11_here_20 (by decide) ?_
    exact V_iret rfl h dX11_here_24
abbrev mX11_look : Mth := (yX11_look, cX11_look, 1, some .int)
set_option maxRecDepth 100000 in
theorem mi_X11_look : Cond.instanceMethod yX11_look ∈ tG ∧ Cond.selects yX11_look.cls yX11_look yX11_look ∈ tG ∧ Cond.initialized yX11_look.cls ∈ tG ∧ Cond.code yX11_look cX11_look 1 (some .int) ∈ tG ∧ (yX11_look.cls ≠ "java/lang/invoke/MethodHandle" ∧ yX11_look.cls ≠ "java/lang/invoke/VarHandle" ∧ (parseMethodDescriptor yX11_look.desc).map (fun d => d.parameters.length) = some 0) ∧ 1 ≤ 60 := ⟨(tG_of (tb6 (List.mem_of_getElem? (i := 56) rfl)) (by decide +kernel)), (tG_of (List.mem_of_getElem? (i := 49) (by decide +kernel)) (by decide +kernel)), (tG_of (tb1 (List.mem_of_getElem? (i := 12) rfl)) (by decide +kernel)), (tG_of (tb6 (List.mem_of_getElem? (i := 57) rfl)) (by decide +kernel)), ⟨by decide, by decide, by decide +kernel⟩, by decide⟩
set_option maxRecDepth 100000 in
theorem mv_X11_127 : mV RX11 127 mX11_look 0 := ⟨(tG_of (tb6 (List.mem_of_getElem? (i := 54) rfl)) (by decide +kernel)), mi_X11_look⟩
theorem dX11_look_0 : decode cX11_look 0 = .ok (.aload_n 0, 1) := dc_42 (byA eNcX11_look (p := 0) (v := 42) (by decide +kernel))
theorem dX11_look_1 : decode cX11_look 1 = .ok (.invokevirtual 111, 3) := dc_182 (byA eNcX11_look (p := 1) (v := 182) (by decide +kernel)) (byA eNcX11_look (p := 2) (v := 0) (by decide +kernel)) (byA eNcX11_look (p := 3) (v := 111) (by decide +kernel)) rfl
theorem dX11_look_4 : decode cX11_look 4 = .ok (.bipush 32, 2) := dc_16 (byA eNcX11_look (p := 4) (v := 16) (by decide +kernel)) (byA eNcX11_look (p := 5) (v := 32) (by decide +kernel)) (by decide +kernel)
theorem dX11_look_6 : decode cX11_look 6 = .ok (.if_icmp .ne 16, 3) := dc_160 (byA eNcX11_look (p := 6) (v := 160) (by decide +kernel)) (byA eNcX11_look (p := 7) (v := 0) (by decide +kernel)) (byA eNcX11_look (p := 8) (v := 16) (by decide +kernel)) (by decide +kernel)
theorem dX11_look_9 : decode cX11_look 9 = .ok (.aload_n 0, 1) := dc_42 (byA eNcX11_look (p := 9) (v := 42) (by decide +kernel))
theorem dX11_look_10 : decode cX11_look 10 = .ok (.dup, 1) := dc_89 (byA eNcX11_look (p := 10) (v := 89) (by decide +kernel))
theorem dX11_look_11 : decode cX11_look 11 = .ok (.getfield 108, 3) := dc_180 (byA eNcX11_look (p := 11) (v := 180) (by decide +kernel)) (byA eNcX11_look (p := 12) (v := 0) (by decide +kernel)) (byA eNcX11_look (p := 13) (v := 108) (by decide +kernel)) rfl
theorem dX11_look_14 : decode cX11_look 14 = .ok (.iconst 1, 1) := dc_4 (byA eNcX11_look (p := 14) (v := 4) (by decide +kernel))
theorem dX11_look_15 : decode cX11_look 15 = .ok (.iadd, 1) := dc_96 (byA eNcX11_look (p := 15) (v := 96) (by decide +kernel))
theorem dX11_look_16 : decode cX11_look 16 = .ok (.putfield 108, 3) := dc_181 (byA eNcX11_look (p := 16) (v := 181) (by decide +kernel)) (byA eNcX11_look (p := 17) (v := 0) (by decide +kernel)) (byA eNcX11_look (p := 18) (v := 108) (by decide +kernel)) rfl
theorem dX11_look_19 : decode cX11_look 19 = .ok (.goto (-19), 3) := dc_167 (byA eNcX11_look (p := 19) (v := 167) (by decide +kernel)) (byA eNcX11_look (p := 20) (v := 255) (by decide +kernel)) (byA eNcX11_look (p := 21) (v := 237) (by decide +kernel)) (by decide +kernel)
theorem dX11_look_22 : decode cX11_look 22 = .ok (.aload_n 0, 1) := dc_42 (byA eNcX11_look (p := 22) (v := 42) (by decide +kernel))
theorem dX11_look_23 : decode cX11_look 23 = .ok (.invokevirtual 111, 3) := dc_182 (byA eNcX11_look (p := 23) (v := 182) (by decide +kernel)) (byA eNcX11_look (p := 24) (v := 0) (by decide +kernel)) (byA eNcX11_look (p := 25) (v := 111) (by decide +kernel)) rfl
theorem dX11_look_26 : decode cX11_look 26 = .ok (.ireturn, 1) := dc_172 (byA eNcX11_look (p := 26) (v := 172) (by decide +kernel))
def X11_look_L0 (k22 : Mm → Rs) : Nat → Mm → Rs
  | 0, _ => none
  | n + 1, μ => bd (X11_here μ) fun v1 μ2 => if v1 = 32 then (sF μ2 70 3 (iA (μ2 70 3) 1) fun μ5 => X11_look_L0 k22 n μ5) else (k22 μ2)
def X11_look (μ : Mm) : Rs := X11_look_L0 (fun μ6 => bd (X11_here μ6) fun v7 μ8 => some (v7, μ8)) FU μ
set_option maxHeartbeats 4000000 in
set_option maxRecDepth 100000 in
theorem kX11_look_L0 (d : Nat) (hd : 2 ≤ d) {k22 : Mm → Rs} {r : Int} {μ' : Mm} (hk_22 : ∀ (μ1 : Mm), k22 μ1 = some (r, μ') → VV d mX11_look 22 [some (vR 70)] [] μ1 r μ') : ∀ (n : Nat) {μ : Mm}, X11_look_L0 k22 n μ = some (r, μ') → VV d mX11_look 0 [some (vR 70)] [] μ r μ' := by
  intro n
  induction n with
  | zero => intro μ h; rw [X11_look_L0] at h; cases h
  | succ n ih =>
    intro μ h
    rw [X11_look_L0] at h
    refine V_aload_n (q := 1) dX11_look_0 rfl rfl rfl ?_
    obtain ⟨v1, μ2, hc3, h⟩ := bd_i h
    refine V_cV1 (q := 4) (v := vI v1) (kX11_here (d - 1) (by omega) hc3) (by omega) mv_X11_111 rfl rfl rfl rfl rfl rfl dX11_look_1 rfl ?_
    refine V_bipush (q := 6) dX11_look_4 rfl rfl rfl ?_
    refine V_icmpne (q := 22) (q2 := 9) dX11_look_6 (by decide) rfl (fun hc4 => ?_) (fun hc4 => ?_)
    · have h := ifF hc4 h
      exact V_weak (hk_22 _ h) (sb_s rfl sb_0)
    · have h := ifT hc4 h
      refine V_aload_n (q := 10) dX11_look_9 rfl rfl rfl ?_
      refine V_dup (q := 11) dX11_look_10 trivial rfl ?_
      refine V_getI (q := 14) fl_X11_108 rfl rfl rfl dX11_look_11 rfl ?_
      refine V_iconst (q := 15) dX11_look_14 rfl rfl ?_
      refine V_iadd (q := 16) dX11_look_15 rfl ?_
      have h := sF_i h
      refine V_putI (q := 19) fl_X11_108 rfl rfl rfl dX11_look_16 rfl ?_
      refine V_goto (q := 0) dX11_look_19 (by decide) ?_
      exact V_weak (ih h) (sb_s rfl sb_0)
set_option maxHeartbeats 4000000 in
set_option maxRecDepth 100000 in
theorem kX11_look (d : Nat) (hd : 2 ≤ d) {μ : Mm} {r : Int} {μ' : Mm} (h : X11_look μ = some (r, μ')) : CC d mX11_look [vR 70] μ r μ' := by
  unfold X11_look at h
  refine V_enter (by decide) (Nat.le_of_ble_eq_true rfl) ?_
  show VV d mX11_look 0 [some (vR 70)] [] μ r μ'
  refine V_weak (kX11_look_L0 d hd (fun μ6 h => ?_) FU h) (sb_s rfl sb_0)
  refine V_aload_n (q := 23) dX11_look_22 rfl rfl rfl ?_
  obtain ⟨v7, μ8, hc9, h⟩ := bd_i h
  refine V_cV1 (q := 26) (v := vI v7) (kX11_here (d - 1) (by omega) hc9) (by omega) mv_X11_111 rfl rfl rfl rfl rfl rfl dX11_look_23 rfl ?_
  exact V_iret rfl h dX11_look_26
abbrev mX11_bad : Mth := (yX11_bad, cX11_bad, 1, none)
set_option maxRecDepth 100000 in
theorem mi_X11_bad : Cond.instanceMethod yX11_bad ∈ tG ∧ Cond.selects yX11_bad.cls yX11_bad yX11_bad ∈ tG ∧ Cond.initialized yX11_bad.cls ∈ tG ∧ Cond.code yX11_bad cX11_bad 1 (none) ∈ tG ∧ (yX11_bad.cls ≠ "java/lang/invoke/MethodHandle" ∧ yX11_bad.cls ≠ "java/lang/invoke/VarHandle" ∧ (parseMethodDescriptor yX11_bad.desc).map (fun d => d.parameters.length) = some 0) ∧ 1 ≤ 60 := ⟨(tG_of (tb6 (List.mem_of_getElem? (i := 73) rfl)) (by decide +kernel)), (tG_of (List.mem_of_getElem? (i := 51) (by decide +kernel)) (by decide +kernel)), (tG_of (tb1 (List.mem_of_getElem? (i := 12) rfl)) (by decide +kernel)), (tG_of (tb6 (List.mem_of_getElem? (i := 74) rfl)) (by decide +kernel)), ⟨by decide, by decide, by decide +kernel⟩, by decide⟩
set_option maxRecDepth 100000 in
theorem mv_X11_124 : mV RX11 124 mX11_bad 0 := ⟨(tG_of (tb6 (List.mem_of_getElem? (i := 71) rfl)) (by decide +kernel)), mi_X11_bad⟩
theorem dX11_bad_0 : decode cX11_bad 0 = .ok (.aload_n 0, 1) := dc_42 (byA eNcX11_bad (p := 0) (v := 42) (by decide +kernel))
theorem dX11_bad_1 : decode cX11_bad 1 = .ok (.aload_n 0, 1) := dc_42 (byA eNcX11_bad (p := 1) (v := 42) (by decide +kernel))
theorem dX11_bad_2 : decode cX11_bad 2 = .ok (.getfield 115, 3) := dc_180 (byA eNcX11_bad (p := 2) (v := 180) (by decide +kernel)) (byA eNcX11_bad (p := 3) (v := 0) (by decide +kernel)) (byA eNcX11_bad (p := 4) (v := 115) (by decide +kernel)) rfl
theorem dX11_bad_5 : decode cX11_bad 5 = .ok (.iconst (-1), 1) := dc_2 (byA eNcX11_bad (p := 5) (v := 2) (by decide +kernel))
theorem dX11_bad_6 : decode cX11_bad 6 = .ok (.if_icmp .ne 10, 3) := dc_160 (byA eNcX11_bad (p := 6) (v := 160) (by decide +kernel)) (byA eNcX11_bad (p := 7) (v := 0) (by decide +kernel)) (byA eNcX11_bad (p := 8) (v := 10) (by decide +kernel)) (by decide +kernel)
theorem dX11_bad_9 : decode cX11_bad 9 = .ok (.aload_n 0, 1) := dc_42 (byA eNcX11_bad (p := 9) (v := 42) (by decide +kernel))
theorem dX11_bad_10 : decode cX11_bad 10 = .ok (.getfield 108, 3) := dc_180 (byA eNcX11_bad (p := 10) (v := 180) (by decide +kernel)) (byA eNcX11_bad (p := 11) (v := 0) (by decide +kernel)) (byA eNcX11_bad (p := 12) (v := 108) (by decide +kernel)) rfl
theorem dX11_bad_13 : decode cX11_bad 13 = .ok (.goto 7, 3) := dc_167 (byA eNcX11_bad (p := 13) (v := 167) (by decide +kernel)) (byA eNcX11_bad (p := 14) (v := 0) (by decide +kernel)) (byA eNcX11_bad (p := 15) (v := 7) (by decide +kernel)) (by decide +kernel)
theorem dX11_bad_16 : decode cX11_bad 16 = .ok (.aload_n 0, 1) := dc_42 (byA eNcX11_bad (p := 16) (v := 42) (by decide +kernel))
theorem dX11_bad_17 : decode cX11_bad 17 = .ok (.getfield 115, 3) := dc_180 (byA eNcX11_bad (p := 17) (v := 180) (by decide +kernel)) (byA eNcX11_bad (p := 18) (v := 0) (by decide +kernel)) (byA eNcX11_bad (p := 19) (v := 115) (by decide +kernel)) rfl
theorem dX11_bad_20 : decode cX11_bad 20 = .ok (.putfield 115, 3) := dc_181 (byA eNcX11_bad (p := 20) (v := 181) (by decide +kernel)) (byA eNcX11_bad (p := 21) (v := 0) (by decide +kernel)) (byA eNcX11_bad (p := 22) (v := 115) (by decide +kernel)) rfl
theorem dX11_bad_23 : decode cX11_bad 23 = .ok (.return_, 1) := dc_177 (byA eNcX11_bad (p := 23) (v := 177) (by decide +kernel))
def X11_bad (μ : Mm) : Rs := if (μ 70 4) = (-1) then (sF μ 70 4 (μ 70 3) fun μ3 => some (0, μ3)) else (sF μ 70 4 (μ 70 4) fun μ2 => some (0, μ2))
set_option maxHeartbeats 4000000 in
set_option maxRecDepth 100000 in
theorem kX11_bad (d : Nat) (hd : 1 ≤ d) {μ : Mm} {r : Int} {μ' : Mm} (h : X11_bad μ = some (r, μ')) : CC d mX11_bad [vR 70] μ r μ' := by
  unfold X11_bad at h
  refine V_enter (by decide) (Nat.le_of_ble_eq_true rfl) ?_
  show VV d mX11_bad 0 [some (vR 70)] [] μ r μ'
  refine V_aload_n (q := 1) dX11_bad_0 rfl rfl rfl ?_
  refine V_aload_n (q := 2) dX11_bad_1 rfl rfl rfl ?_
  refine V_getI (q := 5) fl_X11_115 rfl rfl rfl dX11_bad_2 rfl ?_
  refine V_iconst (q := 6) dX11_bad_5 rfl rfl ?_
  refine V_icmpne (q := 16) (q2 := 9) dX11_bad_6 (by decide) rfl (fun hc1 => ?_) (fun hc1 => ?_)
  · have h := ifF hc1 h
    refine V_aload_n (q := 17) dX11_bad_16 rfl rfl rfl ?_
    refine V_getI (q := 20) fl_X11_115 rfl rfl rfl dX11_bad_17 rfl ?_
    have h := sF_i h
    refine V_putI (q := 23) fl_X11_115 rfl rfl rfl dX11_bad_20 rfl ?_
    exact V_vret rfl h dX11_bad_23
  · have h := ifT hc1 h
    refine V_aload_n (q := 10) dX11_bad_9 rfl rfl rfl ?_
    refine V_getI (q := 13) fl_X11_108 rfl rfl rfl dX11_bad_10 rfl ?_
    refine V_goto (q := 20) dX11_bad_13 (by decide) ?_
    have h := sF_i h
    refine V_putI (q := 23) fl_X11_115 rfl rfl rfl dX11_bad_20 rfl ?_
    exact V_vret rfl h dX11_bad_23
abbrev mX11_isDigit : Mth := (yX11_isDigit, cX11_isDigit, 1, some .boolean)
set_option maxRecDepth 100000 in
theorem mi_X11_isDigit : Cond.static yX11_isDigit ∈ tG ∧ Cond.initialized yX11_isDigit.cls ∈ tG ∧ Cond.code yX11_isDigit cX11_isDigit 1 (some .boolean) ∈ tG ∧ (yX11_isDigit.cls ≠ "java/lang/invoke/MethodHandle" ∧ yX11_isDigit.cls ≠ "java/lang/invoke/VarHandle" ∧ (parseMethodDescriptor yX11_isDigit.desc).map (fun d => d.parameters.length) = some 1) ∧ 1 ≤ 60 := ⟨(tG_of (tb6 (List.mem_of_getElem? (i := 84) rfl)) (by decide +kernel)), (tG_of (tb1 (List.mem_of_getElem? (i := 12) rfl)) (by decide +kernel)), (tG_of (tb6 (List.mem_of_getElem? (i := 85) rfl)) (by decide +kernel)), ⟨by decide, by decide, by decide +kernel⟩, by decide⟩
set_option maxRecDepth 100000 in
theorem mv_X11_130 : mS RX11 130 mX11_isDigit 1 := ⟨(tG_of (tb6 (List.mem_of_getElem? (i := 83) rfl)) (by decide +kernel)), mi_X11_isDigit.1, (tG_of (tb1 (List.mem_of_getElem? (i := 12) rfl)) (by decide +kernel)), mi_X11_isDigit.2⟩
theorem dX11_isDigit_0 : decode cX11_isDigit 0 = .ok (.iload_n 0, 1) := dc_26 (byA eNcX11_isDigit (p := 0) (v := 26) (by decide +kernel))
theorem dX11_isDigit_1 : decode cX11_isDigit 1 = .ok (.bipush 48, 2) := dc_16 (byA eNcX11_isDigit (p := 1) (v := 16) (by decide +kernel)) (byA eNcX11_isDigit (p := 2) (v := 48) (by decide +kernel)) (by decide +kernel)
theorem dX11_isDigit_3 : decode cX11_isDigit 3 = .ok (.if_icmp .lt 13, 3) := dc_161 (byA eNcX11_isDigit (p := 3) (v := 161) (by decide +kernel)) (byA eNcX11_isDigit (p := 4) (v := 0) (by decide +kernel)) (byA eNcX11_isDigit (p := 5) (v := 13) (by decide +kernel)) (by decide +kernel)
theorem dX11_isDigit_6 : decode cX11_isDigit 6 = .ok (.iload_n 0, 1) := dc_26 (byA eNcX11_isDigit (p := 6) (v := 26) (by decide +kernel))
theorem dX11_isDigit_7 : decode cX11_isDigit 7 = .ok (.bipush 57, 2) := dc_16 (byA eNcX11_isDigit (p := 7) (v := 16) (by decide +kernel)) (byA eNcX11_isDigit (p := 8) (v := 57) (by decide +kernel)) (by decide +kernel)
theorem dX11_isDigit_9 : decode cX11_isDigit 9 = .ok (.if_icmp .gt 7, 3) := dc_163 (byA eNcX11_isDigit (p := 9) (v := 163) (by decide +kernel)) (byA eNcX11_isDigit (p := 10) (v := 0) (by decide +kernel)) (byA eNcX11_isDigit (p := 11) (v := 7) (by decide +kernel)) (by decide +kernel)
theorem dX11_isDigit_12 : decode cX11_isDigit 12 = .ok (.iconst 1, 1) := dc_4 (byA eNcX11_isDigit (p := 12) (v := 4) (by decide +kernel))
theorem dX11_isDigit_13 : decode cX11_isDigit 13 = .ok (.goto 4, 3) := dc_167 (byA eNcX11_isDigit (p := 13) (v := 167) (by decide +kernel)) (byA eNcX11_isDigit (p := 14) (v := 0) (by decide +kernel)) (byA eNcX11_isDigit (p := 15) (v := 4) (by decide +kernel)) (by decide +kernel)
theorem dX11_isDigit_16 : decode cX11_isDigit 16 = .ok (.iconst 0, 1) := dc_3 (byA eNcX11_isDigit (p := 16) (v := 3) (by decide +kernel))
theorem dX11_isDigit_17 : decode cX11_isDigit 17 = .ok (.ireturn, 1) := dc_172 (byA eNcX11_isDigit (p := 17) (v := 172) (by decide +kernel))
def X11_isDigit (l0 : Int) (μ : Mm) : Rs := if l0 < 48 then (some (0, μ)) else (if 57 < l0 then (some (0, μ)) else (some (1, μ)))
set_option maxHeartbeats 4000000 in
set_option maxRecDepth 100000 in
theorem kX11_isDigit (d : Nat) (hd : 1 ≤ d) {l0 : Int} {μ : Mm} {r : Int} {μ' : Mm} (h : X11_isDigit l0 μ = some (r, μ')) : CC d mX11_isDigit [vI l0] μ r μ' := by
  unfold X11_isDigit at h
  refine V_enter (by decide) (Nat.le_of_ble_eq_true rfl) ?_
  show VV d mX11_isDigit 0 [some (vI l0)] [] μ r μ'
  refine V_iload_n (q := 1) dX11_isDigit_0 rfl rfl rfl ?_
  refine V_bipush (q := 3) dX11_isDigit_1 rfl rfl rfl ?_
  refine V_icmplt (q := 16) (q2 := 6) dX11_isDigit_3 (by decide) rfl (fun hc1 => ?_) (fun hc1 => ?_)
  · have h := ifT hc1 h
    refine V_iconst (q := 17) dX11_isDigit_16 rfl rfl ?_
    exact V_zret rfl (Or.inl rfl) h dX11_isDigit_17
  · have h := ifF hc1 h
    refine V_iload_n (q := 7) dX11_isDigit_6 rfl rfl rfl ?_
    refine V_bipush (q := 9) dX11_isDigit_7 rfl rfl rfl ?_
    refine V_icmpgt (q := 16) (q2 := 12) dX11_isDigit_9 (by decide) rfl (fun hc2 => ?_) (fun hc2 => ?_)
    · have h := ifT hc2 h
      refine V_iconst (q := 17) dX11_isDigit_16 rfl rfl ?_
      exact V_zret rfl (Or.inl rfl) h dX11_isDigit_17
    · have h := ifF hc2 h
      refine V_iconst (q := 13) dX11_isDigit_12 rfl rfl ?_
      refine V_goto (q := 17) dX11_isDigit_13 (by decide) ?_
      exact V_zret rfl (Or.inr rfl) h dX11_isDigit_17
abbrev mX11_put : Mth := (yX11_put, cX11_put, 3, none)
set_option maxRecDepth 100000 in
theorem mi_X11_put : Cond.instanceMethod yX11_put ∈ tG ∧ Cond.selects yX11_put.cls yX11_put yX11_put ∈ tG ∧ Cond.initialized yX11_put.cls ∈ tG ∧ Cond.code yX11_put cX11_put 3 (none) ∈ tG ∧ (yX11_put.cls ≠ "java/lang/invoke/MethodHandle" ∧ yX11_put.cls ≠ "java/lang/invoke/VarHandle" ∧ (parseMethodDescriptor yX11_put.desc).map (fun d => d.parameters.length) = some 2) ∧ 3 ≤ 60 := ⟨(tG_of (tb6 (List.mem_of_getElem? (i := 116) rfl)) (by decide +kernel)), (tG_of (List.mem_of_getElem? (i := 61) (by decide +kernel)) (by decide +kernel)), (tG_of (tb1 (List.mem_of_getElem? (i := 12) rfl)) (by decide +kernel)), (tG_of (tb6 (List.mem_of_getElem? (i := 117) rfl)) (by decide +kernel)), ⟨by decide, by decide, by decide +kernel⟩, by decide⟩
set_option maxRecDepth 100000 in
theorem mv_X11_137 : mV RX11 137 mX11_put 2 := ⟨(tG_of (tb6 (List.mem_of_getElem? (i := 114) rfl)) (by decide +kernel)), mi_X11_put⟩
theorem dX11_put_0 : decode cX11_put 0 = .ok (.aload_n 0, 1) := dc_42 (byA eNcX11_put (p := 0) (v := 42) (by decide +kernel))
theorem dX11_put_1 : decode cX11_put 1 = .ok (.getfield 13, 3) := dc_180 (byA eNcX11_put (p := 1) (v := 180) (by decide +kernel)) (byA eNcX11_put (p := 2) (v := 0) (by decide +kernel)) (byA eNcX11_put (p := 3) (v := 13) (by decide +kernel)) rfl
theorem dX11_put_4 : decode cX11_put 4 = .ok (.sipush 340, 3) := dc_17 (byA eNcX11_put (p := 4) (v := 17) (by decide +kernel)) (byA eNcX11_put (p := 5) (v := 1) (by decide +kernel)) (byA eNcX11_put (p := 6) (v := 84) (by decide +kernel)) (by decide +kernel)
theorem dX11_put_7 : decode cX11_put 7 = .ok (.aload_n 0, 1) := dc_42 (byA eNcX11_put (p := 7) (v := 42) (by decide +kernel))
theorem dX11_put_8 : decode cX11_put 8 = .ok (.getfield 118, 3) := dc_180 (byA eNcX11_put (p := 8) (v := 180) (by decide +kernel)) (byA eNcX11_put (p := 9) (v := 0) (by decide +kernel)) (byA eNcX11_put (p := 10) (v := 118) (by decide +kernel)) rfl
theorem dX11_put_11 : decode cX11_put 11 = .ok (.imul, 1) := dc_104 (byA eNcX11_put (p := 11) (v := 104) (by decide +kernel))
theorem dX11_put_12 : decode cX11_put 12 = .ok (.aload_n 0, 1) := dc_42 (byA eNcX11_put (p := 12) (v := 42) (by decide +kernel))
theorem dX11_put_13 : decode cX11_put 13 = .ok (.getfield 19, 3) := dc_180 (byA eNcX11_put (p := 13) (v := 180) (by decide +kernel)) (byA eNcX11_put (p := 14) (v := 0) (by decide +kernel)) (byA eNcX11_put (p := 15) (v := 19) (by decide +kernel)) rfl
theorem dX11_put_16 : decode cX11_put 16 = .ok (.aload_n 0, 1) := dc_42 (byA eNcX11_put (p := 16) (v := 42) (by decide +kernel))
theorem dX11_put_17 : decode cX11_put 17 = .ok (.getfield 118, 3) := dc_180 (byA eNcX11_put (p := 17) (v := 180) (by decide +kernel)) (byA eNcX11_put (p := 18) (v := 0) (by decide +kernel)) (byA eNcX11_put (p := 19) (v := 118) (by decide +kernel)) rfl
theorem dX11_put_20 : decode cX11_put 20 = .ok (.iaload, 1) := dc_46 (byA eNcX11_put (p := 20) (v := 46) (by decide +kernel))
theorem dX11_put_21 : decode cX11_put 21 = .ok (.iadd, 1) := dc_96 (byA eNcX11_put (p := 21) (v := 96) (by decide +kernel))
theorem dX11_put_22 : decode cX11_put 22 = .ok (.iload_n 1, 1) := dc_27 (byA eNcX11_put (p := 22) (v := 27) (by decide +kernel))
theorem dX11_put_23 : decode cX11_put 23 = .ok (.iastore, 1) := dc_79 (byA eNcX11_put (p := 23) (v := 79) (by decide +kernel))
theorem dX11_put_24 : decode cX11_put 24 = .ok (.aload_n 0, 1) := dc_42 (byA eNcX11_put (p := 24) (v := 42) (by decide +kernel))
theorem dX11_put_25 : decode cX11_put 25 = .ok (.getfield 16, 3) := dc_180 (byA eNcX11_put (p := 25) (v := 180) (by decide +kernel)) (byA eNcX11_put (p := 26) (v := 0) (by decide +kernel)) (byA eNcX11_put (p := 27) (v := 16) (by decide +kernel)) rfl
theorem dX11_put_28 : decode cX11_put 28 = .ok (.sipush 340, 3) := dc_17 (byA eNcX11_put (p := 28) (v := 17) (by decide +kernel)) (byA eNcX11_put (p := 29) (v := 1) (by decide +kernel)) (byA eNcX11_put (p := 30) (v := 84) (by decide +kernel)) (by decide +kernel)
theorem dX11_put_31 : decode cX11_put 31 = .ok (.aload_n 0, 1) := dc_42 (byA eNcX11_put (p := 31) (v := 42) (by decide +kernel))
theorem dX11_put_32 : decode cX11_put 32 = .ok (.getfield 118, 3) := dc_180 (byA eNcX11_put (p := 32) (v := 180) (by decide +kernel)) (byA eNcX11_put (p := 33) (v := 0) (by decide +kernel)) (byA eNcX11_put (p := 34) (v := 118) (by decide +kernel)) rfl
theorem dX11_put_35 : decode cX11_put 35 = .ok (.imul, 1) := dc_104 (byA eNcX11_put (p := 35) (v := 104) (by decide +kernel))
theorem dX11_put_36 : decode cX11_put 36 = .ok (.aload_n 0, 1) := dc_42 (byA eNcX11_put (p := 36) (v := 42) (by decide +kernel))
theorem dX11_put_37 : decode cX11_put 37 = .ok (.getfield 19, 3) := dc_180 (byA eNcX11_put (p := 37) (v := 180) (by decide +kernel)) (byA eNcX11_put (p := 38) (v := 0) (by decide +kernel)) (byA eNcX11_put (p := 39) (v := 19) (by decide +kernel)) rfl
theorem dX11_put_40 : decode cX11_put 40 = .ok (.aload_n 0, 1) := dc_42 (byA eNcX11_put (p := 40) (v := 42) (by decide +kernel))
theorem dX11_put_41 : decode cX11_put 41 = .ok (.getfield 118, 3) := dc_180 (byA eNcX11_put (p := 41) (v := 180) (by decide +kernel)) (byA eNcX11_put (p := 42) (v := 0) (by decide +kernel)) (byA eNcX11_put (p := 43) (v := 118) (by decide +kernel)) rfl
theorem dX11_put_44 : decode cX11_put 44 = .ok (.iaload, 1) := dc_46 (byA eNcX11_put (p := 44) (v := 46) (by decide +kernel))
theorem dX11_put_45 : decode cX11_put 45 = .ok (.iadd, 1) := dc_96 (byA eNcX11_put (p := 45) (v := 96) (by decide +kernel))
theorem dX11_put_46 : decode cX11_put 46 = .ok (.iload_n 2, 1) := dc_28 (byA eNcX11_put (p := 46) (v := 28) (by decide +kernel))
theorem dX11_put_47 : decode cX11_put 47 = .ok (.iastore, 1) := dc_79 (byA eNcX11_put (p := 47) (v := 79) (by decide +kernel))
theorem dX11_put_48 : decode cX11_put 48 = .ok (.aload_n 0, 1) := dc_42 (byA eNcX11_put (p := 48) (v := 42) (by decide +kernel))
theorem dX11_put_49 : decode cX11_put 49 = .ok (.getfield 19, 3) := dc_180 (byA eNcX11_put (p := 49) (v := 180) (by decide +kernel)) (byA eNcX11_put (p := 50) (v := 0) (by decide +kernel)) (byA eNcX11_put (p := 51) (v := 19) (by decide +kernel)) rfl
theorem dX11_put_52 : decode cX11_put 52 = .ok (.aload_n 0, 1) := dc_42 (byA eNcX11_put (p := 52) (v := 42) (by decide +kernel))
theorem dX11_put_53 : decode cX11_put 53 = .ok (.getfield 118, 3) := dc_180 (byA eNcX11_put (p := 53) (v := 180) (by decide +kernel)) (byA eNcX11_put (p := 54) (v := 0) (by decide +kernel)) (byA eNcX11_put (p := 55) (v := 118) (by decide +kernel)) rfl
theorem dX11_put_56 : decode cX11_put 56 = .ok (.dup2, 1) := dc_92 (byA eNcX11_put (p := 56) (v := 92) (by decide +kernel))
theorem dX11_put_57 : decode cX11_put 57 = .ok (.iaload, 1) := dc_46 (byA eNcX11_put (p := 57) (v := 46) (by decide +kernel))
theorem dX11_put_58 : decode cX11_put 58 = .ok (.iconst 1, 1) := dc_4 (byA eNcX11_put (p := 58) (v := 4) (by decide +kernel))
theorem dX11_put_59 : decode cX11_put 59 = .ok (.iadd, 1) := dc_96 (byA eNcX11_put (p := 59) (v := 96) (by decide +kernel))
theorem dX11_put_60 : decode cX11_put 60 = .ok (.iastore, 1) := dc_79 (byA eNcX11_put (p := 60) (v := 79) (by decide +kernel))
theorem dX11_put_61 : decode cX11_put 61 = .ok (.return_, 1) := dc_177 (byA eNcX11_put (p := 61) (v := 177) (by decide +kernel))
def X11_put (l1 : Int) (l2 : Int) (μ : Mm) : Rs := ldA μ 74 (μ 70 14) fun v1 => stA μ 72 (iA (iM 340 (μ 70 14)) v1) l1 fun μ3 => ldA μ3 74 (μ3 70 14) fun v5 => stA μ3 73 (iA (iM 340 (μ3 70 14)) v5) l2 fun μ7 => ldA μ7 74 (μ7 70 14) fun v9 => stA μ7 74 (μ7 70 14) (iA v9 1) fun μ11 => some (0, μ11)
set_option maxHeartbeats 4000000 in
set_option maxRecDepth 100000 in
theorem kX11_put (d : Nat) (hd : 1 ≤ d) {l1 : Int} {l2 : Int} {μ : Mm} {r : Int} {μ' : Mm} (h : X11_put l1 l2 μ = some (r, μ')) : CC d mX11_put [vR 70, vI l1, vI l2] μ r μ' := by
  unfold X11_put at h
  refine V_enter (by decide) (Nat.le_of_ble_eq_true rfl) ?_
  show VV d mX11_put 0 [some (vR 70), some (vI l1), some (vI l2)] [] μ r μ'
  refine V_aload_n (q := 1) dX11_put_0 rfl rfl rfl ?_
  refine V_getO (q := 4) (t := 72) fl_X11_13 rfl rfl rfl rfl dX11_put_1 rfl ?_
  refine V_sipush (q := 7) dX11_put_4 rfl rfl rfl ?_
  refine V_aload_n (q := 8) dX11_put_7 rfl rfl rfl ?_
  refine V_getI (q := 11) fl_X11_118 rfl rfl rfl dX11_put_8 rfl ?_
  refine V_imul (q := 12) dX11_put_11 rfl ?_
  refine V_aload_n (q := 13) dX11_put_12 rfl rfl rfl ?_
  refine V_getO (q := 16) (t := 74) fl_X11_19 rfl rfl rfl rfl dX11_put_13 rfl ?_
  refine V_aload_n (q := 17) dX11_put_16 rfl rfl rfl ?_
  refine V_getI (q := 20) fl_X11_118 rfl rfl rfl dX11_put_17 rfl ?_
  obtain ⟨hi2, h⟩ := ldA_i h
  refine V_iaload (q := 21) rfl hi2 dX11_put_20 rfl ?_
  refine V_iadd (q := 22) dX11_put_21 rfl ?_
  refine V_iload_n (q := 23) dX11_put_22 rfl rfl rfl ?_
  obtain ⟨hi4, h⟩ := stA_i h
  refine V_iastore (q := 24) rfl hi4 dX11_put_23 rfl ?_
  refine V_aload_n (q := 25) dX11_put_24 rfl rfl rfl ?_
  refine V_getO (q := 28) (t := 73) fl_X11_16 rfl rfl rfl rfl dX11_put_25 rfl ?_
  refine V_sipush (q := 31) dX11_put_28 rfl rfl rfl ?_
  refine V_aload_n (q := 32) dX11_put_31 rfl rfl rfl ?_
  refine V_getI (q := 35) fl_X11_118 rfl rfl rfl dX11_put_32 rfl ?_
  refine V_imul (q := 36) dX11_put_35 rfl ?_
  refine V_aload_n (q := 37) dX11_put_36 rfl rfl rfl ?_
  refine V_getO (q := 40) (t := 74) fl_X11_19 rfl rfl rfl rfl dX11_put_37 rfl ?_
  refine V_aload_n (q := 41) dX11_put_40 rfl rfl rfl ?_
  refine V_getI (q := 44) fl_X11_118 rfl rfl rfl dX11_put_41 rfl ?_
  obtain ⟨hi6, h⟩ := ldA_i h
  refine V_iaload (q := 45) rfl hi6 dX11_put_44 rfl ?_
  refine V_iadd (q := 46) dX11_put_45 rfl ?_
  refine V_iload_n (q := 47) dX11_put_46 rfl rfl rfl ?_
  obtain ⟨hi8, h⟩ := stA_i h
  refine V_iastore (q := 48) rfl hi8 dX11_put_47 rfl ?_
  refine V_aload_n (q := 49) dX11_put_48 rfl rfl rfl ?_
  refine V_getO (q := 52) (t := 74) fl_X11_19 rfl rfl rfl rfl dX11_put_49 rfl ?_
  refine V_aload_n (q := 53) dX11_put_52 rfl rfl rfl ?_
  refine V_getI (q := 56) fl_X11_118 rfl rfl rfl dX11_put_53 rfl ?_
  refine V_dup2 (q := 57) dX11_put_56 trivial trivial rfl ?_
  obtain ⟨hi10, h⟩ := ldA_i h
  refine V_iaload (q := 58) rfl hi10 dX11_put_57 rfl ?_
  refine V_iconst (q := 59) dX11_put_58 rfl rfl ?_
  refine V_iadd (q := 60) dX11_put_59 rfl ?_
  obtain ⟨hi12, h⟩ := stA_i h
  refine V_iastore (q := 61) rfl hi12 dX11_put_60 rfl ?_
  exact V_vret rfl h dX11_put_61
abbrev mX11_letterOf : Mth := (yX11_letterOf, cX11_letterOf, 1, some .int)
set_option maxRecDepth 100000 in
theorem mi_X11_letterOf : Cond.static yX11_letterOf ∈ tG ∧ Cond.initialized yX11_letterOf.cls ∈ tG ∧ Cond.code yX11_letterOf cX11_letterOf 1 (some .int) ∈ tG ∧ (yX11_letterOf.cls ≠ "java/lang/invoke/MethodHandle" ∧ yX11_letterOf.cls ≠ "java/lang/invoke/VarHandle" ∧ (parseMethodDescriptor yX11_letterOf.desc).map (fun d => d.parameters.length) = some 1) ∧ 1 ≤ 60 := ⟨(tG_of (tb6 (List.mem_of_getElem? (i := 139) rfl)) (by decide +kernel)), (tG_of (tb1 (List.mem_of_getElem? (i := 12) rfl)) (by decide +kernel)), (tG_of (tb6 (List.mem_of_getElem? (i := 140) rfl)) (by decide +kernel)), ⟨by decide, by decide, by decide +kernel⟩, by decide⟩
set_option maxRecDepth 100000 in
theorem mv_X11_141 : mS RX11 141 mX11_letterOf 1 := ⟨(tG_of (tb6 (List.mem_of_getElem? (i := 138) rfl)) (by decide +kernel)), mi_X11_letterOf.1, (tG_of (tb1 (List.mem_of_getElem? (i := 12) rfl)) (by decide +kernel)), mi_X11_letterOf.2⟩
theorem dX11_letterOf_0 : decode cX11_letterOf 0 = .ok (.iload_n 0, 1) := dc_26 (byA eNcX11_letterOf (p := 0) (v := 26) (by decide +kernel))
theorem dX11_letterOf_1 : decode cX11_letterOf 1 = .ok (.bipush 116, 2) := dc_16 (byA eNcX11_letterOf (p := 1) (v := 16) (by decide +kernel)) (byA eNcX11_letterOf (p := 2) (v := 116) (by decide +kernel)) (by decide +kernel)
theorem dX11_letterOf_3 : decode cX11_letterOf 3 = .ok (.if_icmp .ne 7, 3) := dc_160 (byA eNcX11_letterOf (p := 3) (v := 160) (by decide +kernel)) (byA eNcX11_letterOf (p := 4) (v := 0) (by decide +kernel)) (byA eNcX11_letterOf (p := 5) (v := 7) (by decide +kernel)) (by decide +kernel)
theorem dX11_letterOf_6 : decode cX11_letterOf 6 = .ok (.iconst 0, 1) := dc_3 (byA eNcX11_letterOf (p := 6) (v := 3) (by decide +kernel))
theorem dX11_letterOf_7 : decode cX11_letterOf 7 = .ok (.goto 44, 3) := dc_167 (byA eNcX11_letterOf (p := 7) (v := 167) (by decide +kernel)) (byA eNcX11_letterOf (p := 8) (v := 0) (by decide +kernel)) (byA eNcX11_letterOf (p := 9) (v := 44) (by decide +kernel)) (by decide +kernel)
theorem dX11_letterOf_10 : decode cX11_letterOf 10 = .ok (.iload_n 0, 1) := dc_26 (byA eNcX11_letterOf (p := 10) (v := 26) (by decide +kernel))
theorem dX11_letterOf_11 : decode cX11_letterOf 11 = .ok (.bipush 107, 2) := dc_16 (byA eNcX11_letterOf (p := 11) (v := 16) (by decide +kernel)) (byA eNcX11_letterOf (p := 12) (v := 107) (by decide +kernel)) (by decide +kernel)
theorem dX11_letterOf_13 : decode cX11_letterOf 13 = .ok (.if_icmp .ne 7, 3) := dc_160 (byA eNcX11_letterOf (p := 13) (v := 160) (by decide +kernel)) (byA eNcX11_letterOf (p := 14) (v := 0) (by decide +kernel)) (byA eNcX11_letterOf (p := 15) (v := 7) (by decide +kernel)) (by decide +kernel)
theorem dX11_letterOf_16 : decode cX11_letterOf 16 = .ok (.iconst 1, 1) := dc_4 (byA eNcX11_letterOf (p := 16) (v := 4) (by decide +kernel))
theorem dX11_letterOf_17 : decode cX11_letterOf 17 = .ok (.goto 34, 3) := dc_167 (byA eNcX11_letterOf (p := 17) (v := 167) (by decide +kernel)) (byA eNcX11_letterOf (p := 18) (v := 0) (by decide +kernel)) (byA eNcX11_letterOf (p := 19) (v := 34) (by decide +kernel)) (by decide +kernel)
theorem dX11_letterOf_20 : decode cX11_letterOf 20 = .ok (.iload_n 0, 1) := dc_26 (byA eNcX11_letterOf (p := 20) (v := 26) (by decide +kernel))
theorem dX11_letterOf_21 : decode cX11_letterOf 21 = .ok (.bipush 110, 2) := dc_16 (byA eNcX11_letterOf (p := 21) (v := 16) (by decide +kernel)) (byA eNcX11_letterOf (p := 22) (v := 110) (by decide +kernel)) (by decide +kernel)
theorem dX11_letterOf_23 : decode cX11_letterOf 23 = .ok (.if_icmp .ne 7, 3) := dc_160 (byA eNcX11_letterOf (p := 23) (v := 160) (by decide +kernel)) (byA eNcX11_letterOf (p := 24) (v := 0) (by decide +kernel)) (byA eNcX11_letterOf (p := 25) (v := 7) (by decide +kernel)) (by decide +kernel)
theorem dX11_letterOf_26 : decode cX11_letterOf 26 = .ok (.iconst 2, 1) := dc_5 (byA eNcX11_letterOf (p := 26) (v := 5) (by decide +kernel))
theorem dX11_letterOf_27 : decode cX11_letterOf 27 = .ok (.goto 24, 3) := dc_167 (byA eNcX11_letterOf (p := 27) (v := 167) (by decide +kernel)) (byA eNcX11_letterOf (p := 28) (v := 0) (by decide +kernel)) (byA eNcX11_letterOf (p := 29) (v := 24) (by decide +kernel)) (by decide +kernel)
theorem dX11_letterOf_30 : decode cX11_letterOf 30 = .ok (.iload_n 0, 1) := dc_26 (byA eNcX11_letterOf (p := 30) (v := 26) (by decide +kernel))
theorem dX11_letterOf_31 : decode cX11_letterOf 31 = .ok (.bipush 99, 2) := dc_16 (byA eNcX11_letterOf (p := 31) (v := 16) (by decide +kernel)) (byA eNcX11_letterOf (p := 32) (v := 99) (by decide +kernel)) (by decide +kernel)
theorem dX11_letterOf_33 : decode cX11_letterOf 33 = .ok (.if_icmp .ne 7, 3) := dc_160 (byA eNcX11_letterOf (p := 33) (v := 160) (by decide +kernel)) (byA eNcX11_letterOf (p := 34) (v := 0) (by decide +kernel)) (byA eNcX11_letterOf (p := 35) (v := 7) (by decide +kernel)) (by decide +kernel)
theorem dX11_letterOf_36 : decode cX11_letterOf 36 = .ok (.iconst 3, 1) := dc_6 (byA eNcX11_letterOf (p := 36) (v := 6) (by decide +kernel))
theorem dX11_letterOf_37 : decode cX11_letterOf 37 = .ok (.goto 14, 3) := dc_167 (byA eNcX11_letterOf (p := 37) (v := 167) (by decide +kernel)) (byA eNcX11_letterOf (p := 38) (v := 0) (by decide +kernel)) (byA eNcX11_letterOf (p := 39) (v := 14) (by decide +kernel)) (by decide +kernel)
theorem dX11_letterOf_40 : decode cX11_letterOf 40 = .ok (.iload_n 0, 1) := dc_26 (byA eNcX11_letterOf (p := 40) (v := 26) (by decide +kernel))
theorem dX11_letterOf_41 : decode cX11_letterOf 41 = .ok (.bipush 108, 2) := dc_16 (byA eNcX11_letterOf (p := 41) (v := 16) (by decide +kernel)) (byA eNcX11_letterOf (p := 42) (v := 108) (by decide +kernel)) (by decide +kernel)
theorem dX11_letterOf_43 : decode cX11_letterOf 43 = .ok (.if_icmp .ne 7, 3) := dc_160 (byA eNcX11_letterOf (p := 43) (v := 160) (by decide +kernel)) (byA eNcX11_letterOf (p := 44) (v := 0) (by decide +kernel)) (byA eNcX11_letterOf (p := 45) (v := 7) (by decide +kernel)) (by decide +kernel)
theorem dX11_letterOf_46 : decode cX11_letterOf 46 = .ok (.iconst 4, 1) := dc_7 (byA eNcX11_letterOf (p := 46) (v := 7) (by decide +kernel))
theorem dX11_letterOf_47 : decode cX11_letterOf 47 = .ok (.goto 4, 3) := dc_167 (byA eNcX11_letterOf (p := 47) (v := 167) (by decide +kernel)) (byA eNcX11_letterOf (p := 48) (v := 0) (by decide +kernel)) (byA eNcX11_letterOf (p := 49) (v := 4) (by decide +kernel)) (by decide +kernel)
theorem dX11_letterOf_50 : decode cX11_letterOf 50 = .ok (.iconst (-1), 1) := dc_2 (byA eNcX11_letterOf (p := 50) (v := 2) (by decide +kernel))
theorem dX11_letterOf_51 : decode cX11_letterOf 51 = .ok (.ireturn, 1) := dc_172 (byA eNcX11_letterOf (p := 51) (v := 172) (by decide +kernel))
def X11_letterOf (l0 : Int) (μ : Mm) : Rs := if l0 = 116 then (some (0, μ)) else (if l0 = 107 then (some (1, μ)) else (if l0 = 110 then (some (2, μ)) else (if l0 = 99 then (some (3, μ)) else (if l0 = 108 then (some (4, μ)) else (some ((-1), μ))))))
set_option maxHeartbeats 4000000 in
set_option maxRecDepth 100000 in
theorem kX11_letterOf (d : Nat) (hd : 1 ≤ d) {l0 : Int} {μ : Mm} {r : Int} {μ' : Mm} (h : X11_letterOf l0 μ = some (r, μ')) : CC d mX11_letterOf [vI l0] μ r μ' := by
  unfold X11_letterOf at h
  refine V_enter (by decide) (Nat.le_of_ble_eq_true rfl) ?_
  show VV d mX11_letterOf 0 [some (vI l0)] [] μ r μ'
  refine V_iload_n (q := 1) dX11_letterOf_0 rfl rfl rfl ?_
  refine V_bipush (q := 3) dX11_letterOf_1 rfl rfl rfl ?_
  refine V_icmpne (q := 10) (q2 := 6) dX11_letterOf_3 (by decide) rfl (fun hc1 => ?_) (fun hc1 => ?_)
  · have h := ifF hc1 h
    refine V_iload_n (q := 11) dX11_letterOf_10 rfl rfl rfl ?_
    refine V_bipush (q := 13) dX11_letterOf_11 rfl rfl rfl ?_
    refine V_icmpne (q := 20) (q2 := 16) dX11_letterOf_13 (by decide) rfl (fun hc2 => ?_) (fun hc2 => ?_)
    · have h := ifF hc2 h
      refine V_iload_n (q := 21) dX11_letterOf_20 rfl rfl rfl ?_
      refine V_bipush (q := 23) dX11_letterOf_21 rfl rfl rfl ?_
      refine V_icmpne (q := 30) (q2 := 26) dX11_letterOf_23 (by decide) rfl (fun hc3 => ?_) (fun hc3 => ?_)
      · have h := ifF hc3 h
        refine V_iload_n (q := 31) dX11_letterOf_30 rfl rfl rfl ?_
        refine V_bipush (q := 33) dX11_letterOf_31 rfl rfl rfl ?_
        refine V_icmpne (q := 40) (q2 := 36) dX11_letterOf_33 (by decide) rfl (fun hc4 => ?_) (fun hc4 => ?_)
        · have h := ifF hc4 h
          refine V_iload_n (q := 41) dX11_letterOf_40 rfl rfl rfl ?_
          refine V_bipush (q := 43) dX11_letterOf_41 rfl rfl rfl ?_
          refine V_icmpne (q := 50) (q2 := 46) dX11_letterOf_43 (by decide) rfl (fun hc5 => ?_) (fun hc5 => ?_)
          · have h := ifF hc5 h
            refine V_iconst (q := 51) dX11_letterOf_50 rfl rfl ?_
            exact V_iret rfl h dX11_letterOf_51
          · have h := ifT hc5 h
            refine V_iconst (q := 47) dX11_letterOf_46 rfl rfl ?_
            refine V_goto (q := 51) dX11_letterOf_47 (by decide) ?_
            exact V_iret rfl h dX11_letterOf_51
        · have h := ifT hc4 h
          refine V_iconst (q := 37) dX11_letterOf_36 rfl rfl ?_
          refine V_goto (q := 51) dX11_letterOf_37 (by decide) ?_
          exact V_iret rfl h dX11_letterOf_51
      · have h := ifT hc3 h
        refine V_iconst (q := 27) dX11_letterOf_26 rfl rfl ?_
        refine V_goto (q := 51) dX11_letterOf_27 (by decide) ?_
        exact V_iret rfl h dX11_letterOf_51
    · have h := ifT hc2 h
      refine V_iconst (q := 17) dX11_letterOf_16 rfl rfl ?_
      refine V_goto (q := 51) dX11_letterOf_17 (by decide) ?_
      exact V_iret rfl h dX11_letterOf_51
  · have h := ifT hc1 h
    refine V_iconst (q := 7) dX11_letterOf_6 rfl rfl ?_
    refine V_goto (q := 51) dX11_letterOf_7 (by decide) ?_
    exact V_iret rfl h dX11_letterOf_51
abbrev mX11_opens : Mth := (yX11_opens, cX11_opens, 1, none)
set_option maxRecDepth 100000 in
theorem mi_X11_opens : Cond.instanceMethod yX11_opens ∈ tG ∧ Cond.selects yX11_opens.cls yX11_opens yX11_opens ∈ tG ∧ Cond.initialized yX11_opens.cls ∈ tG ∧ Cond.code yX11_opens cX11_opens 1 (none) ∈ tG ∧ (yX11_opens.cls ≠ "java/lang/invoke/MethodHandle" ∧ yX11_opens.cls ≠ "java/lang/invoke/VarHandle" ∧ (parseMethodDescriptor yX11_opens.desc).map (fun d => d.parameters.length) = some 0) ∧ 1 ≤ 60 := ⟨(tG_of (tb6 (List.mem_of_getElem? (i := 112) rfl)) (by decide +kernel)), (tG_of (List.mem_of_getElem? (i := 60) (by decide +kernel)) (by decide +kernel)), (tG_of (tb1 (List.mem_of_getElem? (i := 12) rfl)) (by decide +kernel)), (tG_of (tb6 (List.mem_of_getElem? (i := 113) rfl)) (by decide +kernel)), ⟨by decide, by decide, by decide +kernel⟩, by decide⟩
set_option maxRecDepth 100000 in
theorem mv_X11_145 : mV RX11 145 mX11_opens 0 := ⟨(tG_of (tb6 (List.mem_of_getElem? (i := 110) rfl)) (by decide +kernel)), mi_X11_opens⟩
theorem dX11_opens_0 : decode cX11_opens 0 = .ok (.aload_n 0, 1) := dc_42 (byA eNcX11_opens (p := 0) (v := 42) (by decide +kernel))
theorem dX11_opens_1 : decode cX11_opens 1 = .ok (.getfield 121, 3) := dc_180 (byA eNcX11_opens (p := 1) (v := 180) (by decide +kernel)) (byA eNcX11_opens (p := 2) (v := 0) (by decide +kernel)) (byA eNcX11_opens (p := 3) (v := 121) (by decide +kernel)) rfl
theorem dX11_opens_4 : decode cX11_opens 4 = .ok (.bipush 6, 2) := dc_16 (byA eNcX11_opens (p := 4) (v := 16) (by decide +kernel)) (byA eNcX11_opens (p := 5) (v := 6) (by decide +kernel)) (by decide +kernel)
theorem dX11_opens_6 : decode cX11_opens 6 = .ok (.if_icmp .ne 7, 3) := dc_160 (byA eNcX11_opens (p := 6) (v := 160) (by decide +kernel)) (byA eNcX11_opens (p := 7) (v := 0) (by decide +kernel)) (byA eNcX11_opens (p := 8) (v := 7) (by decide +kernel)) (by decide +kernel)
theorem dX11_opens_9 : decode cX11_opens 9 = .ok (.aload_n 0, 1) := dc_42 (byA eNcX11_opens (p := 9) (v := 42) (by decide +kernel))
theorem dX11_opens_10 : decode cX11_opens 10 = .ok (.invokevirtual 124, 3) := dc_182 (byA eNcX11_opens (p := 10) (v := 182) (by decide +kernel)) (byA eNcX11_opens (p := 11) (v := 0) (by decide +kernel)) (byA eNcX11_opens (p := 12) (v := 124) (by decide +kernel)) rfl
theorem dX11_opens_13 : decode cX11_opens 13 = .ok (.aload_n 0, 1) := dc_42 (byA eNcX11_opens (p := 13) (v := 42) (by decide +kernel))
theorem dX11_opens_14 : decode cX11_opens 14 = .ok (.dup, 1) := dc_89 (byA eNcX11_opens (p := 14) (v := 89) (by decide +kernel))
theorem dX11_opens_15 : decode cX11_opens 15 = .ok (.getfield 121, 3) := dc_180 (byA eNcX11_opens (p := 15) (v := 180) (by decide +kernel)) (byA eNcX11_opens (p := 16) (v := 0) (by decide +kernel)) (byA eNcX11_opens (p := 17) (v := 121) (by decide +kernel)) rfl
theorem dX11_opens_18 : decode cX11_opens 18 = .ok (.iconst 1, 1) := dc_4 (byA eNcX11_opens (p := 18) (v := 4) (by decide +kernel))
theorem dX11_opens_19 : decode cX11_opens 19 = .ok (.iadd, 1) := dc_96 (byA eNcX11_opens (p := 19) (v := 96) (by decide +kernel))
theorem dX11_opens_20 : decode cX11_opens 20 = .ok (.putfield 121, 3) := dc_181 (byA eNcX11_opens (p := 20) (v := 181) (by decide +kernel)) (byA eNcX11_opens (p := 21) (v := 0) (by decide +kernel)) (byA eNcX11_opens (p := 22) (v := 121) (by decide +kernel)) rfl
theorem dX11_opens_23 : decode cX11_opens 23 = .ok (.aload_n 0, 1) := dc_42 (byA eNcX11_opens (p := 23) (v := 42) (by decide +kernel))
theorem dX11_opens_24 : decode cX11_opens 24 = .ok (.dup, 1) := dc_89 (byA eNcX11_opens (p := 24) (v := 89) (by decide +kernel))
theorem dX11_opens_25 : decode cX11_opens 25 = .ok (.getfield 108, 3) := dc_180 (byA eNcX11_opens (p := 25) (v := 180) (by decide +kernel)) (byA eNcX11_opens (p := 26) (v := 0) (by decide +kernel)) (byA eNcX11_opens (p := 27) (v := 108) (by decide +kernel)) rfl
theorem dX11_opens_28 : decode cX11_opens 28 = .ok (.iconst 1, 1) := dc_4 (byA eNcX11_opens (p := 28) (v := 4) (by decide +kernel))
theorem dX11_opens_29 : decode cX11_opens 29 = .ok (.iadd, 1) := dc_96 (byA eNcX11_opens (p := 29) (v := 96) (by decide +kernel))
theorem dX11_opens_30 : decode cX11_opens 30 = .ok (.putfield 108, 3) := dc_181 (byA eNcX11_opens (p := 30) (v := 181) (by decide +kernel)) (byA eNcX11_opens (p := 31) (v := 0) (by decide +kernel)) (byA eNcX11_opens (p := 32) (v := 108) (by decide +kernel)) rfl
theorem dX11_opens_33 : decode cX11_opens 33 = .ok (.return_, 1) := dc_177 (byA eNcX11_opens (p := 33) (v := 177) (by decide +kernel))
def X11_opens_J13 (μ : Mm) : Rs := sF μ 70 5 (iA (μ 70 5) 1) fun μ2 => sF μ2 70 3 (iA (μ2 70 3) 1) fun μ3 => some (0, μ3)
def X11_opens (μ : Mm) : Rs := if (μ 70 5) = 6 then (bd (X11_bad μ) fun v4 μ5 => X11_opens_J13 μ5) else (X11_opens_J13 μ)
set_option maxHeartbeats 4000000 in
set_option maxRecDepth 100000 in
theorem kX11_opens_J13 (d : Nat) (hd : 2 ≤ d) {μ : Mm} {r : Int} {μ' : Mm} (h : X11_opens_J13 μ = some (r, μ')) : VV d mX11_opens 13 [some (vR 70)] [] μ r μ' := by
  unfold X11_opens_J13 at h
  refine V_aload_n (q := 14) dX11_opens_13 rfl rfl rfl ?_
  refine V_dup (q := 15) dX11_opens_14 trivial rfl ?_
  refine V_getI (q := 18) fl_X11_121 rfl rfl rfl dX11_opens_15 rfl ?_
  refine V_iconst (q := 19) dX11_opens_18 rfl rfl ?_
  refine V_iadd (q := 20) dX11_opens_19 rfl ?_
  have h := sF_i h
  refine V_putI (q := 23) fl_X11_121 rfl rfl rfl dX11_opens_20 rfl ?_
  refine V_aload_n (q := 24) dX11_opens_23 rfl rfl rfl ?_
  refine V_dup (q := 25) dX11_opens_24 trivial rfl ?_
  refine V_getI (q := 28) fl_X11_108 rfl rfl rfl dX11_opens_25 rfl ?_
  refine V_iconst (q := 29) dX11_opens_28 rfl rfl ?_
  refine V_iadd (q := 30) dX11_opens_29 rfl ?_
  have h := sF_i h
  refine V_putI (q := 33) fl_X11_108 rfl rfl rfl dX11_opens_30 rfl ?_
  exact V_vret rfl h dX11_opens_33
set_option maxHeartbeats 4000000 in
set_option maxRecDepth 100000 in
theorem kX11_opens (d : Nat) (hd : 2 ≤ d) {μ : Mm} {r : Int} {μ' : Mm} (h : X11_opens μ = some (r, μ')) : CC d mX11_opens [vR 70] μ r μ' := by
  unfold X11_opens at h
  refine V_enter (by decide) (Nat.le_of_ble_eq_true rfl) ?_
  show VV d mX11_opens 0 [some (vR 70)] [] μ r μ'
  refine V_aload_n (q := 1) dX11_opens_0 rfl rfl rfl ?_
  refine V_getI (q := 4) fl_X11_121 rfl rfl rfl dX11_opens_1 rfl ?_
  refine V_bipush (q := 6) dX11_opens_4 rfl rfl rfl ?_
  refine V_icmpne (q := 13) (q2 := 9) dX11_opens_6 (by decide) rfl (fun hc1 => ?_) (fun hc1 => ?_)
  · have h := ifF hc1 h
    exact V_weak (kX11_opens_J13 d hd h) (sb_s rfl sb_0)
  · have h := ifT hc1 h
    refine V_aload_n (q := 10) dX11_opens_9 rfl rfl rfl ?_
    obtain ⟨v4, μ5, hc6, h⟩ := bd_i h
    refine V_cV0 (q := 13) (kX11_bad (d - 1) (by omega) hc6) (by omega) mv_X11_124 rfl rfl rfl rfl rfl rfl dX11_opens_10 rfl ?_
    exact V_weak (kX11_opens_J13 d hd h) (sb_s rfl sb_0)
abbrev mX11_closes : Mth := (yX11_closes, cX11_closes, 2, none)
set_option maxRecDepth 100000 in
theorem mi_X11_closes : Cond.instanceMethod yX11_closes ∈ tG ∧ Cond.selects yX11_closes.cls yX11_closes yX11_closes ∈ tG ∧ Cond.initialized yX11_closes.cls ∈ tG ∧ Cond.code yX11_closes cX11_closes 2 (none) ∈ tG ∧ (yX11_closes.cls ≠ "java/lang/invoke/MethodHandle" ∧ yX11_closes.cls ≠ "java/lang/invoke/VarHandle" ∧ (parseMethodDescriptor yX11_closes.desc).map (fun d => d.parameters.length) = some 1) ∧ 2 ≤ 60 := ⟨(tG_of (tb6 (List.mem_of_getElem? (i := 120) rfl)) (by decide +kernel)), (tG_of (List.mem_of_getElem? (i := 62) (by decide +kernel)) (by decide +kernel)), (tG_of (tb1 (List.mem_of_getElem? (i := 12) rfl)) (by decide +kernel)), (tG_of (tb6 (List.mem_of_getElem? (i := 121) rfl)) (by decide +kernel)), ⟨by decide, by decide, by decide +kernel⟩, by decide⟩
set_option maxRecDepth 100000 in
theorem mv_X11_151 : mV RX11 151 mX11_closes 1 := ⟨(tG_of (tb6 (List.mem_of_getElem? (i := 118) rfl)) (by decide +kernel)), mi_X11_closes⟩
theorem dX11_closes_0 : decode cX11_closes 0 = .ok (.aload_n 0, 1) := dc_42 (byA eNcX11_closes (p := 0) (v := 42) (by decide +kernel))
theorem dX11_closes_1 : decode cX11_closes 1 = .ok (.getfield 115, 3) := dc_180 (byA eNcX11_closes (p := 1) (v := 180) (by decide +kernel)) (byA eNcX11_closes (p := 2) (v := 0) (by decide +kernel)) (byA eNcX11_closes (p := 3) (v := 115) (by decide +kernel)) rfl
theorem dX11_closes_4 : decode cX11_closes 4 = .ok (.iconst (-1), 1) := dc_2 (byA eNcX11_closes (p := 4) (v := 2) (by decide +kernel))
theorem dX11_closes_5 : decode cX11_closes 5 = .ok (.if_icmp .ne 15, 3) := dc_160 (byA eNcX11_closes (p := 5) (v := 160) (by decide +kernel)) (byA eNcX11_closes (p := 6) (v := 0) (by decide +kernel)) (byA eNcX11_closes (p := 7) (v := 15) (by decide +kernel)) (by decide +kernel)
theorem dX11_closes_8 : decode cX11_closes 8 = .ok (.aload_n 0, 1) := dc_42 (byA eNcX11_closes (p := 8) (v := 42) (by decide +kernel))
theorem dX11_closes_9 : decode cX11_closes 9 = .ok (.invokevirtual 127, 3) := dc_182 (byA eNcX11_closes (p := 9) (v := 182) (by decide +kernel)) (byA eNcX11_closes (p := 10) (v := 0) (by decide +kernel)) (byA eNcX11_closes (p := 11) (v := 127) (by decide +kernel)) rfl
theorem dX11_closes_12 : decode cX11_closes 12 = .ok (.iload_n 1, 1) := dc_27 (byA eNcX11_closes (p := 12) (v := 27) (by decide +kernel))
theorem dX11_closes_13 : decode cX11_closes 13 = .ok (.if_icmp .eq 7, 3) := dc_159 (byA eNcX11_closes (p := 13) (v := 159) (by decide +kernel)) (byA eNcX11_closes (p := 14) (v := 0) (by decide +kernel)) (byA eNcX11_closes (p := 15) (v := 7) (by decide +kernel)) (by decide +kernel)
theorem dX11_closes_16 : decode cX11_closes 16 = .ok (.aload_n 0, 1) := dc_42 (byA eNcX11_closes (p := 16) (v := 42) (by decide +kernel))
theorem dX11_closes_17 : decode cX11_closes 17 = .ok (.invokevirtual 124, 3) := dc_182 (byA eNcX11_closes (p := 17) (v := 182) (by decide +kernel)) (byA eNcX11_closes (p := 18) (v := 0) (by decide +kernel)) (byA eNcX11_closes (p := 19) (v := 124) (by decide +kernel)) rfl
theorem dX11_closes_20 : decode cX11_closes 20 = .ok (.aload_n 0, 1) := dc_42 (byA eNcX11_closes (p := 20) (v := 42) (by decide +kernel))
theorem dX11_closes_21 : decode cX11_closes 21 = .ok (.dup, 1) := dc_89 (byA eNcX11_closes (p := 21) (v := 89) (by decide +kernel))
theorem dX11_closes_22 : decode cX11_closes 22 = .ok (.getfield 108, 3) := dc_180 (byA eNcX11_closes (p := 22) (v := 180) (by decide +kernel)) (byA eNcX11_closes (p := 23) (v := 0) (by decide +kernel)) (byA eNcX11_closes (p := 24) (v := 108) (by decide +kernel)) rfl
theorem dX11_closes_25 : decode cX11_closes 25 = .ok (.iconst 1, 1) := dc_4 (byA eNcX11_closes (p := 25) (v := 4) (by decide +kernel))
theorem dX11_closes_26 : decode cX11_closes 26 = .ok (.iadd, 1) := dc_96 (byA eNcX11_closes (p := 26) (v := 96) (by decide +kernel))
theorem dX11_closes_27 : decode cX11_closes 27 = .ok (.putfield 108, 3) := dc_181 (byA eNcX11_closes (p := 27) (v := 181) (by decide +kernel)) (byA eNcX11_closes (p := 28) (v := 0) (by decide +kernel)) (byA eNcX11_closes (p := 29) (v := 108) (by decide +kernel)) rfl
theorem dX11_closes_30 : decode cX11_closes 30 = .ok (.aload_n 0, 1) := dc_42 (byA eNcX11_closes (p := 30) (v := 42) (by decide +kernel))
theorem dX11_closes_31 : decode cX11_closes 31 = .ok (.dup, 1) := dc_89 (byA eNcX11_closes (p := 31) (v := 89) (by decide +kernel))
theorem dX11_closes_32 : decode cX11_closes 32 = .ok (.getfield 121, 3) := dc_180 (byA eNcX11_closes (p := 32) (v := 180) (by decide +kernel)) (byA eNcX11_closes (p := 33) (v := 0) (by decide +kernel)) (byA eNcX11_closes (p := 34) (v := 121) (by decide +kernel)) rfl
theorem dX11_closes_35 : decode cX11_closes 35 = .ok (.iconst 1, 1) := dc_4 (byA eNcX11_closes (p := 35) (v := 4) (by decide +kernel))
theorem dX11_closes_36 : decode cX11_closes 36 = .ok (.isub, 1) := dc_100 (byA eNcX11_closes (p := 36) (v := 100) (by decide +kernel))
theorem dX11_closes_37 : decode cX11_closes 37 = .ok (.putfield 121, 3) := dc_181 (byA eNcX11_closes (p := 37) (v := 181) (by decide +kernel)) (byA eNcX11_closes (p := 38) (v := 0) (by decide +kernel)) (byA eNcX11_closes (p := 39) (v := 121) (by decide +kernel)) rfl
theorem dX11_closes_40 : decode cX11_closes 40 = .ok (.return_, 1) := dc_177 (byA eNcX11_closes (p := 40) (v := 177) (by decide +kernel))
def X11_closes_J20 (μ : Mm) : Rs := sF μ 70 3 (iA (μ 70 3) 1) fun μ2 => sF μ2 70 5 (iS (μ2 70 5) 1) fun μ3 => some (0, μ3)
def X11_closes (l1 : Int) (μ : Mm) : Rs := if (μ 70 4) = (-1) then (bd (X11_look μ) fun v4 μ5 => if v4 = l1 then (X11_closes_J20 μ5) else (bd (X11_bad μ5) fun v8 μ9 => X11_closes_J20 μ9)) else (X11_closes_J20 μ)
set_option maxHeartbeats 4000000 in
set_option maxRecDepth 100000 in
theorem kX11_closes_J20 (d : Nat) (hd : 3 ≤ d) {μ : Mm} {r : Int} {μ' : Mm} (h : X11_closes_J20 μ = some (r, μ')) : VV d mX11_closes 20 [some (vR 70), none] [] μ r μ' := by
  unfold X11_closes_J20 at h
  refine V_aload_n (q := 21) dX11_closes_20 rfl rfl rfl ?_
  refine V_dup (q := 22) dX11_closes_21 trivial rfl ?_
  refine V_getI (q := 25) fl_X11_108 rfl rfl rfl dX11_closes_22 rfl ?_
  refine V_iconst (q := 26) dX11_closes_25 rfl rfl ?_
  refine V_iadd (q := 27) dX11_closes_26 rfl ?_
  have h := sF_i h
  refine V_putI (q := 30) fl_X11_108 rfl rfl rfl dX11_closes_27 rfl ?_
  refine V_aload_n (q := 31) dX11_closes_30 rfl rfl rfl ?_
  refine V_dup (q := 32) dX11_closes_31 trivial rfl ?_
  refine V_getI (q := 35) fl_X11_121 rfl rfl rfl dX11_closes_32 rfl ?_
  refine V_iconst (q := 36) dX11_closes_35 rfl rfl ?_
  refine V_isub (q := 37) dX11_closes_36 rfl ?_
  have h := sF_i h
  refine V_putI (q := 40) fl_X11_121 rfl rfl rfl dX11_closes_37 rfl ?_
  exact V_vret rfl h dX11_closes_40
set_option maxHeartbeats 4000000 in
set_option maxRecDepth 100000 in
theorem kX11_closes (d : Nat) (hd : 3 ≤ d) {l1 : Int} {μ : Mm} {r : Int} {μ' : Mm} (h : X11_closes l1 μ = some (r, μ')) : CC d mX11_closes [vR 70, vI l1] μ r μ' := by
  unfold X11_closes at h
  refine V_enter (by decide) (Nat.le_of_ble_eq_true rfl) ?_
  show VV d mX11_closes 0 [some (vR 70), some (vI l1)] [] μ r μ'
  refine V_aload_n (q := 1) dX11_closes_0 rfl rfl rfl ?_
  refine V_getI (q := 4) fl_X11_115 rfl rfl rfl dX11_closes_1 rfl ?_
  refine V_iconst (q := 5) dX11_closes_4 rfl rfl ?_
  refine V_icmpne (q := 20) (q2 := 8) dX11_closes_5 (by decide) rfl (fun hc1 => ?_) (fun hc1 => ?_)
  · have h := ifF hc1 h
    exact V_weak (kX11_closes_J20 d hd h) (sb_s rfl (sb_n sb_0))
  · have h := ifT hc1 h
    refine V_aload_n (q := 9) dX11_closes_8 rfl rfl rfl ?_
    obtain ⟨v4, μ5, hc6, h⟩ := bd_i h
    refine V_cV1 (q := 12) (v := vI v4) (kX11_look (d - 1) (by omega) hc6) (by omega) mv_X11_127 rfl rfl rfl rfl rfl rfl dX11_closes_9 rfl ?_
    refine V_iload_n (q := 13) dX11_closes_12 rfl rfl rfl ?_
    refine V_icmpeq (q := 20) (q2 := 16) dX11_closes_13 (by decide) rfl (fun hc7 => ?_) (fun hc7 => ?_)
    · have h := ifT hc7 h
      exact V_weak (kX11_closes_J20 d hd h) (sb_s rfl (sb_n sb_0))
    · have h := ifF hc7 h
      refine V_aload_n (q := 17) dX11_closes_16 rfl rfl rfl ?_
      obtain ⟨v8, μ9, hc10, h⟩ := bd_i h
      refine V_cV0 (q := 20) (kX11_bad (d - 1) (by omega) hc10) (by omega) mv_X11_124 rfl rfl rfl rfl rfl rfl dX11_closes_17 rfl ?_
      exact V_weak (kX11_closes_J20 d hd h) (sb_s rfl (sb_n sb_0))
abbrev mX11_plainNumber : Mth := (yX11_plainNumber, cX11_plainNumber, 3, some .int)
set_option maxRecDepth 100000 in
theorem mi_X11_plainNumber : Cond.instanceMethod yX11_plainNumber ∈ tG ∧ Cond.selects yX11_plainNumber.cls yX11_plainNumber yX11_plainNumber ∈ tG ∧ Cond.initialized yX11_plainNumber.cls ∈ tG ∧ Cond.code yX11_plainNumber cX11_plainNumber 3 (some .int) ∈ tG ∧ (yX11_plainNumber.cls ≠ "java/lang/invoke/MethodHandle" ∧ yX11_plainNumber.cls ≠ "java/lang/invoke/VarHandle" ∧ (parseMethodDescriptor yX11_plainNumber.desc).map (fun d => d.parameters.length) = some 0) ∧ 3 ≤ 60 := ⟨(tG_of (tb6 (List.mem_of_getElem? (i := 136) rfl)) (by decide +kernel)), (tG_of (List.mem_of_getElem? (i := 66) (by decide +kernel)) (by decide +kernel)), (tG_of (tb1 (List.mem_of_getElem? (i := 12) rfl)) (by decide +kernel)), (tG_of (tb6 (List.mem_of_getElem? (i := 137) rfl)) (by decide +kernel)), ⟨by decide, by decide, by decide +kernel⟩, by decide⟩
set_option maxRecDepth 100000 in
theorem mv_X11_134 : mV RX11 134 mX11_plainNumber 0 := ⟨(tG_of (tb6 (List.mem_of_getElem? (i := 134) rfl)) (by decide +kernel)), mi_X11_plainNumber⟩
theorem dX11_plainNumber_0 : decode cX11_plainNumber 0 = .ok (.iconst 0, 1) := dc_3 (byA eNcX11_plainNumber (p := 0) (v := 3) (by decide +kernel))
theorem dX11_plainNumber_1 : decode cX11_plainNumber 1 = .ok (.istore_n 1, 1) := dc_60 (byA eNcX11_plainNumber (p := 1) (v := 60) (by decide +kernel))
theorem dX11_plainNumber_2 : decode cX11_plainNumber 2 = .ok (.iconst 0, 1) := dc_3 (byA eNcX11_plainNumber (p := 2) (v := 3) (by decide +kernel))
theorem dX11_plainNumber_3 : decode cX11_plainNumber 3 = .ok (.istore_n 2, 1) := dc_61 (byA eNcX11_plainNumber (p := 3) (v := 61) (by decide +kernel))
theorem dX11_plainNumber_4 : decode cX11_plainNumber 4 = .ok (.iload_n 2, 1) := dc_28 (byA eNcX11_plainNumber (p := 4) (v := 28) (by decide +kernel))
theorem dX11_plainNumber_5 : decode cX11_plainNumber 5 = .ok (.iconst 4, 1) := dc_7 (byA eNcX11_plainNumber (p := 5) (v := 7) (by decide +kernel))
theorem dX11_plainNumber_6 : decode cX11_plainNumber 6 = .ok (.if_icmp .ge 42, 3) := dc_162 (byA eNcX11_plainNumber (p := 6) (v := 162) (by decide +kernel)) (byA eNcX11_plainNumber (p := 7) (v := 0) (by decide +kernel)) (byA eNcX11_plainNumber (p := 8) (v := 42) (by decide +kernel)) (by decide +kernel)
theorem dX11_plainNumber_9 : decode cX11_plainNumber 9 = .ok (.aload_n 0, 1) := dc_42 (byA eNcX11_plainNumber (p := 9) (v := 42) (by decide +kernel))
theorem dX11_plainNumber_10 : decode cX11_plainNumber 10 = .ok (.invokevirtual 111, 3) := dc_182 (byA eNcX11_plainNumber (p := 10) (v := 182) (by decide +kernel)) (byA eNcX11_plainNumber (p := 11) (v := 0) (by decide +kernel)) (byA eNcX11_plainNumber (p := 12) (v := 111) (by decide +kernel)) rfl
theorem dX11_plainNumber_13 : decode cX11_plainNumber 13 = .ok (.invokestatic 130, 3) := dc_184 (byA eNcX11_plainNumber (p := 13) (v := 184) (by decide +kernel)) (byA eNcX11_plainNumber (p := 14) (v := 0) (by decide +kernel)) (byA eNcX11_plainNumber (p := 15) (v := 130) (by decide +kernel)) rfl
theorem dX11_plainNumber_16 : decode cX11_plainNumber 16 = .ok (.ifCond .eq 32, 3) := dc_153 (byA eNcX11_plainNumber (p := 16) (v := 153) (by decide +kernel)) (byA eNcX11_plainNumber (p := 17) (v := 0) (by decide +kernel)) (byA eNcX11_plainNumber (p := 18) (v := 32) (by decide +kernel)) (by decide +kernel)
theorem dX11_plainNumber_19 : decode cX11_plainNumber 19 = .ok (.bipush 10, 2) := dc_16 (byA eNcX11_plainNumber (p := 19) (v := 16) (by decide +kernel)) (byA eNcX11_plainNumber (p := 20) (v := 10) (by decide +kernel)) (by decide +kernel)
theorem dX11_plainNumber_21 : decode cX11_plainNumber 21 = .ok (.iload_n 1, 1) := dc_27 (byA eNcX11_plainNumber (p := 21) (v := 27) (by decide +kernel))
theorem dX11_plainNumber_22 : decode cX11_plainNumber 22 = .ok (.imul, 1) := dc_104 (byA eNcX11_plainNumber (p := 22) (v := 104) (by decide +kernel))
theorem dX11_plainNumber_23 : decode cX11_plainNumber 23 = .ok (.aload_n 0, 1) := dc_42 (byA eNcX11_plainNumber (p := 23) (v := 42) (by decide +kernel))
theorem dX11_plainNumber_24 : decode cX11_plainNumber 24 = .ok (.invokevirtual 111, 3) := dc_182 (byA eNcX11_plainNumber (p := 24) (v := 182) (by decide +kernel)) (byA eNcX11_plainNumber (p := 25) (v := 0) (by decide +kernel)) (byA eNcX11_plainNumber (p := 26) (v := 111) (by decide +kernel)) rfl
theorem dX11_plainNumber_27 : decode cX11_plainNumber 27 = .ok (.iadd, 1) := dc_96 (byA eNcX11_plainNumber (p := 27) (v := 96) (by decide +kernel))
theorem dX11_plainNumber_28 : decode cX11_plainNumber 28 = .ok (.bipush 48, 2) := dc_16 (byA eNcX11_plainNumber (p := 28) (v := 16) (by decide +kernel)) (byA eNcX11_plainNumber (p := 29) (v := 48) (by decide +kernel)) (by decide +kernel)
theorem dX11_plainNumber_30 : decode cX11_plainNumber 30 = .ok (.isub, 1) := dc_100 (byA eNcX11_plainNumber (p := 30) (v := 100) (by decide +kernel))
theorem dX11_plainNumber_31 : decode cX11_plainNumber 31 = .ok (.istore_n 1, 1) := dc_60 (byA eNcX11_plainNumber (p := 31) (v := 60) (by decide +kernel))
theorem dX11_plainNumber_32 : decode cX11_plainNumber 32 = .ok (.aload_n 0, 1) := dc_42 (byA eNcX11_plainNumber (p := 32) (v := 42) (by decide +kernel))
theorem dX11_plainNumber_33 : decode cX11_plainNumber 33 = .ok (.dup, 1) := dc_89 (byA eNcX11_plainNumber (p := 33) (v := 89) (by decide +kernel))
theorem dX11_plainNumber_34 : decode cX11_plainNumber 34 = .ok (.getfield 108, 3) := dc_180 (byA eNcX11_plainNumber (p := 34) (v := 180) (by decide +kernel)) (byA eNcX11_plainNumber (p := 35) (v := 0) (by decide +kernel)) (byA eNcX11_plainNumber (p := 36) (v := 108) (by decide +kernel)) rfl
theorem dX11_plainNumber_37 : decode cX11_plainNumber 37 = .ok (.iconst 1, 1) := dc_4 (byA eNcX11_plainNumber (p := 37) (v := 4) (by decide +kernel))
theorem dX11_plainNumber_38 : decode cX11_plainNumber 38 = .ok (.iadd, 1) := dc_96 (byA eNcX11_plainNumber (p := 38) (v := 96) (by decide +kernel))
theorem dX11_plainNumber_39 : decode cX11_plainNumber 39 = .ok (.putfield 108, 3) := dc_181 (byA eNcX11_plainNumber (p := 39) (v := 181) (by decide +kernel)) (byA eNcX11_plainNumber (p := 40) (v := 0) (by decide +kernel)) (byA eNcX11_plainNumber (p := 41) (v := 108) (by decide +kernel)) rfl
theorem dX11_plainNumber_42 : decode cX11_plainNumber 42 = .ok (.iinc 2 1, 3) := dc_132 (byA eNcX11_plainNumber (p := 42) (v := 132) (by decide +kernel)) (byA eNcX11_plainNumber (p := 43) (v := 2) (by decide +kernel)) (byA eNcX11_plainNumber (p := 44) (v := 1) (by decide +kernel)) (by decide +kernel)
theorem dX11_plainNumber_45 : decode cX11_plainNumber 45 = .ok (.goto (-41), 3) := dc_167 (byA eNcX11_plainNumber (p := 45) (v := 167) (by decide +kernel)) (byA eNcX11_plainNumber (p := 46) (v := 255) (by decide +kernel)) (byA eNcX11_plainNumber (p := 47) (v := 215) (by decide +kernel)) (by decide +kernel)
theorem dX11_plainNumber_48 : decode cX11_plainNumber 48 = .ok (.aload_n 0, 1) := dc_42 (byA eNcX11_plainNumber (p := 48) (v := 42) (by decide +kernel))
theorem dX11_plainNumber_49 : decode cX11_plainNumber 49 = .ok (.invokevirtual 111, 3) := dc_182 (byA eNcX11_plainNumber (p := 49) (v := 182) (by decide +kernel)) (byA eNcX11_plainNumber (p := 50) (v := 0) (by decide +kernel)) (byA eNcX11_plainNumber (p := 51) (v := 111) (by decide +kernel)) rfl
theorem dX11_plainNumber_52 : decode cX11_plainNumber 52 = .ok (.invokestatic 130, 3) := dc_184 (byA eNcX11_plainNumber (p := 52) (v := 184) (by decide +kernel)) (byA eNcX11_plainNumber (p := 53) (v := 0) (by decide +kernel)) (byA eNcX11_plainNumber (p := 54) (v := 130) (by decide +kernel)) rfl
theorem dX11_plainNumber_55 : decode cX11_plainNumber 55 = .ok (.ifCond .eq 7, 3) := dc_153 (byA eNcX11_plainNumber (p := 55) (v := 153) (by decide +kernel)) (byA eNcX11_plainNumber (p := 56) (v := 0) (by decide +kernel)) (byA eNcX11_plainNumber (p := 57) (v := 7) (by decide +kernel)) (by decide +kernel)
theorem dX11_plainNumber_58 : decode cX11_plainNumber 58 = .ok (.aload_n 0, 1) := dc_42 (byA eNcX11_plainNumber (p := 58) (v := 42) (by decide +kernel))
theorem dX11_plainNumber_59 : decode cX11_plainNumber 59 = .ok (.invokevirtual 124, 3) := dc_182 (byA eNcX11_plainNumber (p := 59) (v := 182) (by decide +kernel)) (byA eNcX11_plainNumber (p := 60) (v := 0) (by decide +kernel)) (byA eNcX11_plainNumber (p := 61) (v := 124) (by decide +kernel)) rfl
theorem dX11_plainNumber_62 : decode cX11_plainNumber 62 = .ok (.iload_n 1, 1) := dc_27 (byA eNcX11_plainNumber (p := 62) (v := 27) (by decide +kernel))
theorem dX11_plainNumber_63 : decode cX11_plainNumber 63 = .ok (.ireturn, 1) := dc_172 (byA eNcX11_plainNumber (p := 63) (v := 172) (by decide +kernel))
def X11_plainNumber_L4 (k48 : Int → Mm → Rs) : Nat → Int → Int → Mm → Rs
  | 0, _, _, _ => none
  | n + 1, l1, l2, μ => if 4 ≤ l2 then (k48 l1 μ) else (bd (X11_here μ) fun v2 μ3 => bd (X11_isDigit v2 μ3) fun v5 μ6 => if v5 = 0 then (k48 l1 μ6) else (bd (X11_here μ6) fun v9 μ10 => lt_ (iS (iA (iM 10 l1) v9) 48) fun v12 => sF μ10 70 3 (iA (μ10 70 3) 1) fun μ13 => X11_plainNumber_L4 k48 n v12 (iA l2 1) μ13))
def X11_plainNumber (μ : Mm) : Rs := X11_plainNumber_L4 (fun v14 μ15 => bd (X11_here μ15) fun v16 μ17 => bd (X11_isDigit v16 μ17) fun v19 μ20 => if v19 = 0 then (some (v14, μ20)) else (bd (X11_bad μ20) fun v23 μ24 => some (v14, μ24))) FU 0 0 μ
set_option maxHeartbeats 4000000 in
set_option maxRecDepth 100000 in
theorem kX11_plainNumber_L4 (d : Nat) (hd : 2 ≤ d) {k48 : Int → Mm → Rs} {r : Int} {μ' : Mm} (hk_48 : ∀ (v1 : Int) (μ1 : Mm), k48 v1 μ1 = some (r, μ') → VV d mX11_plainNumber 48 [some (vR 70), some (vI v1), none] [] μ1 r μ') : ∀ (n : Nat) {l1 l2 : Int} {μ : Mm}, X11_plainNumber_L4 k48 n l1 l2 μ = some (r, μ') → VV d mX11_plainNumber 4 [some (vR 70), some (vI l1), some (vI l2)] [] μ r μ' := by
  intro n
  induction n with
  | zero => intro l1 l2 μ h; rw [X11_plainNumber_L4] at h; cases h
  | succ n ih =>
    intro l1 l2 μ h
    rw [X11_plainNumber_L4] at h
    refine V_iload_n (q := 5) dX11_plainNumber_4 rfl rfl rfl ?_
    refine V_iconst (q := 6) dX11_plainNumber_5 rfl rfl ?_
    refine V_icmpge (q := 48) (q2 := 9) dX11_plainNumber_6 (by decide) rfl (fun hc1 => ?_) (fun hc1 => ?_)
    · have h := ifT hc1 h
      exact V_weak (hk_48 _ _ h) (sb_s rfl (sb_s rfl (sb_n sb_0)))
    · have h := ifF hc1 h
      refine V_aload_n (q := 10) dX11_plainNumber_9 rfl rfl rfl ?_
      obtain ⟨v2, μ3, hc4, h⟩ := bd_i h
      refine V_cV1 (q := 13) (v := vI v2) (kX11_here (d - 1) (by omega) hc4) (by omega) mv_X11_111 rfl rfl rfl rfl rfl rfl dX11_plainNumber_10 rfl ?_
      obtain ⟨v5, μ6, hc7, h⟩ := bd_i h
      refine V_cS1 (q := 16) (v := vI v5) (kX11_isDigit (d - 1) (by omega) hc7) (by omega) mv_X11_130 rfl rfl rfl rfl dX11_plainNumber_13 rfl ?_
      refine V_ifeq (q := 48) (q2 := 19) dX11_plainNumber_16 (by decide) rfl (fun hc8 => ?_) (fun hc8 => ?_)
      · have h := ifT hc8 h
        exact V_weak (hk_48 _ _ h) (sb_s rfl (sb_s rfl (sb_n sb_0)))
      · have h := ifF hc8 h
        refine V_bipush (q := 21) dX11_plainNumber_19 rfl rfl rfl ?_
        refine V_iload_n (q := 22) dX11_plainNumber_21 rfl rfl rfl ?_
        refine V_imul (q := 23) dX11_plainNumber_22 rfl ?_
        refine V_aload_n (q := 24) dX11_plainNumber_23 rfl rfl rfl ?_
        obtain ⟨v9, μ10, hc11, h⟩ := bd_i h
        refine V_cV1 (q := 27) (v := vI v9) (kX11_here (d - 1) (by omega) hc11) (by omega) mv_X11_111 rfl rfl rfl rfl rfl rfl dX11_plainNumber_24 rfl ?_
        refine V_iadd (q := 28) dX11_plainNumber_27 rfl ?_
        refine V_bipush (q := 30) dX11_plainNumber_28 rfl rfl rfl ?_
        refine V_isub (q := 31) dX11_plainNumber_30 rfl ?_
        have h := lt_i h
        refine V_istore_n (q := 32) dX11_plainNumber_31 rfl (Nat.le_of_ble_eq_true rfl) trivial rfl ?_
        refine V_aload_n (q := 33) dX11_plainNumber_32 rfl rfl rfl ?_
        refine V_dup (q := 34) dX11_plainNumber_33 trivial rfl ?_
        refine V_getI (q := 37) fl_X11_108 rfl rfl rfl dX11_plainNumber_34 rfl ?_
        refine V_iconst (q := 38) dX11_plainNumber_37 rfl rfl ?_
        refine V_iadd (q := 39) dX11_plainNumber_38 rfl ?_
        have h := sF_i h
        refine V_putI (q := 42) fl_X11_108 rfl rfl rfl dX11_plainNumber_39 rfl ?_
        refine V_iinc (q := 45) dX11_plainNumber_42 rfl (Nat.le_of_ble_eq_true rfl) trivial rfl ?_
        refine V_goto (q := 4) dX11_plainNumber_45 (by decide) ?_
        exact V_weak (ih h) (sb_s rfl (sb_s rfl (sb_s rfl sb_0)))
set_option maxHeartbeats 4000000 in
set_option maxRecDepth 100000 in
theorem kX11_plainNumber (d : Nat) (hd : 2 ≤ d) {μ : Mm} {r : Int} {μ' : Mm} (h : X11_plainNumber μ = some (r, μ')) : CC d mX11_plainNumber [vR 70] μ r μ' := by
  unfold X11_plainNumber at h
  refine V_enter (by decide) (Nat.le_of_ble_eq_true rfl) ?_
  show VV d mX11_plainNumber 0 [some (vR 70), none, none] [] μ r μ'
  refine V_iconst (q := 1) dX11_plainNumber_0 rfl rfl ?_
  refine V_istore_n (q := 2) dX11_plainNumber_1 rfl (Nat.le_of_ble_eq_true rfl) trivial rfl ?_
  refine V_iconst (q := 3) dX11_plainNumber_2 rfl rfl ?_
  refine V_istore_n (q := 4) dX11_plainNumber_3 rfl (Nat.le_of_ble_eq_true rfl) trivial rfl ?_
  refine V_weak (kX11_plainNumber_L4 d hd (fun v14 μ15 h => ?_) FU h) (sb_s rfl (sb_s rfl (sb_s rfl sb_0)))
  refine V_aload_n (q := 49) dX11_plainNumber_48 rfl rfl rfl ?_
  obtain ⟨v16, μ17, hc18, h⟩ := bd_i h
  refine V_cV1 (q := 52) (v := vI v16) (kX11_here (d - 1) (by omega) hc18) (by omega) mv_X11_111 rfl rfl rfl rfl rfl rfl dX11_plainNumber_49 rfl ?_
  obtain ⟨v19, μ20, hc21, h⟩ := bd_i h
  refine V_cS1 (q := 55) (v := vI v19) (kX11_isDigit (d - 1) (by omega) hc21) (by omega) mv_X11_130 rfl rfl rfl rfl dX11_plainNumber_52 rfl ?_
  refine V_ifeq (q := 62) (q2 := 58) dX11_plainNumber_55 (by decide) rfl (fun hc22 => ?_) (fun hc22 => ?_)
  · have h := ifT hc22 h
    refine V_iload_n (q := 63) dX11_plainNumber_62 rfl rfl rfl ?_
    exact V_iret rfl h dX11_plainNumber_63
  · have h := ifF hc22 h
    refine V_aload_n (q := 59) dX11_plainNumber_58 rfl rfl rfl ?_
    obtain ⟨v23, μ24, hc25, h⟩ := bd_i h
    refine V_cV0 (q := 62) (kX11_bad (d - 1) (by omega) hc25) (by omega) mv_X11_124 rfl rfl rfl rfl rfl rfl dX11_plainNumber_59 rfl ?_
    refine V_iload_n (q := 63) dX11_plainNumber_62 rfl rfl rfl ?_
    exact V_iret rfl h dX11_plainNumber_63
