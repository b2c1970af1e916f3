abbrev mX5_crankAt : Mth := (yX5_crankAt, cX5_crankAt, 5, some .int)
set_option maxRecDepth 100000 in
theorem mi_X5_crankAt : Cond.instanceMethod yX5_crankAt ∈ tG ∧ Cond.selects yX5_crankAt.cls yX5_crankAt yX5_crankAt ∈ tG ∧ Cond.initialized yX5_crankAt.cls ∈ tG ∧ Cond.code yX5_crankAt cX5_crankAt 5 (some .int) ∈ tG ∧ (yX5_crankAt.cls ≠ "java/lang/invoke/MethodHandle" ∧ yX5_crankAt.cls ≠ "java/lang/invoke/VarHandle" ∧ (parseMethodDescriptor yX5_crankAt.desc).map (fun d => d.parameters.length) = some 2) ∧ 5 ≤ 60 := ⟨(tG_of (tb4 (List.mem_of_getElem? (i := 48) rfl)) (by decide +kernel)), (tG_of (tb4 (List.mem_of_getElem? (i := 49) rfl)) (by decide +kernel)), (tG_of (tb1 (List.mem_of_getElem? (i := 9) rfl)) (by decide +kernel)), (tG_of (tb4 (List.mem_of_getElem? (i := 50) rfl)) (by decide +kernel)), ⟨by decide, by decide, by decide +kernel⟩, by decide⟩
set_option maxRecDepth 100000 in
theorem mv_X10_271 : mV RX10 271 mX5_crankAt 2 := ⟨(tG_of (tb4 (List.mem_of_getElem? (i := 47) rfl)) (by decide +kernel)), mi_X5_crankAt⟩
theorem dX5_crankAt_0 : decode cX5_crankAt 0 = .ok (.iconst 0, 1) := dc_3 (byA eNcX5_crankAt (p := 0) (v := 3) (by decide +kernel))
theorem dX5_crankAt_1 : decode cX5_crankAt 1 = .ok (.istore_n 3, 1) := dc_62 (byA eNcX5_crankAt (p := 1) (v := 62) (by decide +kernel))
theorem dX5_crankAt_2 : decode cX5_crankAt 2 = .ok (.iload_n 3, 1) := dc_29 (byA eNcX5_crankAt (p := 2) (v := 29) (by decide +kernel))
theorem dX5_crankAt_3 : decode cX5_crankAt 3 = .ok (.aload_n 0, 1) := dc_42 (byA eNcX5_crankAt (p := 3) (v := 42) (by decide +kernel))
theorem dX5_crankAt_4 : decode cX5_crankAt 4 = .ok (.getfield 21, 3) := dc_180 (byA eNcX5_crankAt (p := 4) (v := 180) (by decide +kernel)) (byA eNcX5_crankAt (p := 5) (v := 0) (by decide +kernel)) (byA eNcX5_crankAt (p := 6) (v := 21) (by decide +kernel)) rfl
theorem dX5_crankAt_7 : decode cX5_crankAt 7 = .ok (.if_icmp .ge 53, 3) := dc_162 (byA eNcX5_crankAt (p := 7) (v := 162) (by decide +kernel)) (byA eNcX5_crankAt (p := 8) (v := 0) (by decide +kernel)) (byA eNcX5_crankAt (p := 9) (v := 53) (by decide +kernel)) (by decide +kernel)
theorem dX5_crankAt_10 : decode cX5_crankAt 10 = .ok (.iload_n 3, 1) := dc_29 (byA eNcX5_crankAt (p := 10) (v := 29) (by decide +kernel))
theorem dX5_crankAt_11 : decode cX5_crankAt 11 = .ok (.bipush 8, 2) := dc_16 (byA eNcX5_crankAt (p := 11) (v := 16) (by decide +kernel)) (byA eNcX5_crankAt (p := 12) (v := 8) (by decide +kernel)) (by decide +kernel)
theorem dX5_crankAt_13 : decode cX5_crankAt 13 = .ok (.if_icmp .ge 47, 3) := dc_162 (byA eNcX5_crankAt (p := 13) (v := 162) (by decide +kernel)) (byA eNcX5_crankAt (p := 14) (v := 0) (by decide +kernel)) (byA eNcX5_crankAt (p := 15) (v := 47) (by decide +kernel)) (by decide +kernel)
theorem dX5_crankAt_16 : decode cX5_crankAt 16 = .ok (.aload_n 0, 1) := dc_42 (byA eNcX5_crankAt (p := 16) (v := 42) (by decide +kernel))
theorem dX5_crankAt_17 : decode cX5_crankAt 17 = .ok (.getfield 9, 3) := dc_180 (byA eNcX5_crankAt (p := 17) (v := 180) (by decide +kernel)) (byA eNcX5_crankAt (p := 18) (v := 0) (by decide +kernel)) (byA eNcX5_crankAt (p := 19) (v := 9) (by decide +kernel)) rfl
theorem dX5_crankAt_20 : decode cX5_crankAt 20 = .ok (.iload_n 3, 1) := dc_29 (byA eNcX5_crankAt (p := 20) (v := 29) (by decide +kernel))
theorem dX5_crankAt_21 : decode cX5_crankAt 21 = .ok (.iaload, 1) := dc_46 (byA eNcX5_crankAt (p := 21) (v := 46) (by decide +kernel))
theorem dX5_crankAt_22 : decode cX5_crankAt 22 = .ok (.istore 4, 2) := dc_54 (byA eNcX5_crankAt (p := 22) (v := 54) (by decide +kernel)) (byA eNcX5_crankAt (p := 23) (v := 4) (by decide +kernel))
theorem dX5_crankAt_24 : decode cX5_crankAt 24 = .ok (.aload_n 0, 1) := dc_42 (byA eNcX5_crankAt (p := 24) (v := 42) (by decide +kernel))
theorem dX5_crankAt_25 : decode cX5_crankAt 25 = .ok (.getfield 15, 3) := dc_180 (byA eNcX5_crankAt (p := 25) (v := 180) (by decide +kernel)) (byA eNcX5_crankAt (p := 26) (v := 0) (by decide +kernel)) (byA eNcX5_crankAt (p := 27) (v := 15) (by decide +kernel)) rfl
theorem dX5_crankAt_28 : decode cX5_crankAt 28 = .ok (.iload 4, 2) := dc_21 (byA eNcX5_crankAt (p := 28) (v := 21) (by decide +kernel)) (byA eNcX5_crankAt (p := 29) (v := 4) (by decide +kernel))
theorem dX5_crankAt_30 : decode cX5_crankAt 30 = .ok (.iaload, 1) := dc_46 (byA eNcX5_crankAt (p := 30) (v := 46) (by decide +kernel))
theorem dX5_crankAt_31 : decode cX5_crankAt 31 = .ok (.iload_n 2, 1) := dc_28 (byA eNcX5_crankAt (p := 31) (v := 28) (by decide +kernel))
theorem dX5_crankAt_32 : decode cX5_crankAt 32 = .ok (.if_icmp .gt 22, 3) := dc_163 (byA eNcX5_crankAt (p := 32) (v := 163) (by decide +kernel)) (byA eNcX5_crankAt (p := 33) (v := 0) (by decide +kernel)) (byA eNcX5_crankAt (p := 34) (v := 22) (by decide +kernel)) (by decide +kernel)
theorem dX5_crankAt_35 : decode cX5_crankAt 35 = .ok (.iload_n 2, 1) := dc_28 (byA eNcX5_crankAt (p := 35) (v := 28) (by decide +kernel))
theorem dX5_crankAt_36 : decode cX5_crankAt 36 = .ok (.aload_n 0, 1) := dc_42 (byA eNcX5_crankAt (p := 36) (v := 42) (by decide +kernel))
theorem dX5_crankAt_37 : decode cX5_crankAt 37 = .ok (.getfield 18, 3) := dc_180 (byA eNcX5_crankAt (p := 37) (v := 180) (by decide +kernel)) (byA eNcX5_crankAt (p := 38) (v := 0) (by decide +kernel)) (byA eNcX5_crankAt (p := 39) (v := 18) (by decide +kernel)) rfl
theorem dX5_crankAt_40 : decode cX5_crankAt 40 = .ok (.iload 4, 2) := dc_21 (byA eNcX5_crankAt (p := 40) (v := 21) (by decide +kernel)) (byA eNcX5_crankAt (p := 41) (v := 4) (by decide +kernel))
theorem dX5_crankAt_42 : decode cX5_crankAt 42 = .ok (.iaload, 1) := dc_46 (byA eNcX5_crankAt (p := 42) (v := 46) (by decide +kernel))
theorem dX5_crankAt_43 : decode cX5_crankAt 43 = .ok (.if_icmp .gt 11, 3) := dc_163 (byA eNcX5_crankAt (p := 43) (v := 163) (by decide +kernel)) (byA eNcX5_crankAt (p := 44) (v := 0) (by decide +kernel)) (byA eNcX5_crankAt (p := 45) (v := 11) (by decide +kernel)) (by decide +kernel)
theorem dX5_crankAt_46 : decode cX5_crankAt 46 = .ok (.aload_n 1, 1) := dc_43 (byA eNcX5_crankAt (p := 46) (v := 43) (by decide +kernel))
theorem dX5_crankAt_47 : decode cX5_crankAt 47 = .ok (.getfield 69, 3) := dc_180 (byA eNcX5_crankAt (p := 47) (v := 180) (by decide +kernel)) (byA eNcX5_crankAt (p := 48) (v := 0) (by decide +kernel)) (byA eNcX5_crankAt (p := 49) (v := 69) (by decide +kernel)) rfl
theorem dX5_crankAt_50 : decode cX5_crankAt 50 = .ok (.iload 4, 2) := dc_21 (byA eNcX5_crankAt (p := 50) (v := 21) (by decide +kernel)) (byA eNcX5_crankAt (p := 51) (v := 4) (by decide +kernel))
theorem dX5_crankAt_52 : decode cX5_crankAt 52 = .ok (.iaload, 1) := dc_46 (byA eNcX5_crankAt (p := 52) (v := 46) (by decide +kernel))
theorem dX5_crankAt_53 : decode cX5_crankAt 53 = .ok (.ireturn, 1) := dc_172 (byA eNcX5_crankAt (p := 53) (v := 172) (by decide +kernel))
theorem dX5_crankAt_54 : decode cX5_crankAt 54 = .ok (.iinc 3 1, 3) := dc_132 (byA eNcX5_crankAt (p := 54) (v := 132) (by decide +kernel)) (byA eNcX5_crankAt (p := 55) (v := 3) (by decide +kernel)) (byA eNcX5_crankAt (p := 56) (v := 1) (by decide +kernel)) (by decide +kernel)
theorem dX5_crankAt_57 : decode cX5_crankAt 57 = .ok (.goto (-55), 3) := dc_167 (byA eNcX5_crankAt (p := 57) (v := 167) (by decide +kernel)) (byA eNcX5_crankAt (p := 58) (v := 255) (by decide +kernel)) (byA eNcX5_crankAt (p := 59) (v := 201) (by decide +kernel)) (by decide +kernel)
theorem dX5_crankAt_60 : decode cX5_crankAt 60 = .ok (.iload_n 2, 1) := dc_28 (byA eNcX5_crankAt (p := 60) (v := 28) (by decide +kernel))
theorem dX5_crankAt_61 : decode cX5_crankAt 61 = .ok (.aload_n 0, 1) := dc_42 (byA eNcX5_crankAt (p := 61) (v := 42) (by decide +kernel))
theorem dX5_crankAt_62 : decode cX5_crankAt 62 = .ok (.getfield 36, 3) := dc_180 (byA eNcX5_crankAt (p := 62) (v := 180) (by decide +kernel)) (byA eNcX5_crankAt (p := 63) (v := 0) (by decide +kernel)) (byA eNcX5_crankAt (p := 64) (v := 36) (by decide +kernel)) rfl
theorem dX5_crankAt_65 : decode cX5_crankAt 65 = .ok (.if_icmp .le 8, 3) := dc_164 (byA eNcX5_crankAt (p := 65) (v := 164) (by decide +kernel)) (byA eNcX5_crankAt (p := 66) (v := 0) (by decide +kernel)) (byA eNcX5_crankAt (p := 67) (v := 8) (by decide +kernel)) (by decide +kernel)
theorem dX5_crankAt_68 : decode cX5_crankAt 68 = .ok (.bipush 9, 2) := dc_16 (byA eNcX5_crankAt (p := 68) (v := 16) (by decide +kernel)) (byA eNcX5_crankAt (p := 69) (v := 9) (by decide +kernel)) (by decide +kernel)
theorem dX5_crankAt_70 : decode cX5_crankAt 70 = .ok (.goto 5, 3) := dc_167 (byA eNcX5_crankAt (p := 70) (v := 167) (by decide +kernel)) (byA eNcX5_crankAt (p := 71) (v := 0) (by decide +kernel)) (byA eNcX5_crankAt (p := 72) (v := 5) (by decide +kernel)) (by decide +kernel)
theorem dX5_crankAt_73 : decode cX5_crankAt 73 = .ok (.bipush 8, 2) := dc_16 (byA eNcX5_crankAt (p := 73) (v := 16) (by decide +kernel)) (byA eNcX5_crankAt (p := 74) (v := 8) (by decide +kernel)) (by decide +kernel)
theorem dX5_crankAt_75 : decode cX5_crankAt 75 = .ok (.ireturn, 1) := dc_172 (byA eNcX5_crankAt (p := 75) (v := 172) (by decide +kernel))
def X5_crankAt_L2 (l1 : Nat) (l2 : Int) (k60 : Mm → Rs) : Nat → Int → Mm → Rs
  | 0, _, _ => none
  | n + 1, l3, μ => if (μ 58 3) ≤ l3 then (k60 μ) else (if 8 ≤ l3 then (k60 μ) else (ldA μ 59 l3 fun v3 => ldA μ 60 v3 fun v5 => if l2 < v5 then (X5_crankAt_L2 l1 l2 k60 n (iA l3 1) μ) else (ldA μ 61 v3 fun v8 => if v8 < l2 then (X5_crankAt_L2 l1 l2 k60 n (iA l3 1) μ) else (ldA μ (l1 + 1) v3 fun v11 => some (v11, μ)))))
def X5_crankAt (l1 : Nat) (l2 : Int) (μ : Mm) : Rs := X5_crankAt_L2 l1 l2 (fun μ13 => if l2 ≤ (μ13 58 7) then (some (8, μ13)) else (some (9, μ13))) FU 0 μ
set_option maxHeartbeats 4000000 in
set_option maxRecDepth 100000 in
theorem kX5_crankAt_L2 (d : Nat) (hd : 1 ≤ d) {l1 : Nat} {l2 : Int} (hk1 : kD l1 = (11, 7)) {k60 : Mm → Rs} {r : Int} {μ' : Mm} (hk_60 : ∀ (μ1 : Mm), k60 μ1 = some (r, μ') → VV d mX5_crankAt 60 [some (vR 58), none, some (vI l2), none, none] [] μ1 r μ') : ∀ (n : Nat) {l3 : Int} {μ : Mm}, X5_crankAt_L2 l1 l2 k60 n l3 μ = some (r, μ') → VV d mX5_crankAt 2 [some (vR 58), some (vR l1), some (vI l2), some (vI l3), none] [] μ r μ' := by
  intro n
  induction n with
  | zero => intro l3 μ h; rw [X5_crankAt_L2] at h; cases h
  | succ n ih =>
    intro l3 μ h
    rw [X5_crankAt_L2] at h
    refine V_iload_n (q := 3) dX5_crankAt_2 rfl rfl rfl ?_
    refine V_aload_n (q := 4) dX5_crankAt_3 rfl rfl rfl ?_
    refine V_getI (q := 7) fl_X5_21 rfl rfl rfl dX5_crankAt_4 rfl ?_
    refine V_icmpge (q := 60) (q2 := 10) dX5_crankAt_7 (by decide) rfl (fun hc1 => ?_) (fun hc1 => ?_)
    · have h := ifT hc1 h
      exact V_weak (hk_60 _ h) (sb_s rfl (sb_n (sb_s rfl (sb_n (sb_n sb_0)))))
    · have h := ifF hc1 h
      refine V_iload_n (q := 11) dX5_crankAt_10 rfl rfl rfl ?_
      refine V_bipush (q := 13) dX5_crankAt_11 rfl rfl rfl ?_
      refine V_icmpge (q := 60) (q2 := 16) dX5_crankAt_13 (by decide) rfl (fun hc2 => ?_) (fun hc2 => ?_)
      · have h := ifT hc2 h
        exact V_weak (hk_60 _ h) (sb_s rfl (sb_n (sb_s rfl (sb_n (sb_n sb_0)))))
      · have h := ifF hc2 h
        refine V_aload_n (q := 17) dX5_crankAt_16 rfl rfl rfl ?_
        refine V_getO (q := 20) (t := 59) fl_X5_9 rfl rfl rfl rfl dX5_crankAt_17 rfl ?_
        refine V_iload_n (q := 21) dX5_crankAt_20 rfl rfl rfl ?_
        obtain ⟨hi4, h⟩ := ldA_i h
        refine V_iaload (q := 22) rfl hi4 dX5_crankAt_21 rfl ?_
        refine V_istore (q := 24) dX5_crankAt_22 (Nat.le_of_ble_eq_true rfl) trivial rfl ?_
        refine V_aload_n (q := 25) dX5_crankAt_24 rfl rfl rfl ?_
        refine V_getO (q := 28) (t := 60) fl_X5_15 rfl rfl rfl rfl dX5_crankAt_25 rfl ?_
        refine V_iload (q := 30) dX5_crankAt_28 rfl rfl ?_
        obtain ⟨hi6, h⟩ := ldA_i h
        refine V_iaload (q := 31) rfl hi6 dX5_crankAt_30 rfl ?_
        refine V_iload_n (q := 32) dX5_crankAt_31 rfl rfl rfl ?_
        refine V_icmpgt (q := 54) (q2 := 35) dX5_crankAt_32 (by decide) rfl (fun hc7 => ?_) (fun hc7 => ?_)
        · have h := ifT hc7 h
          refine V_iinc (q := 57) dX5_crankAt_54 rfl (Nat.le_of_ble_eq_true rfl) trivial rfl ?_
          refine V_goto (q := 2) dX5_crankAt_57 (by decide) ?_
          exact V_weak (ih h) (sb_s rfl (sb_s rfl (sb_s rfl (sb_s rfl (sb_n sb_0)))))
        · have h := ifF hc7 h
          refine V_iload_n (q := 36) dX5_crankAt_35 rfl rfl rfl ?_
          refine V_aload_n (q := 37) dX5_crankAt_36 rfl rfl rfl ?_
          refine V_getO (q := 40) (t := 61) fl_X5_18 rfl rfl rfl rfl dX5_crankAt_37 rfl ?_
          refine V_iload (q := 42) dX5_crankAt_40 rfl rfl ?_
          obtain ⟨hi9, h⟩ := ldA_i h
          refine V_iaload (q := 43) rfl hi9 dX5_crankAt_42 rfl ?_
          refine V_icmpgt (q := 54) (q2 := 46) dX5_crankAt_43 (by decide) rfl (fun hc10 => ?_) (fun hc10 => ?_)
          · have h := ifT hc10 h
            refine V_iinc (q := 57) dX5_crankAt_54 rfl (Nat.le_of_ble_eq_true rfl) trivial rfl ?_
            refine V_goto (q := 2) dX5_crankAt_57 (by decide) ?_
            exact V_weak (ih h) (sb_s rfl (sb_s rfl (sb_s rfl (sb_s rfl (sb_n sb_0)))))
          · have h := ifF hc10 h
            refine V_aload_n (q := 47) dX5_crankAt_46 rfl rfl rfl ?_
            refine V_getO (q := 50) (t := _) fl_X5_69 hk1 rfl rfl rfl dX5_crankAt_47 rfl ?_
            refine V_iload (q := 52) dX5_crankAt_50 rfl rfl ?_
            obtain ⟨hi12, h⟩ := ldA_i h
            refine V_iaload (q := 53) (kdo_1_1 hk1) hi12 dX5_crankAt_52 rfl ?_
            exact V_iret rfl h dX5_crankAt_53
set_option maxHeartbeats 4000000 in
set_option maxRecDepth 100000 in
theorem kX5_crankAt (d : Nat) (hd : 1 ≤ d) {l1 : Nat} {l2 : Int} (hk1 : kD l1 = (11, 7)) {μ : Mm} {r : Int} {μ' : Mm} (h : X5_crankAt l1 l2 μ = some (r, μ')) : CC d mX5_crankAt [vR 58, vR l1, vI l2] μ r μ' := by
  unfold X5_crankAt at h
  refine V_enter (by decide) (Nat.le_of_ble_eq_true rfl) ?_
  show VV d mX5_crankAt 0 [some (vR 58), some (vR l1), some (vI l2), none, none] [] μ r μ'
  refine V_iconst (q := 1) dX5_crankAt_0 rfl rfl ?_
  refine V_istore_n (q := 2) dX5_crankAt_1 rfl (Nat.le_of_ble_eq_true rfl) trivial rfl ?_
  refine V_weak (kX5_crankAt_L2 d hd hk1 (fun μ13 h => ?_) FU h) (sb_s rfl (sb_s rfl (sb_s rfl (sb_s rfl (sb_n sb_0)))))
  refine V_iload_n (q := 61) dX5_crankAt_60 rfl rfl rfl ?_
  refine V_aload_n (q := 62) dX5_crankAt_61 rfl rfl rfl ?_
  refine V_getI (q := 65) fl_X5_36 rfl rfl rfl dX5_crankAt_62 rfl ?_
  refine V_icmple (q := 73) (q2 := 68) dX5_crankAt_65 (by decide) rfl (fun hc14 => ?_) (fun hc14 => ?_)
  · have h := ifT hc14 h
    refine V_bipush (q := 75) dX5_crankAt_73 rfl rfl rfl ?_
    exact V_iret rfl h dX5_crankAt_75
  · have h := ifF hc14 h
    refine V_bipush (q := 70) dX5_crankAt_68 rfl rfl rfl ?_
    refine V_goto (q := 75) dX5_crankAt_70 (by decide) ?_
    exact V_iret rfl h dX5_crankAt_75
abbrev mX6_forget : Mth := (yX6_forget, cX6_forget, 3, none)
set_option maxRecDepth 100000 in
theorem mi_X6_forget : Cond.instanceMethod yX6_forget ∈ tG ∧ Cond.selects yX6_forget.cls yX6_forget yX6_forget ∈ tG ∧ Cond.initialized yX6_forget.cls ∈ tG ∧ Cond.code yX6_forget cX6_forget 3 (none) ∈ tG ∧ (yX6_forget.cls ≠ "java/lang/invoke/MethodHandle" ∧ yX6_forget.cls ≠ "java/lang/invoke/VarHandle" ∧ (parseMethodDescriptor yX6_forget.desc).map (fun d => d.parameters.length) = some 0) ∧ 3 ≤ 60 := ⟨(tG_of (tb4 (List.mem_of_getElem? (i := 77) rfl)) (by decide +kernel)), (tG_of (List.mem_of_getElem? (i := 27) (by decide +kernel)) (by decide +kernel)), (tG_of (tb1 (List.mem_of_getElem? (i := 10) rfl)) (by decide +kernel)), (tG_of (tb4 (List.mem_of_getElem? (i := 78) rfl)) (by decide +kernel)), ⟨by decide, by decide, by decide +kernel⟩, by decide⟩
set_option maxRecDepth 100000 in
theorem mv_X6_48 : mV RX6 48 mX6_forget 0 := ⟨(tG_of (tb4 (List.mem_of_getElem? (i := 75) rfl)) (by decide +kernel)), mi_X6_forget⟩
theorem dX6_forget_0 : decode cX6_forget 0 = .ok (.aload_n 0, 1) := dc_42 (byA eNcX6_forget (p := 0) (v := 42) (by decide +kernel))
theorem dX6_forget_1 : decode cX6_forget 1 = .ok (.getfield 24, 3) := dc_180 (byA eNcX6_forget (p := 1) (v := 180) (by decide +kernel)) (byA eNcX6_forget (p := 2) (v := 0) (by decide +kernel)) (byA eNcX6_forget (p := 3) (v := 24) (by decide +kernel)) rfl
theorem dX6_forget_4 : decode cX6_forget 4 = .ok (.invokevirtual 55, 3) := dc_182 (byA eNcX6_forget (p := 4) (v := 182) (by decide +kernel)) (byA eNcX6_forget (p := 5) (v := 0) (by decide +kernel)) (byA eNcX6_forget (p := 6) (v := 55) (by decide +kernel)) rfl
theorem dX6_forget_7 : decode cX6_forget 7 = .ok (.iconst 1, 1) := dc_4 (byA eNcX6_forget (p := 7) (v := 4) (by decide +kernel))
theorem dX6_forget_8 : decode cX6_forget 8 = .ok (.iadd, 1) := dc_96 (byA eNcX6_forget (p := 8) (v := 96) (by decide +kernel))
theorem dX6_forget_9 : decode cX6_forget 9 = .ok (.bipush 8, 2) := dc_16 (byA eNcX6_forget (p := 9) (v := 16) (by decide +kernel)) (byA eNcX6_forget (p := 10) (v := 8) (by decide +kernel)) (by decide +kernel)
theorem dX6_forget_11 : decode cX6_forget 11 = .ok (.imul, 1) := dc_104 (byA eNcX6_forget (p := 11) (v := 104) (by decide +kernel))
theorem dX6_forget_12 : decode cX6_forget 12 = .ok (.istore_n 1, 1) := dc_60 (byA eNcX6_forget (p := 12) (v := 60) (by decide +kernel))
theorem dX6_forget_13 : decode cX6_forget 13 = .ok (.iconst 0, 1) := dc_3 (byA eNcX6_forget (p := 13) (v := 3) (by decide +kernel))
theorem dX6_forget_14 : decode cX6_forget 14 = .ok (.istore_n 2, 1) := dc_61 (byA eNcX6_forget (p := 14) (v := 61) (by decide +kernel))
theorem dX6_forget_15 : decode cX6_forget 15 = .ok (.iload_n 2, 1) := dc_28 (byA eNcX6_forget (p := 15) (v := 28) (by decide +kernel))
theorem dX6_forget_16 : decode cX6_forget 16 = .ok (.iload_n 1, 1) := dc_27 (byA eNcX6_forget (p := 16) (v := 27) (by decide +kernel))
theorem dX6_forget_17 : decode cX6_forget 17 = .ok (.if_icmp .ge 34, 3) := dc_162 (byA eNcX6_forget (p := 17) (v := 162) (by decide +kernel)) (byA eNcX6_forget (p := 18) (v := 0) (by decide +kernel)) (byA eNcX6_forget (p := 19) (v := 34) (by decide +kernel)) (by decide +kernel)
theorem dX6_forget_20 : decode cX6_forget 20 = .ok (.iload_n 2, 1) := dc_28 (byA eNcX6_forget (p := 20) (v := 28) (by decide +kernel))
theorem dX6_forget_21 : decode cX6_forget 21 = .ok (.aload_n 0, 1) := dc_42 (byA eNcX6_forget (p := 21) (v := 42) (by decide +kernel))
theorem dX6_forget_22 : decode cX6_forget 22 = .ok (.getfield 9, 3) := dc_180 (byA eNcX6_forget (p := 22) (v := 180) (by decide +kernel)) (byA eNcX6_forget (p := 23) (v := 0) (by decide +kernel)) (byA eNcX6_forget (p := 24) (v := 9) (by decide +kernel)) rfl
theorem dX6_forget_25 : decode cX6_forget 25 = .ok (.arraylength, 1) := dc_190 (byA eNcX6_forget (p := 25) (v := 190) (by decide +kernel))
theorem dX6_forget_26 : decode cX6_forget 26 = .ok (.if_icmp .ge 25, 3) := dc_162 (byA eNcX6_forget (p := 26) (v := 162) (by decide +kernel)) (byA eNcX6_forget (p := 27) (v := 0) (by decide +kernel)) (byA eNcX6_forget (p := 28) (v := 25) (by decide +kernel)) (by decide +kernel)
theorem dX6_forget_29 : decode cX6_forget 29 = .ok (.aload_n 0, 1) := dc_42 (byA eNcX6_forget (p := 29) (v := 42) (by decide +kernel))
theorem dX6_forget_30 : decode cX6_forget 30 = .ok (.getfield 9, 3) := dc_180 (byA eNcX6_forget (p := 30) (v := 180) (by decide +kernel)) (byA eNcX6_forget (p := 31) (v := 0) (by decide +kernel)) (byA eNcX6_forget (p := 32) (v := 9) (by decide +kernel)) rfl
theorem dX6_forget_33 : decode cX6_forget 33 = .ok (.iload_n 2, 1) := dc_28 (byA eNcX6_forget (p := 33) (v := 28) (by decide +kernel))
theorem dX6_forget_34 : decode cX6_forget 34 = .ok (.ldc 35, 2) := dc_18 (byA eNcX6_forget (p := 34) (v := 18) (by decide +kernel)) (byA eNcX6_forget (p := 35) (v := 35) (by decide +kernel))
theorem dX6_forget_36 : decode cX6_forget 36 = .ok (.iastore, 1) := dc_79 (byA eNcX6_forget (p := 36) (v := 79) (by decide +kernel))
theorem dX6_forget_37 : decode cX6_forget 37 = .ok (.aload_n 0, 1) := dc_42 (byA eNcX6_forget (p := 37) (v := 42) (by decide +kernel))
theorem dX6_forget_38 : decode cX6_forget 38 = .ok (.getfield 15, 3) := dc_180 (byA eNcX6_forget (p := 38) (v := 180) (by decide +kernel)) (byA eNcX6_forget (p := 39) (v := 0) (by decide +kernel)) (byA eNcX6_forget (p := 40) (v := 15) (by decide +kernel)) rfl
theorem dX6_forget_41 : decode cX6_forget 41 = .ok (.iload_n 2, 1) := dc_28 (byA eNcX6_forget (p := 41) (v := 28) (by decide +kernel))
theorem dX6_forget_42 : decode cX6_forget 42 = .ok (.ldc 35, 2) := dc_18 (byA eNcX6_forget (p := 42) (v := 18) (by decide +kernel)) (byA eNcX6_forget (p := 43) (v := 35) (by decide +kernel))
theorem dX6_forget_44 : decode cX6_forget 44 = .ok (.iastore, 1) := dc_79 (byA eNcX6_forget (p := 44) (v := 79) (by decide +kernel))
theorem dX6_forget_45 : decode cX6_forget 45 = .ok (.iinc 2 1, 3) := dc_132 (byA eNcX6_forget (p := 45) (v := 132) (by decide +kernel)) (byA eNcX6_forget (p := 46) (v := 2) (by decide +kernel)) (byA eNcX6_forget (p := 47) (v := 1) (by decide +kernel)) (by decide +kernel)
theorem dX6_forget_48 : decode cX6_forget 48 = .ok (.goto (-33), 3) := dc_167 (byA eNcX6_forget (p := 48) (v := 167) (by decide +kernel)) (byA eNcX6_forget (p := 49) (v := 255) (by decide +kernel)) (byA eNcX6_forget (p := 50) (v := 223) (by decide +kernel)) (by decide +kernel)
theorem dX6_forget_51 : decode cX6_forget 51 = .ok (.return_, 1) := dc_177 (byA eNcX6_forget (p := 51) (v := 177) (by decide +kernel))
def X6_forget_L15 (l1 : Int) : Nat → Int → Mm → Rs
  | 0, _, _ => none
  | n + 1, l2, μ => if l1 ≤ l2 then (some (0, μ)) else (if ((aN 63 : Nat) : Int) ≤ l2 then (some (0, μ)) else (stA μ 63 l2 1000000000 fun μ8 => stA μ8 64 l2 1000000000 fun μ10 => X6_forget_L15 l1 n (iA l2 1) μ10))
def X6_forget (μ : Mm) : Rs := mR μ 62 4 (11, 7) fun v1 => bd (X1_allCues v1 μ) fun v3 μ4 => X6_forget_L15 (iM (iA v3 1) 8) FU 0 μ4
set_option maxHeartbeats 4000000 in
set_option maxRecDepth 100000 in
theorem kX6_forget_L15 (d : Nat) (hd : 2 ≤ d) {l1 : Int} {r : Int} {μ' : Mm} : ∀ (n : Nat) {l2 : Int} {μ : Mm}, X6_forget_L15 l1 n l2 μ = some (r, μ') → VV d mX6_forget 15 [some (vR 62), some (vI l1), some (vI l2)] [] μ r μ' := by
  intro n
  induction n with
  | zero => intro l2 μ h; rw [X6_forget_L15] at h; cases h
  | succ n ih =>
    intro l2 μ h
    rw [X6_forget_L15] at h
    refine V_iload_n (q := 16) dX6_forget_15 rfl rfl rfl ?_
    refine V_iload_n (q := 17) dX6_forget_16 rfl rfl rfl ?_
    refine V_icmpge (q := 51) (q2 := 20) dX6_forget_17 (by decide) rfl (fun hc6 => ?_) (fun hc6 => ?_)
    · have h := ifT hc6 h
      exact V_vret rfl h dX6_forget_51
    · have h := ifF hc6 h
      refine V_iload_n (q := 21) dX6_forget_20 rfl rfl rfl ?_
      refine V_aload_n (q := 22) dX6_forget_21 rfl rfl rfl ?_
      refine V_getO (q := 25) (t := 63) fl_X6_9 rfl rfl rfl rfl dX6_forget_22 rfl ?_
      refine V_alen (q := 26) rfl dX6_forget_25 rfl ?_
      refine V_icmpge (q := 51) (q2 := 29) dX6_forget_26 (by decide) rfl (fun hc7 => ?_) (fun hc7 => ?_)
      · have h := ifT hc7 h
        exact V_vret rfl h dX6_forget_51
      · have h := ifF hc7 h
        refine V_aload_n (q := 30) dX6_forget_29 rfl rfl rfl ?_
        refine V_getO (q := 33) (t := 63) fl_X6_9 rfl rfl rfl rfl dX6_forget_30 rfl ?_
        refine V_iload_n (q := 34) dX6_forget_33 rfl rfl rfl ?_
        refine V_ldc (q := 36) (n := 1000000000) dX6_forget_34 (by unfold rI; omega) kc_X6_35 rfl ?_
        obtain ⟨hi9, h⟩ := stA_i h
        refine V_iastore (q := 37) rfl hi9 dX6_forget_36 rfl ?_
        refine V_aload_n (q := 38) dX6_forget_37 rfl rfl rfl ?_
        refine V_getO (q := 41) (t := 64) fl_X6_15 rfl rfl rfl rfl dX6_forget_38 rfl ?_
        refine V_iload_n (q := 42) dX6_forget_41 rfl rfl rfl ?_
        refine V_ldc (q := 44) (n := 1000000000) dX6_forget_42 (by unfold rI; omega) kc_X6_35 rfl ?_
        obtain ⟨hi11, h⟩ := stA_i h
        refine V_iastore (q := 45) rfl hi11 dX6_forget_44 rfl ?_
        refine V_iinc (q := 48) dX6_forget_45 rfl (Nat.le_of_ble_eq_true rfl) trivial rfl ?_
        refine V_goto (q := 15) dX6_forget_48 (by decide) ?_
        exact V_weak (ih h) (sb_s rfl (sb_s rfl (sb_s rfl sb_0)))
set_option maxHeartbeats 4000000 in
set_option maxRecDepth 100000 in
theorem kX6_forget (d : Nat) (hd : 2 ≤ d) {μ : Mm} {r : Int} {μ' : Mm} (h : X6_forget μ = some (r, μ')) : CC d mX6_forget [vR 62] μ r μ' := by
  unfold X6_forget at h
  refine V_enter (by decide) (Nat.le_of_ble_eq_true rfl) ?_
  show VV d mX6_forget 0 [some (vR 62), none, none] [] μ r μ'
  refine V_aload_n (q := 1) dX6_forget_0 rfl rfl rfl ?_
  obtain ⟨hm2, h⟩ := mR_i h
  refine V_getM (q := 4) fl_X6_24 rfl rfl rfl dX6_forget_1 rfl ?_
  obtain ⟨v3, μ4, hc5, h⟩ := bd_i h
  refine V_cV1 (q := 7) (v := vI v3) (kX1_allCues (d - 1) (by omega) hm2 hc5) (by omega) mv_X6_55 hm2 rfl rfl rfl rfl rfl dX6_forget_4 rfl ?_
  refine V_iconst (q := 8) dX6_forget_7 rfl rfl ?_
  refine V_iadd (q := 9) dX6_forget_8 rfl ?_
  refine V_bipush (q := 11) dX6_forget_9 rfl rfl rfl ?_
  refine V_imul (q := 12) dX6_forget_11 rfl ?_
  refine V_istore_n (q := 13) dX6_forget_12 rfl (Nat.le_of_ble_eq_true rfl) trivial rfl ?_
  refine V_iconst (q := 14) dX6_forget_13 rfl rfl ?_
  refine V_istore_n (q := 15) dX6_forget_14 rfl (Nat.le_of_ble_eq_true rfl) trivial rfl ?_
  exact V_weak (kX6_forget_L15 d hd  FU h) (sb_s rfl (sb_s rfl (sb_s rfl sb_0)))
abbrev mX6_withLate : Mth := (yX6_withLate, cX6_withLate, 3, some .int)
set_option maxRecDepth 100000 in
theorem mi_X6_withLate : Cond.instanceMethod yX6_withLate ∈ tG ∧ Cond.selects yX6_withLate.cls yX6_withLate yX6_withLate ∈ tG ∧ Cond.initialized yX6_withLate.cls ∈ tG ∧ Cond.code yX6_withLate cX6_withLate 3 (some .int) ∈ tG ∧ (yX6_withLate.cls ≠ "java/lang/invoke/MethodHandle" ∧ yX6_withLate.cls ≠ "java/lang/invoke/VarHandle" ∧ (parseMethodDescriptor yX6_withLate.desc).map (fun d => d.parameters.length) = some 2) ∧ 3 ≤ 60 := ⟨(tG_of (tb4 (List.mem_of_getElem? (i := 95) rfl)) (by decide +kernel)), (tG_of (List.mem_of_getElem? (i := 30) (by decide +kernel)) (by decide +kernel)), (tG_of (tb1 (List.mem_of_getElem? (i := 10) rfl)) (by decide +kernel)), (tG_of (tb4 (List.mem_of_getElem? (i := 96) rfl)) (by decide +kernel)), ⟨by decide, by decide, by decide +kernel⟩, by decide⟩
set_option maxRecDepth 100000 in
theorem mv_X6_76 : mV RX6 76 mX6_withLate 2 := ⟨(tG_of (tb4 (List.mem_of_getElem? (i := 93) rfl)) (by decide +kernel)), mi_X6_withLate⟩
theorem dX6_withLate_0 : decode cX6_withLate 0 = .ok (.aload_n 0, 1) := dc_42 (byA eNcX6_withLate (p := 0) (v := 42) (by decide +kernel))
theorem dX6_withLate_1 : decode cX6_withLate 1 = .ok (.getfield 28, 3) := dc_180 (byA eNcX6_withLate (p := 1) (v := 180) (by decide +kernel)) (byA eNcX6_withLate (p := 2) (v := 0) (by decide +kernel)) (byA eNcX6_withLate (p := 3) (v := 28) (by decide +kernel)) rfl
theorem dX6_withLate_4 : decode cX6_withLate 4 = .ok (.ifCond .ne 7, 3) := dc_154 (byA eNcX6_withLate (p := 4) (v := 154) (by decide +kernel)) (byA eNcX6_withLate (p := 5) (v := 0) (by decide +kernel)) (byA eNcX6_withLate (p := 6) (v := 7) (by decide +kernel)) (by decide +kernel)
theorem dX6_withLate_7 : decode cX6_withLate 7 = .ok (.iload_n 1, 1) := dc_27 (byA eNcX6_withLate (p := 7) (v := 27) (by decide +kernel))
theorem dX6_withLate_8 : decode cX6_withLate 8 = .ok (.iload_n 2, 1) := dc_28 (byA eNcX6_withLate (p := 8) (v := 28) (by decide +kernel))
theorem dX6_withLate_9 : decode cX6_withLate 9 = .ok (.iadd, 1) := dc_96 (byA eNcX6_withLate (p := 9) (v := 96) (by decide +kernel))
theorem dX6_withLate_10 : decode cX6_withLate 10 = .ok (.ireturn, 1) := dc_172 (byA eNcX6_withLate (p := 10) (v := 172) (by decide +kernel))
theorem dX6_withLate_11 : decode cX6_withLate 11 = .ok (.aload_n 0, 1) := dc_42 (byA eNcX6_withLate (p := 11) (v := 42) (by decide +kernel))
theorem dX6_withLate_12 : decode cX6_withLate 12 = .ok (.getfield 28, 3) := dc_180 (byA eNcX6_withLate (p := 12) (v := 180) (by decide +kernel)) (byA eNcX6_withLate (p := 13) (v := 0) (by decide +kernel)) (byA eNcX6_withLate (p := 14) (v := 28) (by decide +kernel)) rfl
theorem dX6_withLate_15 : decode cX6_withLate 15 = .ok (.iconst 1, 1) := dc_4 (byA eNcX6_withLate (p := 15) (v := 4) (by decide +kernel))
theorem dX6_withLate_16 : decode cX6_withLate 16 = .ok (.if_icmp .ne 9, 3) := dc_160 (byA eNcX6_withLate (p := 16) (v := 160) (by decide +kernel)) (byA eNcX6_withLate (p := 17) (v := 0) (by decide +kernel)) (byA eNcX6_withLate (p := 18) (v := 9) (by decide +kernel)) (by decide +kernel)
theorem dX6_withLate_19 : decode cX6_withLate 19 = .ok (.iload_n 1, 1) := dc_27 (byA eNcX6_withLate (p := 19) (v := 27) (by decide +kernel))
theorem dX6_withLate_20 : decode cX6_withLate 20 = .ok (.iload_n 2, 1) := dc_28 (byA eNcX6_withLate (p := 20) (v := 28) (by decide +kernel))
theorem dX6_withLate_21 : decode cX6_withLate 21 = .ok (.invokestatic 83, 3) := dc_184 (byA eNcX6_withLate (p := 21) (v := 184) (by decide +kernel)) (byA eNcX6_withLate (p := 22) (v := 0) (by decide +kernel)) (byA eNcX6_withLate (p := 23) (v := 83) (by decide +kernel)) rfl
theorem dX6_withLate_24 : decode cX6_withLate 24 = .ok (.ireturn, 1) := dc_172 (byA eNcX6_withLate (p := 24) (v := 172) (by decide +kernel))
theorem dX6_withLate_25 : decode cX6_withLate 25 = .ok (.iload_n 2, 1) := dc_28 (byA eNcX6_withLate (p := 25) (v := 28) (by decide +kernel))
theorem dX6_withLate_26 : decode cX6_withLate 26 = .ok (.ifCond .le 9, 3) := dc_158 (byA eNcX6_withLate (p := 26) (v := 158) (by decide +kernel)) (byA eNcX6_withLate (p := 27) (v := 0) (by decide +kernel)) (byA eNcX6_withLate (p := 28) (v := 9) (by decide +kernel)) (by decide +kernel)
theorem dX6_withLate_29 : decode cX6_withLate 29 = .ok (.iload_n 1, 1) := dc_27 (byA eNcX6_withLate (p := 29) (v := 27) (by decide +kernel))
theorem dX6_withLate_30 : decode cX6_withLate 30 = .ok (.iconst 1, 1) := dc_4 (byA eNcX6_withLate (p := 30) (v := 4) (by decide +kernel))
theorem dX6_withLate_31 : decode cX6_withLate 31 = .ok (.iadd, 1) := dc_96 (byA eNcX6_withLate (p := 31) (v := 96) (by decide +kernel))
theorem dX6_withLate_32 : decode cX6_withLate 32 = .ok (.goto 4, 3) := dc_167 (byA eNcX6_withLate (p := 32) (v := 167) (by decide +kernel)) (byA eNcX6_withLate (p := 33) (v := 0) (by decide +kernel)) (byA eNcX6_withLate (p := 34) (v := 4) (by decide +kernel)) (by decide +kernel)
theorem dX6_withLate_35 : decode cX6_withLate 35 = .ok (.iload_n 1, 1) := dc_27 (byA eNcX6_withLate (p := 35) (v := 27) (by decide +kernel))
theorem dX6_withLate_36 : decode cX6_withLate 36 = .ok (.ireturn, 1) := dc_172 (byA eNcX6_withLate (p := 36) (v := 172) (by decide +kernel))
def X6_withLate (l1 : Int) (l2 : Int) (μ : Mm) : Rs := if (μ 62 5) = 0 then (some (iA l1 l2, μ)) else (if (μ 62 5) = 1 then (some (mX l1 l2, μ)) else (if l2 ≤ 0 then (some (l1, μ)) else (some (iA l1 1, μ))))
set_option maxHeartbeats 4000000 in
set_option maxRecDepth 100000 in
theorem kX6_withLate (d : Nat) (hd : 1 ≤ d) {l1 : Int} {l2 : Int} {μ : Mm} {r : Int} {μ' : Mm} (h : X6_withLate l1 l2 μ = some (r, μ')) : CC d mX6_withLate [vR 62, vI l1, vI l2] μ r μ' := by
  unfold X6_withLate at h
  refine V_enter (by decide) (Nat.le_of_ble_eq_true rfl) ?_
  show VV d mX6_withLate 0 [some (vR 62), some (vI l1), some (vI l2)] [] μ r μ'
  refine V_aload_n (q := 1) dX6_withLate_0 rfl rfl rfl ?_
  refine V_getI (q := 4) fl_X6_28 rfl rfl rfl dX6_withLate_1 rfl ?_
  refine V_ifne (q := 11) (q2 := 7) dX6_withLate_4 (by decide) rfl (fun hc1 => ?_) (fun hc1 => ?_)
  · have h := ifF hc1 h
    refine V_aload_n (q := 12) dX6_withLate_11 rfl rfl rfl ?_
    refine V_getI (q := 15) fl_X6_28 rfl rfl rfl dX6_withLate_12 rfl ?_
    refine V_iconst (q := 16) dX6_withLate_15 rfl rfl ?_
    refine V_icmpne (q := 25) (q2 := 19) dX6_withLate_16 (by decide) rfl (fun hc2 => ?_) (fun hc2 => ?_)
    · have h := ifF hc2 h
      refine V_iload_n (q := 26) dX6_withLate_25 rfl rfl rfl ?_
      refine V_ifle (q := 35) (q2 := 29) dX6_withLate_26 (by decide) rfl (fun hc3 => ?_) (fun hc3 => ?_)
      · have h := ifT hc3 h
        refine V_iload_n (q := 36) dX6_withLate_35 rfl rfl rfl ?_
        exact V_iret rfl h dX6_withLate_36
      · have h := ifF hc3 h
        refine V_iload_n (q := 30) dX6_withLate_29 rfl rfl rfl ?_
        refine V_iconst (q := 31) dX6_withLate_30 rfl rfl ?_
        refine V_iadd (q := 32) dX6_withLate_31 rfl ?_
        refine V_goto (q := 36) dX6_withLate_32 (by decide) ?_
        exact V_iret rfl h dX6_withLate_36
    · have h := ifT hc2 h
      refine V_iload_n (q := 20) dX6_withLate_19 rfl rfl rfl ?_
      refine V_iload_n (q := 21) dX6_withLate_20 rfl rfl rfl ?_
      refine V_mmax (q := 24) mx_X6_83 (by omega) rfl dX6_withLate_21 rfl ?_
      exact V_iret rfl h dX6_withLate_24
  · have h := ifT hc1 h
    refine V_iload_n (q := 8) dX6_withLate_7 rfl rfl rfl ?_
    refine V_iload_n (q := 9) dX6_withLate_8 rfl rfl rfl ?_
    refine V_iadd (q := 10) dX6_withLate_9 rfl ?_
    exact V_iret rfl h dX6_withLate_10
abbrev mX6_isNew : Mth := (yX6_isNew, cX6_isNew, 6, some .boolean)
set_option maxRecDepth 100000 in
theorem mi_X6_isNew : Cond.instanceMethod yX6_isNew ∈ tG ∧ Cond.selects yX6_isNew.cls yX6_isNew yX6_isNew ∈ tG ∧ Cond.initialized yX6_isNew.cls ∈ tG ∧ Cond.code yX6_isNew cX6_isNew 6 (some .boolean) ∈ tG ∧ (yX6_isNew.cls ≠ "java/lang/invoke/MethodHandle" ∧ yX6_isNew.cls ≠ "java/lang/invoke/VarHandle" ∧ (parseMethodDescriptor yX6_isNew.desc).map (fun d => d.parameters.length) = some 4) ∧ 6 ≤ 60 := ⟨(tG_of (tb4 (List.mem_of_getElem? (i := 100) rfl)) (by decide +kernel)), (tG_of (List.mem_of_getElem? (i := 31) (by decide +kernel)) (by decide +kernel)), (tG_of (tb1 (List.mem_of_getElem? (i := 10) rfl)) (by decide +kernel)), (tG_of (tb4 (List.mem_of_getElem? (i := 101) rfl)) (by decide +kernel)), ⟨by decide, by decide, by decide +kernel⟩, by decide⟩
set_option maxRecDepth 100000 in
theorem mv_X6_79 : mV RX6 79 mX6_isNew 4 := ⟨(tG_of (tb4 (List.mem_of_getElem? (i := 98) rfl)) (by decide +kernel)), mi_X6_isNew⟩
theorem dX6_isNew_0 : decode cX6_isNew 0 = .ok (.iload_n 1, 1) := dc_27 (byA eNcX6_isNew (p := 0) (v := 27) (by decide +kernel))
theorem dX6_isNew_1 : decode cX6_isNew 1 = .ok (.bipush 8, 2) := dc_16 (byA eNcX6_isNew (p := 1) (v := 16) (by decide +kernel)) (byA eNcX6_isNew (p := 2) (v := 8) (by decide +kernel)) (by decide +kernel)
theorem dX6_isNew_3 : decode cX6_isNew 3 = .ok (.imul, 1) := dc_104 (byA eNcX6_isNew (p := 3) (v := 104) (by decide +kernel))
theorem dX6_isNew_4 : decode cX6_isNew 4 = .ok (.iload_n 2, 1) := dc_28 (byA eNcX6_isNew (p := 4) (v := 28) (by decide +kernel))
theorem dX6_isNew_5 : decode cX6_isNew 5 = .ok (.iadd, 1) := dc_96 (byA eNcX6_isNew (p := 5) (v := 96) (by decide +kernel))
theorem dX6_isNew_6 : decode cX6_isNew 6 = .ok (.istore 5, 2) := dc_54 (byA eNcX6_isNew (p := 6) (v := 54) (by decide +kernel)) (byA eNcX6_isNew (p := 7) (v := 5) (by decide +kernel))
theorem dX6_isNew_8 : decode cX6_isNew 8 = .ok (.iload 5, 2) := dc_21 (byA eNcX6_isNew (p := 8) (v := 21) (by decide +kernel)) (byA eNcX6_isNew (p := 9) (v := 5) (by decide +kernel))
theorem dX6_isNew_10 : decode cX6_isNew 10 = .ok (.ifCond .lt 13, 3) := dc_155 (byA eNcX6_isNew (p := 10) (v := 155) (by decide +kernel)) (byA eNcX6_isNew (p := 11) (v := 0) (by decide +kernel)) (byA eNcX6_isNew (p := 12) (v := 13) (by decide +kernel)) (by decide +kernel)
theorem dX6_isNew_13 : decode cX6_isNew 13 = .ok (.iload 5, 2) := dc_21 (byA eNcX6_isNew (p := 13) (v := 21) (by decide +kernel)) (byA eNcX6_isNew (p := 14) (v := 5) (by decide +kernel))
theorem dX6_isNew_15 : decode cX6_isNew 15 = .ok (.aload_n 0, 1) := dc_42 (byA eNcX6_isNew (p := 15) (v := 42) (by decide +kernel))
theorem dX6_isNew_16 : decode cX6_isNew 16 = .ok (.getfield 9, 3) := dc_180 (byA eNcX6_isNew (p := 16) (v := 180) (by decide +kernel)) (byA eNcX6_isNew (p := 17) (v := 0) (by decide +kernel)) (byA eNcX6_isNew (p := 18) (v := 9) (by decide +kernel)) rfl
theorem dX6_isNew_19 : decode cX6_isNew 19 = .ok (.arraylength, 1) := dc_190 (byA eNcX6_isNew (p := 19) (v := 190) (by decide +kernel))
theorem dX6_isNew_20 : decode cX6_isNew 20 = .ok (.if_icmp .lt 5, 3) := dc_161 (byA eNcX6_isNew (p := 20) (v := 161) (by decide +kernel)) (byA eNcX6_isNew (p := 21) (v := 0) (by decide +kernel)) (byA eNcX6_isNew (p := 22) (v := 5) (by decide +kernel)) (by decide +kernel)
theorem dX6_isNew_23 : decode cX6_isNew 23 = .ok (.iconst 1, 1) := dc_4 (byA eNcX6_isNew (p := 23) (v := 4) (by decide +kernel))
theorem dX6_isNew_24 : decode cX6_isNew 24 = .ok (.ireturn, 1) := dc_172 (byA eNcX6_isNew (p := 24) (v := 172) (by decide +kernel))
theorem dX6_isNew_25 : decode cX6_isNew 25 = .ok (.aload_n 0, 1) := dc_42 (byA eNcX6_isNew (p := 25) (v := 42) (by decide +kernel))
theorem dX6_isNew_26 : decode cX6_isNew 26 = .ok (.getfield 9, 3) := dc_180 (byA eNcX6_isNew (p := 26) (v := 180) (by decide +kernel)) (byA eNcX6_isNew (p := 27) (v := 0) (by decide +kernel)) (byA eNcX6_isNew (p := 28) (v := 9) (by decide +kernel)) rfl
theorem dX6_isNew_29 : decode cX6_isNew 29 = .ok (.iload 5, 2) := dc_21 (byA eNcX6_isNew (p := 29) (v := 21) (by decide +kernel)) (byA eNcX6_isNew (p := 30) (v := 5) (by decide +kernel))
theorem dX6_isNew_31 : decode cX6_isNew 31 = .ok (.iaload, 1) := dc_46 (byA eNcX6_isNew (p := 31) (v := 46) (by decide +kernel))
theorem dX6_isNew_32 : decode cX6_isNew 32 = .ok (.iload_n 3, 1) := dc_29 (byA eNcX6_isNew (p := 32) (v := 29) (by decide +kernel))
theorem dX6_isNew_33 : decode cX6_isNew 33 = .ok (.if_icmp .gt 17, 3) := dc_163 (byA eNcX6_isNew (p := 33) (v := 163) (by decide +kernel)) (byA eNcX6_isNew (p := 34) (v := 0) (by decide +kernel)) (byA eNcX6_isNew (p := 35) (v := 17) (by decide +kernel)) (by decide +kernel)
theorem dX6_isNew_36 : decode cX6_isNew 36 = .ok (.aload_n 0, 1) := dc_42 (byA eNcX6_isNew (p := 36) (v := 42) (by decide +kernel))
theorem dX6_isNew_37 : decode cX6_isNew 37 = .ok (.getfield 15, 3) := dc_180 (byA eNcX6_isNew (p := 37) (v := 180) (by decide +kernel)) (byA eNcX6_isNew (p := 38) (v := 0) (by decide +kernel)) (byA eNcX6_isNew (p := 39) (v := 15) (by decide +kernel)) rfl
theorem dX6_isNew_40 : decode cX6_isNew 40 = .ok (.iload 5, 2) := dc_21 (byA eNcX6_isNew (p := 40) (v := 21) (by decide +kernel)) (byA eNcX6_isNew (p := 41) (v := 5) (by decide +kernel))
theorem dX6_isNew_42 : decode cX6_isNew 42 = .ok (.iaload, 1) := dc_46 (byA eNcX6_isNew (p := 42) (v := 46) (by decide +kernel))
theorem dX6_isNew_43 : decode cX6_isNew 43 = .ok (.iload 4, 2) := dc_21 (byA eNcX6_isNew (p := 43) (v := 21) (by decide +kernel)) (byA eNcX6_isNew (p := 44) (v := 4) (by decide +kernel))
theorem dX6_isNew_45 : decode cX6_isNew 45 = .ok (.if_icmp .gt 5, 3) := dc_163 (byA eNcX6_isNew (p := 45) (v := 163) (by decide +kernel)) (byA eNcX6_isNew (p := 46) (v := 0) (by decide +kernel)) (byA eNcX6_isNew (p := 47) (v := 5) (by decide +kernel)) (by decide +kernel)
theorem dX6_isNew_48 : decode cX6_isNew 48 = .ok (.iconst 0, 1) := dc_3 (byA eNcX6_isNew (p := 48) (v := 3) (by decide +kernel))
theorem dX6_isNew_49 : decode cX6_isNew 49 = .ok (.ireturn, 1) := dc_172 (byA eNcX6_isNew (p := 49) (v := 172) (by decide +kernel))
theorem dX6_isNew_50 : decode cX6_isNew 50 = .ok (.aload_n 0, 1) := dc_42 (byA eNcX6_isNew (p := 50) (v := 42) (by decide +kernel))
theorem dX6_isNew_51 : decode cX6_isNew 51 = .ok (.getfield 9, 3) := dc_180 (byA eNcX6_isNew (p := 51) (v := 180) (by decide +kernel)) (byA eNcX6_isNew (p := 52) (v := 0) (by decide +kernel)) (byA eNcX6_isNew (p := 53) (v := 9) (by decide +kernel)) rfl
theorem dX6_isNew_54 : decode cX6_isNew 54 = .ok (.iload 5, 2) := dc_21 (byA eNcX6_isNew (p := 54) (v := 21) (by decide +kernel)) (byA eNcX6_isNew (p := 55) (v := 5) (by decide +kernel))
theorem dX6_isNew_56 : decode cX6_isNew 56 = .ok (.iload_n 3, 1) := dc_29 (byA eNcX6_isNew (p := 56) (v := 29) (by decide +kernel))
theorem dX6_isNew_57 : decode cX6_isNew 57 = .ok (.iastore, 1) := dc_79 (byA eNcX6_isNew (p := 57) (v := 79) (by decide +kernel))
theorem dX6_isNew_58 : decode cX6_isNew 58 = .ok (.aload_n 0, 1) := dc_42 (byA eNcX6_isNew (p := 58) (v := 42) (by decide +kernel))
theorem dX6_isNew_59 : decode cX6_isNew 59 = .ok (.getfield 15, 3) := dc_180 (byA eNcX6_isNew (p := 59) (v := 180) (by decide +kernel)) (byA eNcX6_isNew (p := 60) (v := 0) (by decide +kernel)) (byA eNcX6_isNew (p := 61) (v := 15) (by decide +kernel)) rfl
theorem dX6_isNew_62 : decode cX6_isNew 62 = .ok (.iload 5, 2) := dc_21 (byA eNcX6_isNew (p := 62) (v := 21) (by decide +kernel)) (byA eNcX6_isNew (p := 63) (v := 5) (by decide +kernel))
theorem dX6_isNew_64 : decode cX6_isNew 64 = .ok (.iload 4, 2) := dc_21 (byA eNcX6_isNew (p := 64) (v := 21) (by decide +kernel)) (byA eNcX6_isNew (p := 65) (v := 4) (by decide +kernel))
theorem dX6_isNew_66 : decode cX6_isNew 66 = .ok (.iastore, 1) := dc_79 (byA eNcX6_isNew (p := 66) (v := 79) (by decide +kernel))
theorem dX6_isNew_67 : decode cX6_isNew 67 = .ok (.iconst 1, 1) := dc_4 (byA eNcX6_isNew (p := 67) (v := 4) (by decide +kernel))
theorem dX6_isNew_68 : decode cX6_isNew 68 = .ok (.ireturn, 1) := dc_172 (byA eNcX6_isNew (p := 68) (v := 172) (by decide +kernel))
def X6_isNew_J50 (l3 : Int) (l4 : Int) (l5 : Int) (μ : Mm) : Rs := stA μ 63 l5 l3 fun μ7 => stA μ7 64 l5 l4 fun μ9 => some (1, μ9)
def X6_isNew (l1 : Int) (l2 : Int) (l3 : Int) (l4 : Int) (μ : Mm) : Rs := lt_ (iA (iM l1 8) l2) fun v1 => if v1 < 0 then (some (1, μ)) else (if v1 < ((aN 63 : Nat) : Int) then (ldA μ 63 v1 fun v4 => if l3 < v4 then (X6_isNew_J50 l3 l4 v1 μ) else (ldA μ 64 v1 fun v11 => if l4 < v11 then (X6_isNew_J50 l3 l4 v1 μ) else (some (0, μ)))) else (some (1, μ)))
set_option maxHeartbeats 4000000 in
set_option maxRecDepth 100000 in
theorem kX6_isNew_J50 (d : Nat) (hd : 1 ≤ d) {l3 : Int} {l4 : Int} {l5 : Int} {μ : Mm} {r : Int} {μ' : Mm} (h : X6_isNew_J50 l3 l4 l5 μ = some (r, μ')) : VV d mX6_isNew 50 [some (vR 62), none, none, some (vI l3), some (vI l4), some (vI l5)] [] μ r μ' := by
  unfold X6_isNew_J50 at h
  refine V_aload_n (q := 51) dX6_isNew_50 rfl rfl rfl ?_
  refine V_getO (q := 54) (t := 63) fl_X6_9 rfl rfl rfl rfl dX6_isNew_51 rfl ?_
  refine V_iload (q := 56) dX6_isNew_54 rfl rfl ?_
  refine V_iload_n (q := 57) dX6_isNew_56 rfl rfl rfl ?_
  obtain ⟨hi8, h⟩ := stA_i h
  refine V_iastore (q := 58) rfl hi8 dX6_isNew_57 rfl ?_
  refine V_aload_n (q := 59) dX6_isNew_58 rfl rfl rfl ?_
  refine V_getO (q := 62) (t := 64) fl_X6_15 rfl rfl rfl rfl dX6_isNew_59 rfl ?_
  refine V_iload (q := 64) dX6_isNew_62 rfl rfl ?_
  refine V_iload (q := 66) dX6_isNew_64 rfl rfl ?_
  obtain ⟨hi10, h⟩ := stA_i h
  refine V_iastore (q := 67) rfl hi10 dX6_isNew_66 rfl ?_
  refine V_iconst (q := 68) dX6_isNew_67 rfl rfl ?_
  exact V_zret rfl (Or.inr rfl) h dX6_isNew_68
set_option maxHeartbeats 4000000 in
set_option maxRecDepth 100000 in
theorem kX6_isNew (d : Nat) (hd : 1 ≤ d) {l1 : Int} {l2 : Int} {l3 : Int} {l4 : Int} {μ : Mm} {r : Int} {μ' : Mm} (h : X6_isNew l1 l2 l3 l4 μ = some (r, μ')) : CC d mX6_isNew [vR 62, vI l1, vI l2, vI l3, vI l4] μ r μ' := by
  unfold X6_isNew at h
  refine V_enter (by decide) (Nat.le_of_ble_eq_true rfl) ?_
  show VV d mX6_isNew 0 [some (vR 62), some (vI l1), some (vI l2), some (vI l3), some (vI l4), none] [] μ r μ'
  refine V_iload_n (q := 1) dX6_isNew_0 rfl rfl rfl ?_
  refine V_bipush (q := 3) dX6_isNew_1 rfl rfl rfl ?_
  refine V_imul (q := 4) dX6_isNew_3 rfl ?_
  refine V_iload_n (q := 5) dX6_isNew_4 rfl rfl rfl ?_
  refine V_iadd (q := 6) dX6_isNew_5 rfl ?_
  have h := lt_i h
  refine V_istore (q := 8) dX6_isNew_6 (Nat.le_of_ble_eq_true rfl) trivial rfl ?_
  refine V_iload (q := 10) dX6_isNew_8 rfl rfl ?_
  refine V_iflt (q := 23) (q2 := 13) dX6_isNew_10 (by decide) rfl (fun hc2 => ?_) (fun hc2 => ?_)
  · have h := ifT hc2 h
    refine V_iconst (q := 24) dX6_isNew_23 rfl rfl ?_
    exact V_zret rfl (Or.inr rfl) h dX6_isNew_24
  · have h := ifF hc2 h
    refine V_iload (q := 15) dX6_isNew_13 rfl rfl ?_
    refine V_aload_n (q := 16) dX6_isNew_15 rfl rfl rfl ?_
    refine V_getO (q := 19) (t := 63) fl_X6_9 rfl rfl rfl rfl dX6_isNew_16 rfl ?_
    refine V_alen (q := 20) rfl dX6_isNew_19 rfl ?_
    refine V_icmplt (q := 25) (q2 := 23) dX6_isNew_20 (by decide) rfl (fun hc3 => ?_) (fun hc3 => ?_)
    · have h := ifT hc3 h
      refine V_aload_n (q := 26) dX6_isNew_25 rfl rfl rfl ?_
      refine V_getO (q := 29) (t := 63) fl_X6_9 rfl rfl rfl rfl dX6_isNew_26 rfl ?_
      refine V_iload (q := 31) dX6_isNew_29 rfl rfl ?_
      obtain ⟨hi5, h⟩ := ldA_i h
      refine V_iaload (q := 32) rfl hi5 dX6_isNew_31 rfl ?_
      refine V_iload_n (q := 33) dX6_isNew_32 rfl rfl rfl ?_
      refine V_icmpgt (q := 50) (q2 := 36) dX6_isNew_33 (by decide) rfl (fun hc6 => ?_) (fun hc6 => ?_)
      · have h := ifT hc6 h
        exact V_weak (kX6_isNew_J50 d hd h) (sb_s rfl (sb_n (sb_n (sb_s rfl (sb_s rfl (sb_s rfl sb_0))))))
      · have h := ifF hc6 h
        refine V_aload_n (q := 37) dX6_isNew_36 rfl rfl rfl ?_
        refine V_getO (q := 40) (t := 64) fl_X6_15 rfl rfl rfl rfl dX6_isNew_37 rfl ?_
        refine V_iload (q := 42) dX6_isNew_40 rfl rfl ?_
        obtain ⟨hi12, h⟩ := ldA_i h
        refine V_iaload (q := 43) rfl hi12 dX6_isNew_42 rfl ?_
        refine V_iload (q := 45) dX6_isNew_43 rfl rfl ?_
        refine V_icmpgt (q := 50) (q2 := 48) dX6_isNew_45 (by decide) rfl (fun hc13 => ?_) (fun hc13 => ?_)
        · have h := ifT hc13 h
          exact V_weak (kX6_isNew_J50 d hd h) (sb_s rfl (sb_n (sb_n (sb_s rfl (sb_s rfl (sb_s rfl sb_0))))))
        · have h := ifF hc13 h
          refine V_iconst (q := 49) dX6_isNew_48 rfl rfl ?_
          exact V_zret rfl (Or.inl rfl) h dX6_isNew_49
    · have h := ifF hc3 h
      refine V_iconst (q := 24) dX6_isNew_23 rfl rfl ?_
      exact V_zret rfl (Or.inr rfl) h dX6_isNew_24
abbrev mX6_follow : Mth := (yX6_follow, cX6_follow, 9, none)
set_option maxRecDepth 100000 in
theorem mi_X6_follow : Cond.instanceMethod yX6_follow ∈ tG ∧ Cond.selects yX6_follow.cls yX6_follow yX6_follow ∈ tG ∧ Cond.initialized yX6_follow.cls ∈ tG ∧ Cond.code yX6_follow cX6_follow 9 (none) ∈ tG ∧ (yX6_follow.cls ≠ "java/lang/invoke/MethodHandle" ∧ yX6_follow.cls ≠ "java/lang/invoke/VarHandle" ∧ (parseMethodDescriptor yX6_follow.desc).map (fun d => d.parameters.length) = some 6) ∧ 9 ≤ 60 := ⟨(tG_of (tb4 (List.mem_of_getElem? (i := 90) rfl)) (by decide +kernel)), (tG_of (List.mem_of_getElem? (i := 29) (by decide +kernel)) (by decide +kernel)), (tG_of (tb1 (List.mem_of_getElem? (i := 10) rfl)) (by decide +kernel)), (tG_of (tb4 (List.mem_of_getElem? (i := 91) rfl)) (by decide +kernel)), ⟨by decide, by decide, by decide +kernel⟩, by decide⟩
set_option maxRecDepth 100000 in
theorem mv_X6_66 : mV RX6 66 mX6_follow 6 := ⟨(tG_of (tb4 (List.mem_of_getElem? (i := 88) rfl)) (by decide +kernel)), mi_X6_follow⟩
abbrev mX6_visit : Mth := (yX6_visit, cX6_visit, 11, none)
set_option maxRecDepth 100000 in
theorem mi_X6_visit : Cond.instanceMethod yX6_visit ∈ tG ∧ Cond.selects yX6_visit.cls yX6_visit yX6_visit ∈ tG ∧ Cond.initialized yX6_visit.cls ∈ tG ∧ Cond.code yX6_visit cX6_visit 11 (none) ∈ tG ∧ (yX6_visit.cls ≠ "java/lang/invoke/MethodHandle" ∧ yX6_visit.cls ≠ "java/lang/invoke/VarHandle" ∧ (parseMethodDescriptor yX6_visit.desc).map (fun d => d.parameters.length) = some 6) ∧ 11 ≤ 60 := ⟨(tG_of (tb4 (List.mem_of_getElem? (i := 85) rfl)) (by decide +kernel)), (tG_of (List.mem_of_getElem? (i := 28) (by decide +kernel)) (by decide +kernel)), (tG_of (tb1 (List.mem_of_getElem? (i := 10) rfl)) (by decide +kernel)), (tG_of (tb4 (List.mem_of_getElem? (i := 86) rfl)) (by decide +kernel)), ⟨by decide, by decide, by decide +kernel⟩, by decide⟩
set_option maxRecDepth 100000 in
theorem mv_X6_51 : mV RX6 51 mX6_visit 6 := ⟨(tG_of (tb4 (List.mem_of_getElem? (i := 83) rfl)) (by decide +kernel)), mi_X6_visit⟩
theorem dX6_follow_0 : decode cX6_follow 0 = .ok (.aload_n 0, 1) := dc_42 (byA eNcX6_follow (p := 0) (v := 42) (by decide +kernel))
theorem dX6_follow_1 : decode cX6_follow 1 = .ok (.getfield 24, 3) := dc_180 (byA eNcX6_follow (p := 1) (v := 180) (by decide +kernel)) (byA eNcX6_follow (p := 2) (v := 0) (by decide +kernel)) (byA eNcX6_follow (p := 3) (v := 24) (by decide +kernel)) rfl
theorem dX6_follow_4 : decode cX6_follow 4 = .ok (.iload 4, 2) := dc_21 (byA eNcX6_follow (p := 4) (v := 21) (by decide +kernel)) (byA eNcX6_follow (p := 5) (v := 4) (by decide +kernel))
theorem dX6_follow_6 : decode cX6_follow 6 = .ok (.iload_n 3, 1) := dc_29 (byA eNcX6_follow (p := 6) (v := 29) (by decide +kernel))
theorem dX6_follow_7 : decode cX6_follow 7 = .ok (.invokevirtual 69, 3) := dc_182 (byA eNcX6_follow (p := 7) (v := 182) (by decide +kernel)) (byA eNcX6_follow (p := 8) (v := 0) (by decide +kernel)) (byA eNcX6_follow (p := 9) (v := 69) (by decide +kernel)) rfl
theorem dX6_follow_10 : decode cX6_follow 10 = .ok (.istore 7, 2) := dc_54 (byA eNcX6_follow (p := 10) (v := 54) (by decide +kernel)) (byA eNcX6_follow (p := 11) (v := 7) (by decide +kernel))
theorem dX6_follow_12 : decode cX6_follow 12 = .ok (.aload_n 0, 1) := dc_42 (byA eNcX6_follow (p := 12) (v := 42) (by decide +kernel))
theorem dX6_follow_13 : decode cX6_follow 13 = .ok (.iload 5, 2) := dc_21 (byA eNcX6_follow (p := 13) (v := 21) (by decide +kernel)) (byA eNcX6_follow (p := 14) (v := 5) (by decide +kernel))
theorem dX6_follow_15 : decode cX6_follow 15 = .ok (.iload 7, 2) := dc_21 (byA eNcX6_follow (p := 15) (v := 21) (by decide +kernel)) (byA eNcX6_follow (p := 16) (v := 7) (by decide +kernel))
theorem dX6_follow_17 : decode cX6_follow 17 = .ok (.aload_n 0, 1) := dc_42 (byA eNcX6_follow (p := 17) (v := 42) (by decide +kernel))
theorem dX6_follow_18 : decode cX6_follow 18 = .ok (.getfield 24, 3) := dc_180 (byA eNcX6_follow (p := 18) (v := 180) (by decide +kernel)) (byA eNcX6_follow (p := 19) (v := 0) (by decide +kernel)) (byA eNcX6_follow (p := 20) (v := 24) (by decide +kernel)) rfl
theorem dX6_follow_21 : decode cX6_follow 21 = .ok (.getfield 73, 3) := dc_180 (byA eNcX6_follow (p := 21) (v := 180) (by decide +kernel)) (byA eNcX6_follow (p := 22) (v := 0) (by decide +kernel)) (byA eNcX6_follow (p := 23) (v := 73) (by decide +kernel)) rfl
theorem dX6_follow_24 : decode cX6_follow 24 = .ok (.iload_n 3, 1) := dc_29 (byA eNcX6_follow (p := 24) (v := 29) (by decide +kernel))
theorem dX6_follow_25 : decode cX6_follow 25 = .ok (.iaload, 1) := dc_46 (byA eNcX6_follow (p := 25) (v := 46) (by decide +kernel))
theorem dX6_follow_26 : decode cX6_follow 26 = .ok (.isub, 1) := dc_100 (byA eNcX6_follow (p := 26) (v := 100) (by decide +kernel))
theorem dX6_follow_27 : decode cX6_follow 27 = .ok (.invokevirtual 76, 3) := dc_182 (byA eNcX6_follow (p := 27) (v := 182) (by decide +kernel)) (byA eNcX6_follow (p := 28) (v := 0) (by decide +kernel)) (byA eNcX6_follow (p := 29) (v := 76) (by decide +kernel)) rfl
theorem dX6_follow_30 : decode cX6_follow 30 = .ok (.istore 8, 2) := dc_54 (byA eNcX6_follow (p := 30) (v := 54) (by decide +kernel)) (byA eNcX6_follow (p := 31) (v := 8) (by decide +kernel))
theorem dX6_follow_32 : decode cX6_follow 32 = .ok (.iload 8, 2) := dc_21 (byA eNcX6_follow (p := 32) (v := 21) (by decide +kernel)) (byA eNcX6_follow (p := 33) (v := 8) (by decide +kernel))
theorem dX6_follow_34 : decode cX6_follow 34 = .ok (.aload_n 0, 1) := dc_42 (byA eNcX6_follow (p := 34) (v := 42) (by decide +kernel))
theorem dX6_follow_35 : decode cX6_follow 35 = .ok (.getfield 36, 3) := dc_180 (byA eNcX6_follow (p := 35) (v := 180) (by decide +kernel)) (byA eNcX6_follow (p := 36) (v := 0) (by decide +kernel)) (byA eNcX6_follow (p := 37) (v := 36) (by decide +kernel)) rfl
theorem dX6_follow_38 : decode cX6_follow 38 = .ok (.if_icmp .ge 31, 3) := dc_162 (byA eNcX6_follow (p := 38) (v := 162) (by decide +kernel)) (byA eNcX6_follow (p := 39) (v := 0) (by decide +kernel)) (byA eNcX6_follow (p := 40) (v := 31) (by decide +kernel)) (by decide +kernel)
theorem dX6_follow_41 : decode cX6_follow 41 = .ok (.aload_n 0, 1) := dc_42 (byA eNcX6_follow (p := 41) (v := 42) (by decide +kernel))
theorem dX6_follow_42 : decode cX6_follow 42 = .ok (.iload_n 2, 1) := dc_28 (byA eNcX6_follow (p := 42) (v := 28) (by decide +kernel))
theorem dX6_follow_43 : decode cX6_follow 43 = .ok (.iload_n 3, 1) := dc_29 (byA eNcX6_follow (p := 43) (v := 29) (by decide +kernel))
theorem dX6_follow_44 : decode cX6_follow 44 = .ok (.iload 7, 2) := dc_21 (byA eNcX6_follow (p := 44) (v := 21) (by decide +kernel)) (byA eNcX6_follow (p := 45) (v := 7) (by decide +kernel))
theorem dX6_follow_46 : decode cX6_follow 46 = .ok (.iload 8, 2) := dc_21 (byA eNcX6_follow (p := 46) (v := 21) (by decide +kernel)) (byA eNcX6_follow (p := 47) (v := 8) (by decide +kernel))
theorem dX6_follow_48 : decode cX6_follow 48 = .ok (.invokevirtual 79, 3) := dc_182 (byA eNcX6_follow (p := 48) (v := 182) (by decide +kernel)) (byA eNcX6_follow (p := 49) (v := 0) (by decide +kernel)) (byA eNcX6_follow (p := 50) (v := 79) (by decide +kernel)) rfl
theorem dX6_follow_51 : decode cX6_follow 51 = .ok (.ifCond .eq 18, 3) := dc_153 (byA eNcX6_follow (p := 51) (v := 153) (by decide +kernel)) (byA eNcX6_follow (p := 52) (v := 0) (by decide +kernel)) (byA eNcX6_follow (p := 53) (v := 18) (by decide +kernel)) (by decide +kernel)
theorem dX6_follow_54 : decode cX6_follow 54 = .ok (.aload_n 0, 1) := dc_42 (byA eNcX6_follow (p := 54) (v := 42) (by decide +kernel))
theorem dX6_follow_55 : decode cX6_follow 55 = .ok (.iload_n 1, 1) := dc_27 (byA eNcX6_follow (p := 55) (v := 27) (by decide +kernel))
theorem dX6_follow_56 : decode cX6_follow 56 = .ok (.iconst 1, 1) := dc_4 (byA eNcX6_follow (p := 56) (v := 4) (by decide +kernel))
theorem dX6_follow_57 : decode cX6_follow 57 = .ok (.iadd, 1) := dc_96 (byA eNcX6_follow (p := 57) (v := 96) (by decide +kernel))
theorem dX6_follow_58 : decode cX6_follow 58 = .ok (.iload_n 2, 1) := dc_28 (byA eNcX6_follow (p := 58) (v := 28) (by decide +kernel))
theorem dX6_follow_59 : decode cX6_follow 59 = .ok (.iload_n 3, 1) := dc_29 (byA eNcX6_follow (p := 59) (v := 29) (by decide +kernel))
theorem dX6_follow_60 : decode cX6_follow 60 = .ok (.iload 7, 2) := dc_21 (byA eNcX6_follow (p := 60) (v := 21) (by decide +kernel)) (byA eNcX6_follow (p := 61) (v := 7) (by decide +kernel))
theorem dX6_follow_62 : decode cX6_follow 62 = .ok (.iload 8, 2) := dc_21 (byA eNcX6_follow (p := 62) (v := 21) (by decide +kernel)) (byA eNcX6_follow (p := 63) (v := 8) (by decide +kernel))
theorem dX6_follow_64 : decode cX6_follow 64 = .ok (.iload 6, 2) := dc_21 (byA eNcX6_follow (p := 64) (v := 21) (by decide +kernel)) (byA eNcX6_follow (p := 65) (v := 6) (by decide +kernel))
theorem dX6_follow_66 : decode cX6_follow 66 = .ok (.invokevirtual 51, 3) := dc_182 (byA eNcX6_follow (p := 66) (v := 182) (by decide +kernel)) (byA eNcX6_follow (p := 67) (v := 0) (by decide +kernel)) (byA eNcX6_follow (p := 68) (v := 51) (by decide +kernel)) rfl
theorem dX6_follow_69 : decode cX6_follow 69 = .ok (.return_, 1) := dc_177 (byA eNcX6_follow (p := 69) (v := 177) (by decide +kernel))
def X6_follow_o (rec : Int → Int → Int → Int → Int → Int → Mm → Rs) (l1 : Int) (l2 : Int) (l3 : Int) (l4 : Int) (l5 : Int) (l6 : Int) (μ : Mm) : Rs := mR μ 62 4 (11, 7) fun v1 => bd (X1_dones v1 l4 l3 μ) fun v3 μ4 => mR μ4 62 4 (11, 7) fun v6 => ldA μ4 (v6 + 2) l3 fun v8 => bd (X6_withLate l5 (iS v3 v8) μ4) fun v10 μ11 => if (μ11 62 7) ≤ v10 then (some (0, μ11)) else (bd (X6_isNew l2 l3 v3 v10 μ11) fun v14 μ15 => if v14 = 0 then (some (0, μ15)) else (bd (rec (iA l1 1) l2 l3 v3 v10 l6 μ15) fun v18 μ19 => some (0, μ19)))
set_option maxHeartbeats 4000000 in
set_option maxRecDepth 100000 in
theorem kX6_follow (d : Nat) {d0 : Nat} (hd : d0 + 2 ≤ d) {rec : Int → Int → Int → Int → Int → Int → Mm → Rs} (hrec : ∀ {q1 : Int} {q2 : Int} {q3 : Int} {q4 : Int} {q5 : Int} {q6 : Int} {μ1 : Mm} {r1 : Int} {μ2 : Mm}, rec q1 q2 q3 q4 q5 q6 μ1 = some (r1, μ2) → CC d0 mX6_visit [vR 62, vI q1, vI q2, vI q3, vI q4, vI q5, vI q6] μ1 r1 μ2) (hb : 5 ≤ d) {l1 : Int} {l2 : Int} {l3 : Int} {l4 : Int} {l5 : Int} {l6 : Int} {μ : Mm} {r : Int} {μ' : Mm} (h : X6_follow_o rec l1 l2 l3 l4 l5 l6 μ = some (r, μ')) : CC d mX6_follow [vR 62, vI l1, vI l2, vI l3, vI l4, vI l5, vI l6] μ r μ' := by
  unfold X6_follow_o at h
  refine V_enter (by decide) (Nat.le_of_ble_eq_true rfl) ?_
  show VV d mX6_follow 0 [some (vR 62), some (vI l1), some (vI l2), some (vI l3), some (vI l4), some (vI l5), some (vI l6), none, none] [] μ r μ'
  refine V_aload_n (q := 1) dX6_follow_0 rfl rfl rfl ?_
  obtain ⟨hm2, h⟩ := mR_i h
  refine V_getM (q := 4) fl_X6_24 rfl rfl rfl dX6_follow_1 rfl ?_
  refine V_iload (q := 6) dX6_follow_4 rfl rfl ?_
  refine V_iload_n (q := 7) dX6_follow_6 rfl rfl rfl ?_
  obtain ⟨v3, μ4, hc5, h⟩ := bd_i h
  refine V_cV1 (q := 10) (v := vI v3) (kX1_dones (d - 1) (by omega) hm2 hc5) (by omega) mv_X6_69 hm2 rfl rfl rfl rfl rfl dX6_follow_7 rfl ?_
  refine V_istore (q := 12) dX6_follow_10 (Nat.le_of_ble_eq_true rfl) trivial rfl ?_
  refine V_aload_n (q := 13) dX6_follow_12 rfl rfl rfl ?_
  refine V_iload (q := 15) dX6_follow_13 rfl rfl ?_
  refine V_iload (q := 17) dX6_follow_15 rfl rfl ?_
  refine V_aload_n (q := 18) dX6_follow_17 rfl rfl rfl ?_
  obtain ⟨hm7, h⟩ := mR_i h
  refine V_getM (q := 21) fl_X6_24 rfl rfl rfl dX6_follow_18 rfl ?_
  refine V_getO (q := 24) (t := _) fl_X6_73 hm7 rfl rfl rfl dX6_follow_21 rfl ?_
  refine V_iload_n (q := 25) dX6_follow_24 rfl rfl rfl ?_
  obtain ⟨hi9, h⟩ := ldA_i h
  refine V_iaload (q := 26) (kdo_1_2 hm7) hi9 dX6_follow_25 rfl ?_
  refine V_isub (q := 27) dX6_follow_26 rfl ?_
  obtain ⟨v10, μ11, hc12, h⟩ := bd_i h
  refine V_cV1 (q := 30) (v := vI v10) (kX6_withLate (d - 1) (by omega) hc12) (by omega) mv_X6_76 rfl rfl rfl rfl rfl rfl dX6_follow_27 rfl ?_
  refine V_istore (q := 32) dX6_follow_30 (Nat.le_of_ble_eq_true rfl) trivial rfl ?_
  refine V_iload (q := 34) dX6_follow_32 rfl rfl ?_
  refine V_aload_n (q := 35) dX6_follow_34 rfl rfl rfl ?_
  refine V_getI (q := 38) fl_X6_36 rfl rfl rfl dX6_follow_35 rfl ?_
  refine V_icmpge (q := 69) (q2 := 41) dX6_follow_38 (by decide) rfl (fun hc13 => ?_) (fun hc13 => ?_)
  · have h := ifT hc13 h
    exact V_vret rfl h dX6_follow_69
  · have h := ifF hc13 h
    refine V_aload_n (q := 42) dX6_follow_41 rfl rfl rfl ?_
    refine V_iload_n (q := 43) dX6_follow_42 rfl rfl rfl ?_
    refine V_iload_n (q := 44) dX6_follow_43 rfl rfl rfl ?_
    refine V_iload (q := 46) dX6_follow_44 rfl rfl ?_
    refine V_iload (q := 48) dX6_follow_46 rfl rfl ?_
    obtain ⟨v14, μ15, hc16, h⟩ := bd_i h
    refine V_cV1 (q := 51) (v := vI v14) (kX6_isNew (d - 1) (by omega) hc16) (by omega) mv_X6_79 rfl rfl rfl rfl rfl rfl dX6_follow_48 rfl ?_
    refine V_ifeq (q := 69) (q2 := 54) dX6_follow_51 (by decide) rfl (fun hc17 => ?_) (fun hc17 => ?_)
    · have h := ifT hc17 h
      exact V_vret rfl h dX6_follow_69
    · have h := ifF hc17 h
      refine V_aload_n (q := 55) dX6_follow_54 rfl rfl rfl ?_
      refine V_iload_n (q := 56) dX6_follow_55 rfl rfl rfl ?_
      refine V_iconst (q := 57) dX6_follow_56 rfl rfl ?_
      refine V_iadd (q := 58) dX6_follow_57 rfl ?_
      refine V_iload_n (q := 59) dX6_follow_58 rfl rfl rfl ?_
      refine V_iload_n (q := 60) dX6_follow_59 rfl rfl rfl ?_
      refine V_iload (q := 62) dX6_follow_60 rfl rfl ?_
      refine V_iload (q := 64) dX6_follow_62 rfl rfl ?_
      refine V_iload (q := 66) dX6_follow_64 rfl rfl ?_
      obtain ⟨v18, μ19, hc20, h⟩ := bd_i h
      refine V_cV0 (q := 69) (hrec hc20) (by omega) mv_X6_51 rfl rfl rfl rfl rfl rfl dX6_follow_66 rfl ?_
      exact V_vret rfl h dX6_follow_69
theorem dX6_visit_0 : decode cX6_visit 0 = .ok (.iload_n 1, 1) := dc_27 (byA eNcX6_visit (p := 0) (v := 27) (by decide +kernel))
theorem dX6_visit_1 : decode cX6_visit 1 = .ok (.aload_n 0, 1) := dc_42 (byA eNcX6_visit (p := 1) (v := 42) (by decide +kernel))
theorem dX6_visit_2 : decode cX6_visit 2 = .ok (.getfield 24, 3) := dc_180 (byA eNcX6_visit (p := 2) (v := 180) (by decide +kernel)) (byA eNcX6_visit (p := 3) (v := 0) (by decide +kernel)) (byA eNcX6_visit (p := 4) (v := 24) (by decide +kernel)) rfl
theorem dX6_visit_5 : decode cX6_visit 5 = .ok (.getfield 59, 3) := dc_180 (byA eNcX6_visit (p := 5) (v := 180) (by decide +kernel)) (byA eNcX6_visit (p := 6) (v := 0) (by decide +kernel)) (byA eNcX6_visit (p := 7) (v := 59) (by decide +kernel)) rfl
theorem dX6_visit_8 : decode cX6_visit 8 = .ok (.if_icmp .lt 16, 3) := dc_161 (byA eNcX6_visit (p := 8) (v := 161) (by decide +kernel)) (byA eNcX6_visit (p := 9) (v := 0) (by decide +kernel)) (byA eNcX6_visit (p := 10) (v := 16) (by decide +kernel)) (by decide +kernel)
theorem dX6_visit_11 : decode cX6_visit 11 = .ok (.aload_n 0, 1) := dc_42 (byA eNcX6_visit (p := 11) (v := 42) (by decide +kernel))
theorem dX6_visit_12 : decode cX6_visit 12 = .ok (.iload 5, 2) := dc_21 (byA eNcX6_visit (p := 12) (v := 21) (by decide +kernel)) (byA eNcX6_visit (p := 13) (v := 5) (by decide +kernel))
theorem dX6_visit_14 : decode cX6_visit 14 = .ok (.putfield 36, 3) := dc_181 (byA eNcX6_visit (p := 14) (v := 181) (by decide +kernel)) (byA eNcX6_visit (p := 15) (v := 0) (by decide +kernel)) (byA eNcX6_visit (p := 16) (v := 36) (by decide +kernel)) rfl
theorem dX6_visit_17 : decode cX6_visit 17 = .ok (.aload_n 0, 1) := dc_42 (byA eNcX6_visit (p := 17) (v := 42) (by decide +kernel))
theorem dX6_visit_18 : decode cX6_visit 18 = .ok (.iload 6, 2) := dc_21 (byA eNcX6_visit (p := 18) (v := 21) (by decide +kernel)) (byA eNcX6_visit (p := 19) (v := 6) (by decide +kernel))
theorem dX6_visit_20 : decode cX6_visit 20 = .ok (.putfield 39, 3) := dc_181 (byA eNcX6_visit (p := 20) (v := 181) (by decide +kernel)) (byA eNcX6_visit (p := 21) (v := 0) (by decide +kernel)) (byA eNcX6_visit (p := 22) (v := 39) (by decide +kernel)) rfl
theorem dX6_visit_23 : decode cX6_visit 23 = .ok (.return_, 1) := dc_177 (byA eNcX6_visit (p := 23) (v := 177) (by decide +kernel))
theorem dX6_visit_24 : decode cX6_visit 24 = .ok (.iload_n 1, 1) := dc_27 (byA eNcX6_visit (p := 24) (v := 27) (by decide +kernel))
theorem dX6_visit_25 : decode cX6_visit 25 = .ok (.aload_n 0, 1) := dc_42 (byA eNcX6_visit (p := 25) (v := 42) (by decide +kernel))
theorem dX6_visit_26 : decode cX6_visit 26 = .ok (.getfield 32, 3) := dc_180 (byA eNcX6_visit (p := 26) (v := 180) (by decide +kernel)) (byA eNcX6_visit (p := 27) (v := 0) (by decide +kernel)) (byA eNcX6_visit (p := 28) (v := 32) (by decide +kernel)) rfl
theorem dX6_visit_29 : decode cX6_visit 29 = .ok (.if_icmp .ge 7, 3) := dc_162 (byA eNcX6_visit (p := 29) (v := 162) (by decide +kernel)) (byA eNcX6_visit (p := 30) (v := 0) (by decide +kernel)) (byA eNcX6_visit (p := 31) (v := 7) (by decide +kernel)) (by decide +kernel)
theorem dX6_visit_32 : decode cX6_visit 32 = .ok (.iload_n 1, 1) := dc_27 (byA eNcX6_visit (p := 32) (v := 27) (by decide +kernel))
theorem dX6_visit_33 : decode cX6_visit 33 = .ok (.goto 4, 3) := dc_167 (byA eNcX6_visit (p := 33) (v := 167) (by decide +kernel)) (byA eNcX6_visit (p := 34) (v := 0) (by decide +kernel)) (byA eNcX6_visit (p := 35) (v := 4) (by decide +kernel)) (by decide +kernel)
theorem dX6_visit_36 : decode cX6_visit 36 = .ok (.iconst 0, 1) := dc_3 (byA eNcX6_visit (p := 36) (v := 3) (by decide +kernel))
theorem dX6_visit_37 : decode cX6_visit 37 = .ok (.istore 7, 2) := dc_54 (byA eNcX6_visit (p := 37) (v := 54) (by decide +kernel)) (byA eNcX6_visit (p := 38) (v := 7) (by decide +kernel))
theorem dX6_visit_39 : decode cX6_visit 39 = .ok (.iload_n 1, 1) := dc_27 (byA eNcX6_visit (p := 39) (v := 27) (by decide +kernel))
theorem dX6_visit_40 : decode cX6_visit 40 = .ok (.aload_n 0, 1) := dc_42 (byA eNcX6_visit (p := 40) (v := 42) (by decide +kernel))
theorem dX6_visit_41 : decode cX6_visit 41 = .ok (.getfield 32, 3) := dc_180 (byA eNcX6_visit (p := 41) (v := 180) (by decide +kernel)) (byA eNcX6_visit (p := 42) (v := 0) (by decide +kernel)) (byA eNcX6_visit (p := 43) (v := 32) (by decide +kernel)) rfl
theorem dX6_visit_44 : decode cX6_visit 44 = .ok (.if_icmp .ge 9, 3) := dc_162 (byA eNcX6_visit (p := 44) (v := 162) (by decide +kernel)) (byA eNcX6_visit (p := 45) (v := 0) (by decide +kernel)) (byA eNcX6_visit (p := 46) (v := 9) (by decide +kernel)) (by decide +kernel)
theorem dX6_visit_47 : decode cX6_visit 47 = .ok (.iload_n 1, 1) := dc_27 (byA eNcX6_visit (p := 47) (v := 27) (by decide +kernel))
theorem dX6_visit_48 : decode cX6_visit 48 = .ok (.iconst 1, 1) := dc_4 (byA eNcX6_visit (p := 48) (v := 4) (by decide +kernel))
theorem dX6_visit_49 : decode cX6_visit 49 = .ok (.iadd, 1) := dc_96 (byA eNcX6_visit (p := 49) (v := 96) (by decide +kernel))
theorem dX6_visit_50 : decode cX6_visit 50 = .ok (.goto 10, 3) := dc_167 (byA eNcX6_visit (p := 50) (v := 167) (by decide +kernel)) (byA eNcX6_visit (p := 51) (v := 0) (by decide +kernel)) (byA eNcX6_visit (p := 52) (v := 10) (by decide +kernel)) (by decide +kernel)
theorem dX6_visit_53 : decode cX6_visit 53 = .ok (.aload_n 0, 1) := dc_42 (byA eNcX6_visit (p := 53) (v := 42) (by decide +kernel))
theorem dX6_visit_54 : decode cX6_visit 54 = .ok (.getfield 24, 3) := dc_180 (byA eNcX6_visit (p := 54) (v := 180) (by decide +kernel)) (byA eNcX6_visit (p := 55) (v := 0) (by decide +kernel)) (byA eNcX6_visit (p := 56) (v := 24) (by decide +kernel)) rfl
theorem dX6_visit_57 : decode cX6_visit 57 = .ok (.getfield 59, 3) := dc_180 (byA eNcX6_visit (p := 57) (v := 180) (by decide +kernel)) (byA eNcX6_visit (p := 58) (v := 0) (by decide +kernel)) (byA eNcX6_visit (p := 59) (v := 59) (by decide +kernel)) rfl
theorem dX6_visit_60 : decode cX6_visit 60 = .ok (.istore 8, 2) := dc_54 (byA eNcX6_visit (p := 60) (v := 54) (by decide +kernel)) (byA eNcX6_visit (p := 61) (v := 8) (by decide +kernel))
theorem dX6_visit_62 : decode cX6_visit 62 = .ok (.iload 7, 2) := dc_21 (byA eNcX6_visit (p := 62) (v := 21) (by decide +kernel)) (byA eNcX6_visit (p := 63) (v := 7) (by decide +kernel))
theorem dX6_visit_64 : decode cX6_visit 64 = .ok (.istore 9, 2) := dc_54 (byA eNcX6_visit (p := 64) (v := 54) (by decide +kernel)) (byA eNcX6_visit (p := 65) (v := 9) (by decide +kernel))
theorem dX6_visit_66 : decode cX6_visit 66 = .ok (.iload 9, 2) := dc_21 (byA eNcX6_visit (p := 66) (v := 21) (by decide +kernel)) (byA eNcX6_visit (p := 67) (v := 9) (by decide +kernel))
theorem dX6_visit_68 : decode cX6_visit 68 = .ok (.iload 8, 2) := dc_21 (byA eNcX6_visit (p := 68) (v := 21) (by decide +kernel)) (byA eNcX6_visit (p := 69) (v := 8) (by decide +kernel))
theorem dX6_visit_70 : decode cX6_visit 70 = .ok (.if_icmp .ge 68, 3) := dc_162 (byA eNcX6_visit (p := 70) (v := 162) (by decide +kernel)) (byA eNcX6_visit (p := 71) (v := 0) (by decide +kernel)) (byA eNcX6_visit (p := 72) (v := 68) (by decide +kernel)) (by decide +kernel)
theorem dX6_visit_73 : decode cX6_visit 73 = .ok (.iload_n 2, 1) := dc_28 (byA eNcX6_visit (p := 73) (v := 28) (by decide +kernel))
theorem dX6_visit_74 : decode cX6_visit 74 = .ok (.iload 9, 2) := dc_21 (byA eNcX6_visit (p := 74) (v := 21) (by decide +kernel)) (byA eNcX6_visit (p := 75) (v := 9) (by decide +kernel))
theorem dX6_visit_76 : decode cX6_visit 76 = .ok (.ishr, 1) := dc_122 (byA eNcX6_visit (p := 76) (v := 122) (by decide +kernel))
theorem dX6_visit_77 : decode cX6_visit 77 = .ok (.iconst 1, 1) := dc_4 (byA eNcX6_visit (p := 77) (v := 4) (by decide +kernel))
theorem dX6_visit_78 : decode cX6_visit 78 = .ok (.iand, 1) := dc_126 (byA eNcX6_visit (p := 78) (v := 126) (by decide +kernel))
theorem dX6_visit_79 : decode cX6_visit 79 = .ok (.iconst 1, 1) := dc_4 (byA eNcX6_visit (p := 79) (v := 4) (by decide +kernel))
theorem dX6_visit_80 : decode cX6_visit 80 = .ok (.if_icmp .ne 7, 3) := dc_160 (byA eNcX6_visit (p := 80) (v := 160) (by decide +kernel)) (byA eNcX6_visit (p := 81) (v := 0) (by decide +kernel)) (byA eNcX6_visit (p := 82) (v := 7) (by decide +kernel)) (by decide +kernel)
theorem dX6_visit_83 : decode cX6_visit 83 = .ok (.iconst (-1), 1) := dc_2 (byA eNcX6_visit (p := 83) (v := 2) (by decide +kernel))
theorem dX6_visit_84 : decode cX6_visit 84 = .ok (.goto 15, 3) := dc_167 (byA eNcX6_visit (p := 84) (v := 167) (by decide +kernel)) (byA eNcX6_visit (p := 85) (v := 0) (by decide +kernel)) (byA eNcX6_visit (p := 86) (v := 15) (by decide +kernel)) (by decide +kernel)
theorem dX6_visit_87 : decode cX6_visit 87 = .ok (.aload_n 0, 1) := dc_42 (byA eNcX6_visit (p := 87) (v := 42) (by decide +kernel))
theorem dX6_visit_88 : decode cX6_visit 88 = .ok (.getfield 24, 3) := dc_180 (byA eNcX6_visit (p := 88) (v := 180) (by decide +kernel)) (byA eNcX6_visit (p := 89) (v := 0) (by decide +kernel)) (byA eNcX6_visit (p := 90) (v := 24) (by decide +kernel)) rfl
theorem dX6_visit_91 : decode cX6_visit 91 = .ok (.iload 4, 2) := dc_21 (byA eNcX6_visit (p := 91) (v := 21) (by decide +kernel)) (byA eNcX6_visit (p := 92) (v := 4) (by decide +kernel))
theorem dX6_visit_93 : decode cX6_visit 93 = .ok (.iload_n 3, 1) := dc_29 (byA eNcX6_visit (p := 93) (v := 29) (by decide +kernel))
theorem dX6_visit_94 : decode cX6_visit 94 = .ok (.iload 9, 2) := dc_21 (byA eNcX6_visit (p := 94) (v := 21) (by decide +kernel)) (byA eNcX6_visit (p := 95) (v := 9) (by decide +kernel))
theorem dX6_visit_96 : decode cX6_visit 96 = .ok (.invokevirtual 62, 3) := dc_182 (byA eNcX6_visit (p := 96) (v := 182) (by decide +kernel)) (byA eNcX6_visit (p := 97) (v := 0) (by decide +kernel)) (byA eNcX6_visit (p := 98) (v := 62) (by decide +kernel)) rfl
theorem dX6_visit_99 : decode cX6_visit 99 = .ok (.istore 10, 2) := dc_54 (byA eNcX6_visit (p := 99) (v := 54) (by decide +kernel)) (byA eNcX6_visit (p := 100) (v := 10) (by decide +kernel))
theorem dX6_visit_101 : decode cX6_visit 101 = .ok (.iload 10, 2) := dc_21 (byA eNcX6_visit (p := 101) (v := 21) (by decide +kernel)) (byA eNcX6_visit (p := 102) (v := 10) (by decide +kernel))
theorem dX6_visit_103 : decode cX6_visit 103 = .ok (.iconst (-1), 1) := dc_2 (byA eNcX6_visit (p := 103) (v := 2) (by decide +kernel))
theorem dX6_visit_104 : decode cX6_visit 104 = .ok (.if_icmp .eq 28, 3) := dc_159 (byA eNcX6_visit (p := 104) (v := 159) (by decide +kernel)) (byA eNcX6_visit (p := 105) (v := 0) (by decide +kernel)) (byA eNcX6_visit (p := 106) (v := 28) (by decide +kernel)) (by decide +kernel)
theorem dX6_visit_107 : decode cX6_visit 107 = .ok (.aload_n 0, 1) := dc_42 (byA eNcX6_visit (p := 107) (v := 42) (by decide +kernel))
theorem dX6_visit_108 : decode cX6_visit 108 = .ok (.iload_n 1, 1) := dc_27 (byA eNcX6_visit (p := 108) (v := 27) (by decide +kernel))
theorem dX6_visit_109 : decode cX6_visit 109 = .ok (.iload_n 2, 1) := dc_28 (byA eNcX6_visit (p := 109) (v := 28) (by decide +kernel))
theorem dX6_visit_110 : decode cX6_visit 110 = .ok (.iconst 1, 1) := dc_4 (byA eNcX6_visit (p := 110) (v := 4) (by decide +kernel))
theorem dX6_visit_111 : decode cX6_visit 111 = .ok (.iload 9, 2) := dc_21 (byA eNcX6_visit (p := 111) (v := 21) (by decide +kernel)) (byA eNcX6_visit (p := 112) (v := 9) (by decide +kernel))
theorem dX6_visit_113 : decode cX6_visit 113 = .ok (.ishl, 1) := dc_120 (byA eNcX6_visit (p := 113) (v := 120) (by decide +kernel))
theorem dX6_visit_114 : decode cX6_visit 114 = .ok (.ior, 1) := dc_128 (byA eNcX6_visit (p := 114) (v := 128) (by decide +kernel))
theorem dX6_visit_115 : decode cX6_visit 115 = .ok (.iload 9, 2) := dc_21 (byA eNcX6_visit (p := 115) (v := 21) (by decide +kernel)) (byA eNcX6_visit (p := 116) (v := 9) (by decide +kernel))
theorem dX6_visit_117 : decode cX6_visit 117 = .ok (.iload 10, 2) := dc_21 (byA eNcX6_visit (p := 117) (v := 21) (by decide +kernel)) (byA eNcX6_visit (p := 118) (v := 10) (by decide +kernel))
theorem dX6_visit_119 : decode cX6_visit 119 = .ok (.iload 5, 2) := dc_21 (byA eNcX6_visit (p := 119) (v := 21) (by decide +kernel)) (byA eNcX6_visit (p := 120) (v := 5) (by decide +kernel))
theorem dX6_visit_121 : decode cX6_visit 121 = .ok (.bipush 10, 2) := dc_16 (byA eNcX6_visit (p := 121) (v := 16) (by decide +kernel)) (byA eNcX6_visit (p := 122) (v := 10) (by decide +kernel)) (by decide +kernel)
theorem dX6_visit_123 : decode cX6_visit 123 = .ok (.iload 6, 2) := dc_21 (byA eNcX6_visit (p := 123) (v := 21) (by decide +kernel)) (byA eNcX6_visit (p := 124) (v := 6) (by decide +kernel))
theorem dX6_visit_125 : decode cX6_visit 125 = .ok (.imul, 1) := dc_104 (byA eNcX6_visit (p := 125) (v := 104) (by decide +kernel))
theorem dX6_visit_126 : decode cX6_visit 126 = .ok (.iload 9, 2) := dc_21 (byA eNcX6_visit (p := 126) (v := 21) (by decide +kernel)) (byA eNcX6_visit (p := 127) (v := 9) (by decide +kernel))
theorem dX6_visit_128 : decode cX6_visit 128 = .ok (.iadd, 1) := dc_96 (byA eNcX6_visit (p := 128) (v := 96) (by decide +kernel))
theorem dX6_visit_129 : decode cX6_visit 129 = .ok (.invokevirtual 66, 3) := dc_182 (byA eNcX6_visit (p := 129) (v := 182) (by decide +kernel)) (byA eNcX6_visit (p := 130) (v := 0) (by decide +kernel)) (byA eNcX6_visit (p := 131) (v := 66) (by decide +kernel)) rfl
theorem dX6_visit_132 : decode cX6_visit 132 = .ok (.iinc 9 1, 3) := dc_132 (byA eNcX6_visit (p := 132) (v := 132) (by decide +kernel)) (byA eNcX6_visit (p := 133) (v := 9) (by decide +kernel)) (byA eNcX6_visit (p := 134) (v := 1) (by decide +kernel)) (by decide +kernel)
theorem dX6_visit_135 : decode cX6_visit 135 = .ok (.goto (-69), 3) := dc_167 (byA eNcX6_visit (p := 135) (v := 167) (by decide +kernel)) (byA eNcX6_visit (p := 136) (v := 255) (by decide +kernel)) (byA eNcX6_visit (p := 137) (v := 187) (by decide +kernel)) (by decide +kernel)
theorem dX6_visit_138 : decode cX6_visit 138 = .ok (.return_, 1) := dc_177 (byA eNcX6_visit (p := 138) (v := 177) (by decide +kernel))
def X6_visit_J99 (rec : Int → Int → Int → Int → Int → Int → Mm → Rs) (k66 : Int → Mm → Rs) (l1 : Int) (l2 : Int) (l3 : Int) (l4 : Int) (l5 : Int) (l6 : Int) (l8 : Int) (l9 : Int) (s0 : Int) (μ : Mm) : Rs := if s0 = (-1) then (k66 (iA l9 1) μ) else (bd (X6_follow_o rec l1 (bO l2 (bL 1 l9)) l9 s0 l5 (iA (iM 10 l6) l9) μ) fun v16 μ17 => k66 (iA l9 1) μ17)
def X6_visit_L66 (rec : Int → Int → Int → Int → Int → Int → Mm → Rs) (l1 : Int) (l2 : Int) (l3 : Int) (l4 : Int) (l5 : Int) (l6 : Int) (l8 : Int) : Nat → Int → Mm → Rs
  | 0, _, _ => none
  | n + 1, l9, μ => if l8 ≤ l9 then (some (0, μ)) else (if (bA (bR l2 l9) 1) = 1 then (X6_visit_J99 rec (fun w9 μq => X6_visit_L66 rec l1 l2 l3 l4 l5 l6 l8 n w9 μq) l1 l2 l3 l4 l5 l6 l8 l9 (-1) μ) else (mR μ 62 4 (11, 7) fun v10 => bd (X1_comes v10 l4 l3 l9 μ) fun v12 μ13 => X6_visit_J99 rec (fun w9 μq => X6_visit_L66 rec l1 l2 l3 l4 l5 l6 l8 n w9 μq) l1 l2 l3 l4 l5 l6 l8 l9 v12 μ13))
def X6_visit_J60 (rec : Int → Int → Int → Int → Int → Int → Mm → Rs) (l1 : Int) (l2 : Int) (l3 : Int) (l4 : Int) (l5 : Int) (l6 : Int) (l7 : Int) (s0 : Int) (μ : Mm) : Rs := X6_visit_L66 rec l1 l2 l3 l4 l5 l6 s0 FU l7 μ
def X6_visit_J37 (rec : Int → Int → Int → Int → Int → Int → Mm → Rs) (l1 : Int) (l2 : Int) (l3 : Int) (l4 : Int) (l5 : Int) (l6 : Int) (s0 : Int) (μ : Mm) : Rs := if (μ 62 6) ≤ l1 then (mR μ 62 4 (11, 7) fun v6 => X6_visit_J60 rec l1 l2 l3 l4 l5 l6 s0 (μ v6 5) μ) else (X6_visit_J60 rec l1 l2 l3 l4 l5 l6 s0 (iA l1 1) μ)
def X6_visit : Nat → Int → Int → Int → Int → Int → Int → Mm → Rs
  | 0, _, _, _, _, _, _, _ => none
  | n + 1, l1, l2, l3, l4, l5, l6, μ => mR μ 62 4 (11, 7) fun v1 => if l1 < (μ v1 5) then (if (μ 62 6) ≤ l1 then (X6_visit_J37 (fun w0 w1 w2 w3 w4 w5 μq => X6_visit n w0 w1 w2 w3 w4 w5 μq) l1 l2 l3 l4 l5 l6 0 μ) else (X6_visit_J37 (fun w0 w1 w2 w3 w4 w5 μq => X6_visit n w0 w1 w2 w3 w4 w5 μq) l1 l2 l3 l4 l5 l6 l1 μ)) else (sF μ 62 7 l5 fun μ19 => sF μ19 62 8 l6 fun μ20 => some (0, μ20))
set_option maxHeartbeats 4000000 in
set_option maxRecDepth 100000 in
theorem kX6_visit_J99 (d : Nat) {d0 : Nat} (hd : d0 + 9 ≤ d) (hb : 12 ≤ d) {rec : Int → Int → Int → Int → Int → Int → Mm → Rs} (hrec : ∀ {q1 : Int} {q2 : Int} {q3 : Int} {q4 : Int} {q5 : Int} {q6 : Int} {μ1 : Mm} {r1 : Int} {μ2 : Mm}, rec q1 q2 q3 q4 q5 q6 μ1 = some (r1, μ2) → CC d0 mX6_visit [vR 62, vI q1, vI q2, vI q3, vI q4, vI q5, vI q6] μ1 r1 μ2) {k66 : Int → Mm → Rs} {l1 : Int} {l2 : Int} {l3 : Int} {l4 : Int} {l5 : Int} {l6 : Int} {l8 : Int} {l9 : Int} {s0 : Int} {μ : Mm} {r : Int} {μ' : Mm} (hk_66 : ∀ (v9 : Int) (μ1 : Mm), k66 v9 μ1 = some (r, μ') → VV d mX6_visit 66 [some (vR 62), some (vI l1), some (vI l2), some (vI l3), some (vI l4), some (vI l5), some (vI l6), none, some (vI l8), some (vI v9), none] [] μ1 r μ') (h : X6_visit_J99 rec k66 l1 l2 l3 l4 l5 l6 l8 l9 s0 μ = some (r, μ')) : VV d mX6_visit 99 [some (vR 62), some (vI l1), some (vI l2), some (vI l3), some (vI l4), some (vI l5), some (vI l6), none, some (vI l8), some (vI l9), none] [vI s0] μ r μ' := by
  unfold X6_visit_J99 at h
  refine V_istore (q := 101) dX6_visit_99 (Nat.le_of_ble_eq_true rfl) trivial rfl ?_
  refine V_iload (q := 103) dX6_visit_101 rfl rfl ?_
  refine V_iconst (q := 104) dX6_visit_103 rfl rfl ?_
  refine V_icmpeq (q := 132) (q2 := 107) dX6_visit_104 (by decide) rfl (fun hc15 => ?_) (fun hc15 => ?_)
  · have h := ifT hc15 h
    refine V_iinc (q := 135) dX6_visit_132 rfl (Nat.le_of_ble_eq_true rfl) trivial rfl ?_
    refine V_goto (q := 66) dX6_visit_135 (by decide) ?_
    exact V_weak (hk_66 _ _ h) (sb_s rfl (sb_s rfl (sb_s rfl (sb_s rfl (sb_s rfl (sb_s rfl (sb_s rfl (sb_n (sb_s rfl (sb_s rfl (sb_n sb_0)))))))))))
  · have h := ifF hc15 h
    refine V_aload_n (q := 108) dX6_visit_107 rfl rfl rfl ?_
    refine V_iload_n (q := 109) dX6_visit_108 rfl rfl rfl ?_
    refine V_iload_n (q := 110) dX6_visit_109 rfl rfl rfl ?_
    refine V_iconst (q := 111) dX6_visit_110 rfl rfl ?_
    refine V_iload (q := 113) dX6_visit_111 rfl rfl ?_
    refine V_ishl (q := 114) dX6_visit_113 rfl ?_
    refine V_ior (q := 115) dX6_visit_114 rfl ?_
    refine V_iload (q := 117) dX6_visit_115 rfl rfl ?_
    refine V_iload (q := 119) dX6_visit_117 rfl rfl ?_
    refine V_iload (q := 121) dX6_visit_119 rfl rfl ?_
    refine V_bipush (q := 123) dX6_visit_121 rfl rfl rfl ?_
    refine V_iload (q := 125) dX6_visit_123 rfl rfl ?_
    refine V_imul (q := 126) dX6_visit_125 rfl ?_
    refine V_iload (q := 128) dX6_visit_126 rfl rfl ?_
    refine V_iadd (q := 129) dX6_visit_128 rfl ?_
    obtain ⟨v16, μ17, hc18, h⟩ := bd_i h
    refine V_cV0 (q := 132) (kX6_follow (d - 1) (by omega) hrec (by omega) hc18) (by omega) mv_X6_66 rfl rfl rfl rfl rfl rfl dX6_visit_129 rfl ?_
    refine V_iinc (q := 135) dX6_visit_132 rfl (Nat.le_of_ble_eq_true rfl) trivial rfl ?_
    refine V_goto (q := 66) dX6_visit_135 (by decide) ?_
    exact V_weak (hk_66 _ _ h) (sb_s rfl (sb_s rfl (sb_s rfl (sb_s rfl (sb_s rfl (sb_s rfl (sb_s rfl (sb_n (sb_s rfl (sb_s rfl (sb_n sb_0)))))))))))
set_option maxHeartbeats 4000000 in
set_option maxRecDepth 100000 in
theorem kX6_visit_L66 (d : Nat) {d0 : Nat} (hd : d0 + 9 ≤ d) (hb : 12 ≤ d) {rec : Int → Int → Int → Int → Int → Int → Mm → Rs} (hrec : ∀ {q1 : Int} {q2 : Int} {q3 : Int} {q4 : Int} {q5 : Int} {q6 : Int} {μ1 : Mm} {r1 : Int} {μ2 : Mm}, rec q1 q2 q3 q4 q5 q6 μ1 = some (r1, μ2) → CC d0 mX6_visit [vR 62, vI q1, vI q2, vI q3, vI q4, vI q5, vI q6] μ1 r1 μ2) {l1 : Int} {l2 : Int} {l3 : Int} {l4 : Int} {l5 : Int} {l6 : Int} {l8 : Int} {r : Int} {μ' : Mm} : ∀ (n : Nat) {l9 : Int} {μ : Mm}, X6_visit_L66 rec l1 l2 l3 l4 l5 l6 l8 n l9 μ = some (r, μ') → VV d mX6_visit 66 [some (vR 62), some (vI l1), some (vI l2), some (vI l3), some (vI l4), some (vI l5), some (vI l6), none, some (vI l8), some (vI l9), none] [] μ r μ' := by
  intro n
  induction n with
  | zero => intro l9 μ h; rw [X6_visit_L66] at h; cases h
  | succ n ih =>
    intro l9 μ h
    rw [X6_visit_L66] at h
    refine V_iload (q := 68) dX6_visit_66 rfl rfl ?_
    refine V_iload (q := 70) dX6_visit_68 rfl rfl ?_
    refine V_icmpge (q := 138) (q2 := 73) dX6_visit_70 (by decide) rfl (fun hc8 => ?_) (fun hc8 => ?_)
    · have h := ifT hc8 h
      exact V_vret rfl h dX6_visit_138
    · have h := ifF hc8 h
      refine V_iload_n (q := 74) dX6_visit_73 rfl rfl rfl ?_
      refine V_iload (q := 76) dX6_visit_74 rfl rfl ?_
      refine V_ishr (q := 77) dX6_visit_76 rfl ?_
      refine V_iconst (q := 78) dX6_visit_77 rfl rfl ?_
      refine V_iand (q := 79) dX6_visit_78 rfl ?_
      refine V_iconst (q := 80) dX6_visit_79 rfl rfl ?_
      refine V_icmpne (q := 87) (q2 := 83) dX6_visit_80 (by decide) rfl (fun hc9 => ?_) (fun hc9 => ?_)
      · have h := ifF hc9 h
        refine V_aload_n (q := 88) dX6_visit_87 rfl rfl rfl ?_
        obtain ⟨hm11, h⟩ := mR_i h
        refine V_getM (q := 91) fl_X6_24 rfl rfl rfl dX6_visit_88 rfl ?_
        refine V_iload (q := 93) dX6_visit_91 rfl rfl ?_
        refine V_iload_n (q := 94) dX6_visit_93 rfl rfl rfl ?_
        refine V_iload (q := 96) dX6_visit_94 rfl rfl ?_
        obtain ⟨v12, μ13, hc14, h⟩ := bd_i h
        refine V_cV1 (q := 99) (v := vI v12) (kX1_comes (d - 1) (by omega) hm11 hc14) (by omega) mv_X6_62 hm11 rfl rfl rfl rfl rfl dX6_visit_96 rfl ?_
        exact V_weak (kX6_visit_J99 d hd hb hrec (fun _ _ h => ih h) h) (sb_s rfl (sb_s rfl (sb_s rfl (sb_s rfl (sb_s rfl (sb_s rfl (sb_s rfl (sb_n (sb_s rfl (sb_s rfl (sb_n sb_0)))))))))))
      · have h := ifT hc9 h
        refine V_iconst (q := 84) dX6_visit_83 rfl rfl ?_
        refine V_goto (q := 99) dX6_visit_84 (by decide) ?_
        exact V_weak (kX6_visit_J99 d hd hb hrec (fun _ _ h => ih h) h) (sb_s rfl (sb_s rfl (sb_s rfl (sb_s rfl (sb_s rfl (sb_s rfl (sb_s rfl (sb_n (sb_s rfl (sb_s rfl (sb_n sb_0)))))))))))
set_option maxHeartbeats 4000000 in
set_option maxRecDepth 100000 in
theorem kX6_visit_J60 (d : Nat) {d0 : Nat} (hd : d0 + 9 ≤ d) (hb : 12 ≤ d) {rec : Int → Int → Int → Int → Int → Int → Mm → Rs} (hrec : ∀ {q1 : Int} {q2 : Int} {q3 : Int} {q4 : Int} {q5 : Int} {q6 : Int} {μ1 : Mm} {r1 : Int} {μ2 : Mm}, rec q1 q2 q3 q4 q5 q6 μ1 = some (r1, μ2) → CC d0 mX6_visit [vR 62, vI q1, vI q2, vI q3, vI q4, vI q5, vI q6] μ1 r1 μ2) {l1 : Int} {l2 : Int} {l3 : Int} {l4 : Int} {l5 : Int} {l6 : Int} {l7 : Int} {s0 : Int} {μ : Mm} {r : Int} {μ' : Mm} (h : X6_visit_J60 rec l1 l2 l3 l4 l5 l6 l7 s0 μ = some (r, μ')) : VV d mX6_visit 60 [some (vR 62), some (vI l1), some (vI l2), some (vI l3), some (vI l4), some (vI l5), some (vI l6), some (vI l7), none, none, none] [vI s0] μ r μ' := by
  unfold X6_visit_J60 at h
  refine V_istore (q := 62) dX6_visit_60 (Nat.le_of_ble_eq_true rfl) trivial rfl ?_
  refine V_iload (q := 64) dX6_visit_62 rfl rfl ?_
  refine V_istore (q := 66) dX6_visit_64 (Nat.le_of_ble_eq_true rfl) trivial rfl ?_
  exact V_weak (kX6_visit_L66 d hd hb hrec  FU h) (sb_s rfl (sb_s rfl (sb_s rfl (sb_s rfl (sb_s rfl (sb_s rfl (sb_s rfl (sb_n (sb_s rfl (sb_s rfl (sb_n sb_0)))))))))))
set_option maxHeartbeats 4000000 in
set_option maxRecDepth 100000 in
theorem kX6_visit_J37 (d : Nat) {d0 : Nat} (hd : d0 + 9 ≤ d) (hb : 12 ≤ d) {rec : Int → Int → Int → Int → Int → Int → Mm → Rs} (hrec : ∀ {q1 : Int} {q2 : Int} {q3 : Int} {q4 : Int} {q5 : Int} {q6 : Int} {μ1 : Mm} {r1 : Int} {μ2 : Mm}, rec q1 q2 q3 q4 q5 q6 μ1 = some (r1, μ2) → CC d0 mX6_visit [vR 62, vI q1, vI q2, vI q3, vI q4, vI q5, vI q6] μ1 r1 μ2) {l1 : Int} {l2 : Int} {l3 : Int} {l4 : Int} {l5 : Int} {l6 : Int} {s0 : Int} {μ : Mm} {r : Int} {μ' : Mm} (h : X6_visit_J37 rec l1 l2 l3 l4 l5 l6 s0 μ = some (r, μ')) : VV d mX6_visit 37 [some (vR 62), some (vI l1), some (vI l2), some (vI l3), some (vI l4), some (vI l5), some (vI l6), none, none, none, none] [vI s0] μ r μ' := by
  unfold X6_visit_J37 at h
  refine V_istore (q := 39) dX6_visit_37 (Nat.le_of_ble_eq_true rfl) trivial rfl ?_
  refine V_iload_n (q := 40) dX6_visit_39 rfl rfl rfl ?_
  refine V_aload_n (q := 41) dX6_visit_40 rfl rfl rfl ?_
  refine V_getI (q := 44) fl_X6_32 rfl rfl rfl dX6_visit_41 rfl ?_
  refine V_icmpge (q := 53) (q2 := 47) dX6_visit_44 (by decide) rfl (fun hc5 => ?_) (fun hc5 => ?_)
  · have h := ifT hc5 h
    refine V_aload_n (q := 54) dX6_visit_53 rfl rfl rfl ?_
    obtain ⟨hm7, h⟩ := mR_i h
    refine V_getM (q := 57) fl_X6_24 rfl rfl rfl dX6_visit_54 rfl ?_
    refine V_getI (q := 60) fl_X6_59 hm7 rfl rfl dX6_visit_57 rfl ?_
    exact V_weak (kX6_visit_J60 d hd hb hrec h) (sb_s rfl (sb_s rfl (sb_s rfl (sb_s rfl (sb_s rfl (sb_s rfl (sb_s rfl (sb_s rfl (sb_n (sb_n (sb_n sb_0)))))))))))
  · have h := ifF hc5 h
    refine V_iload_n (q := 48) dX6_visit_47 rfl rfl rfl ?_
    refine V_iconst (q := 49) dX6_visit_48 rfl rfl ?_
    refine V_iadd (q := 50) dX6_visit_49 rfl ?_
    refine V_goto (q := 60) dX6_visit_50 (by decide) ?_
    exact V_weak (kX6_visit_J60 d hd hb hrec h) (sb_s rfl (sb_s rfl (sb_s rfl (sb_s rfl (sb_s rfl (sb_s rfl (sb_s rfl (sb_s rfl (sb_n (sb_n (sb_n sb_0)))))))))))
set_option maxHeartbeats 4000000 in
set_option maxRecDepth 100000 in
theorem kX6_visit : ∀ (n d : Nat) (hd : 10 * n + 13 ≤ d) {l1 : Int} {l2 : Int} {l3 : Int} {l4 : Int} {l5 : Int} {l6 : Int} {μ : Mm} {r : Int} {μ' : Mm} (h : X6_visit n l1 l2 l3 l4 l5 l6 μ = some (r, μ')), CC d mX6_visit [vR 62, vI l1, vI l2, vI l3, vI l4, vI l5, vI l6] μ r μ' := by
  intro n
  induction n with
  | zero => intro d hd l1 l2 l3 l4 l5 l6   μ r μ' h; rw [X6_visit] at h; cases h
  | succ n ih =>
    intro d hd l1 l2 l3 l4 l5 l6   μ r μ' h
    have hb : 12 ≤ d := by omega
    obtain ⟨d0, hd0⟩ : ∃ z, z = 10 * n + 13 := ⟨_, rfl⟩
    have hd : d0 + 10 ≤ d := by omega
    have hrec : ∀ {q1 : Int} {q2 : Int} {q3 : Int} {q4 : Int} {q5 : Int} {q6 : Int} {μ1 : Mm} {r1 : Int} {μ2 : Mm}, ((fun w0 w1 w2 w3 w4 w5 μq => X6_visit n w0 w1 w2 w3 w4 w5 μq)) q1 q2 q3 q4 q5 q6 μ1 = some (r1, μ2) → CC d0 mX6_visit [vR 62, vI q1, vI q2, vI q3, vI q4, vI q5, vI q6] μ1 r1 μ2 := fun h1 => ih d0 (by omega) h1
    rw [X6_visit] at h
    refine V_enter (by decide) (Nat.le_of_ble_eq_true rfl) ?_
    show VV d mX6_visit 0 [some (vR 62), some (vI l1), some (vI l2), some (vI l3), some (vI l4), some (vI l5), some (vI l6), none, none, none, none] [] μ r μ'
    refine V_iload_n (q := 1) dX6_visit_0 rfl rfl rfl ?_
    refine V_aload_n (q := 2) dX6_visit_1 rfl rfl rfl ?_
    obtain ⟨hm2, h⟩ := mR_i h
    refine V_getM (q := 5) fl_X6_24 rfl rfl rfl dX6_visit_2 rfl ?_
    refine V_getI (q := 8) fl_X6_59 hm2 rfl rfl dX6_visit_5 rfl ?_
    refine V_icmplt (q := 24) (q2 := 11) dX6_visit_8 (by decide) rfl (fun hc3 => ?_) (fun hc3 => ?_)
    · have h := ifT hc3 h
      refine V_iload_n (q := 25) dX6_visit_24 rfl rfl rfl ?_
      refine V_aload_n (q := 26) dX6_visit_25 rfl rfl rfl ?_
      refine V_getI (q := 29) fl_X6_32 rfl rfl rfl dX6_visit_26 rfl ?_
      refine V_icmpge (q := 36) (q2 := 32) dX6_visit_29 (by decide) rfl (fun hc4 => ?_) (fun hc4 => ?_)
      · have h := ifT hc4 h
        refine V_iconst (q := 37) dX6_visit_36 rfl rfl ?_
        exact V_weak (kX6_visit_J37 d (by omega) hb hrec h) (sb_s rfl (sb_s rfl (sb_s rfl (sb_s rfl (sb_s rfl (sb_s rfl (sb_s rfl (sb_n (sb_n (sb_n (sb_n sb_0)))))))))))
      · have h := ifF hc4 h
        refine V_iload_n (q := 33) dX6_visit_32 rfl rfl rfl ?_
        refine V_goto (q := 37) dX6_visit_33 (by decide) ?_
        exact V_weak (kX6_visit_J37 d (by omega) hb hrec h) (sb_s rfl (sb_s rfl (sb_s rfl (sb_s rfl (sb_s rfl (sb_s rfl (sb_s rfl (sb_n (sb_n (sb_n (sb_n sb_0)))))))))))
    · have h := ifF hc3 h
      refine V_aload_n (q := 12) dX6_visit_11 rfl rfl rfl ?_
      refine V_iload (q := 14) dX6_visit_12 rfl rfl ?_
      have h := sF_i h
      refine V_putI (q := 17) fl_X6_36 rfl rfl rfl dX6_visit_14 rfl ?_
      refine V_aload_n (q := 18) dX6_visit_17 rfl rfl rfl ?_
      refine V_iload (q := 20) dX6_visit_18 rfl rfl ?_
      have h := sF_i h
      refine V_putI (q := 23) fl_X6_39 rfl rfl rfl dX6_visit_20 rfl ?_
      exact V_vret rfl h dX6_visit_23
theorem kX6_follow_c (d : Nat) (hd : 135 ≤ d) {l1 : Int} {l2 : Int} {l3 : Int} {l4 : Int} {l5 : Int} {l6 : Int} {μ : Mm} {r : Int} {μ' : Mm} (h : X6_follow_o (X6_visit RD) l1 l2 l3 l4 l5 l6 μ = some (r, μ')) : CC d mX6_follow [vR 62, vI l1, vI l2, vI l3, vI l4, vI l5, vI l6] μ r μ' := kX6_follow (d0 := 10 * RD + 13) d (by unfold RD; omega) (fun h1 => kX6_visit RD _ (Nat.le_refl _) h1) (by omega) h
abbrev mX6_seek : Mth := (yX6_seek, cX6_seek, 4, some .boolean)
set_option maxRecDepth 100000 in
theorem mi_X6_seek : Cond.instanceMethod yX6_seek ∈ tG ∧ Cond.selects yX6_seek.cls yX6_seek yX6_seek ∈ tG ∧ Cond.initialized yX6_seek.cls ∈ tG ∧ Cond.code yX6_seek cX6_seek 4 (some .boolean) ∈ tG ∧ (yX6_seek.cls ≠ "java/lang/invoke/MethodHandle" ∧ yX6_seek.cls ≠ "java/lang/invoke/VarHandle" ∧ (parseMethodDescriptor yX6_seek.desc).map (fun d => d.parameters.length) = some 3) ∧ 4 ≤ 60 := ⟨(tG_of (tb4 (List.mem_of_getElem? (i := 67) rfl)) (by decide +kernel)), (tG_of (tb4 (List.mem_of_getElem? (i := 68) rfl)) (by decide +kernel)), (tG_of (tb1 (List.mem_of_getElem? (i := 10) rfl)) (by decide +kernel)), (tG_of (tb4 (List.mem_of_getElem? (i := 69) rfl)) (by decide +kernel)), ⟨by decide, by decide, by decide +kernel⟩, by decide⟩
set_option maxRecDepth 100000 in
theorem mv_X10_306 : mV RX10 306 mX6_seek 3 := ⟨(tG_of (tb4 (List.mem_of_getElem? (i := 66) rfl)) (by decide +kernel)), mi_X6_seek⟩
theorem dX6_seek_0 : decode cX6_seek 0 = .ok (.aload_n 0, 1) := dc_42 (byA eNcX6_seek (p := 0) (v := 42) (by decide +kernel))
theorem dX6_seek_1 : decode cX6_seek 1 = .ok (.aload_n 1, 1) := dc_43 (byA eNcX6_seek (p := 1) (v := 43) (by decide +kernel))
theorem dX6_seek_2 : decode cX6_seek 2 = .ok (.putfield 24, 3) := dc_181 (byA eNcX6_seek (p := 2) (v := 181) (by decide +kernel)) (byA eNcX6_seek (p := 3) (v := 0) (by decide +kernel)) (byA eNcX6_seek (p := 4) (v := 24) (by decide +kernel)) rfl
theorem dX6_seek_5 : decode cX6_seek 5 = .ok (.aload_n 0, 1) := dc_42 (byA eNcX6_seek (p := 5) (v := 42) (by decide +kernel))
theorem dX6_seek_6 : decode cX6_seek 6 = .ok (.iload_n 2, 1) := dc_28 (byA eNcX6_seek (p := 6) (v := 28) (by decide +kernel))
theorem dX6_seek_7 : decode cX6_seek 7 = .ok (.putfield 28, 3) := dc_181 (byA eNcX6_seek (p := 7) (v := 181) (by decide +kernel)) (byA eNcX6_seek (p := 8) (v := 0) (by decide +kernel)) (byA eNcX6_seek (p := 9) (v := 28) (by decide +kernel)) rfl
theorem dX6_seek_10 : decode cX6_seek 10 = .ok (.aload_n 0, 1) := dc_42 (byA eNcX6_seek (p := 10) (v := 42) (by decide +kernel))
theorem dX6_seek_11 : decode cX6_seek 11 = .ok (.iload_n 3, 1) := dc_29 (byA eNcX6_seek (p := 11) (v := 29) (by decide +kernel))
theorem dX6_seek_12 : decode cX6_seek 12 = .ok (.putfield 32, 3) := dc_181 (byA eNcX6_seek (p := 12) (v := 181) (by decide +kernel)) (byA eNcX6_seek (p := 13) (v := 0) (by decide +kernel)) (byA eNcX6_seek (p := 14) (v := 32) (by decide +kernel)) rfl
theorem dX6_seek_15 : decode cX6_seek 15 = .ok (.aload_n 0, 1) := dc_42 (byA eNcX6_seek (p := 15) (v := 42) (by decide +kernel))
theorem dX6_seek_16 : decode cX6_seek 16 = .ok (.ldc 35, 2) := dc_18 (byA eNcX6_seek (p := 16) (v := 18) (by decide +kernel)) (byA eNcX6_seek (p := 17) (v := 35) (by decide +kernel))
theorem dX6_seek_18 : decode cX6_seek 18 = .ok (.putfield 36, 3) := dc_181 (byA eNcX6_seek (p := 18) (v := 181) (by decide +kernel)) (byA eNcX6_seek (p := 19) (v := 0) (by decide +kernel)) (byA eNcX6_seek (p := 20) (v := 36) (by decide +kernel)) rfl
theorem dX6_seek_21 : decode cX6_seek 21 = .ok (.aload_n 0, 1) := dc_42 (byA eNcX6_seek (p := 21) (v := 42) (by decide +kernel))
theorem dX6_seek_22 : decode cX6_seek 22 = .ok (.iconst 0, 1) := dc_3 (byA eNcX6_seek (p := 22) (v := 3) (by decide +kernel))
theorem dX6_seek_23 : decode cX6_seek 23 = .ok (.putfield 39, 3) := dc_181 (byA eNcX6_seek (p := 23) (v := 181) (by decide +kernel)) (byA eNcX6_seek (p := 24) (v := 0) (by decide +kernel)) (byA eNcX6_seek (p := 25) (v := 39) (by decide +kernel)) rfl
theorem dX6_seek_26 : decode cX6_seek 26 = .ok (.aload_n 0, 1) := dc_42 (byA eNcX6_seek (p := 26) (v := 42) (by decide +kernel))
theorem dX6_seek_27 : decode cX6_seek 27 = .ok (.getfield 24, 3) := dc_180 (byA eNcX6_seek (p := 27) (v := 180) (by decide +kernel)) (byA eNcX6_seek (p := 28) (v := 0) (by decide +kernel)) (byA eNcX6_seek (p := 29) (v := 24) (by decide +kernel)) rfl
theorem dX6_seek_30 : decode cX6_seek 30 = .ok (.invokevirtual 42, 3) := dc_182 (byA eNcX6_seek (p := 30) (v := 182) (by decide +kernel)) (byA eNcX6_seek (p := 31) (v := 0) (by decide +kernel)) (byA eNcX6_seek (p := 32) (v := 42) (by decide +kernel)) rfl
theorem dX6_seek_33 : decode cX6_seek 33 = .ok (.ifCond .ne 5, 3) := dc_154 (byA eNcX6_seek (p := 33) (v := 154) (by decide +kernel)) (byA eNcX6_seek (p := 34) (v := 0) (by decide +kernel)) (byA eNcX6_seek (p := 35) (v := 5) (by decide +kernel)) (by decide +kernel)
theorem dX6_seek_36 : decode cX6_seek 36 = .ok (.iconst 0, 1) := dc_3 (byA eNcX6_seek (p := 36) (v := 3) (by decide +kernel))
theorem dX6_seek_37 : decode cX6_seek 37 = .ok (.ireturn, 1) := dc_172 (byA eNcX6_seek (p := 37) (v := 172) (by decide +kernel))
theorem dX6_seek_38 : decode cX6_seek 38 = .ok (.aload_n 0, 1) := dc_42 (byA eNcX6_seek (p := 38) (v := 42) (by decide +kernel))
theorem dX6_seek_39 : decode cX6_seek 39 = .ok (.invokevirtual 48, 3) := dc_182 (byA eNcX6_seek (p := 39) (v := 182) (by decide +kernel)) (byA eNcX6_seek (p := 40) (v := 0) (by decide +kernel)) (byA eNcX6_seek (p := 41) (v := 48) (by decide +kernel)) rfl
theorem dX6_seek_42 : decode cX6_seek 42 = .ok (.aload_n 0, 1) := dc_42 (byA eNcX6_seek (p := 42) (v := 42) (by decide +kernel))
theorem dX6_seek_43 : decode cX6_seek 43 = .ok (.iconst 0, 1) := dc_3 (byA eNcX6_seek (p := 43) (v := 3) (by decide +kernel))
theorem dX6_seek_44 : decode cX6_seek 44 = .ok (.iconst 0, 1) := dc_3 (byA eNcX6_seek (p := 44) (v := 3) (by decide +kernel))
theorem dX6_seek_45 : decode cX6_seek 45 = .ok (.bipush 8, 2) := dc_16 (byA eNcX6_seek (p := 45) (v := 16) (by decide +kernel)) (byA eNcX6_seek (p := 46) (v := 8) (by decide +kernel)) (by decide +kernel)
theorem dX6_seek_47 : decode cX6_seek 47 = .ok (.iconst 0, 1) := dc_3 (byA eNcX6_seek (p := 47) (v := 3) (by decide +kernel))
theorem dX6_seek_48 : decode cX6_seek 48 = .ok (.iconst 0, 1) := dc_3 (byA eNcX6_seek (p := 48) (v := 3) (by decide +kernel))
theorem dX6_seek_49 : decode cX6_seek 49 = .ok (.iconst 0, 1) := dc_3 (byA eNcX6_seek (p := 49) (v := 3) (by decide +kernel))
theorem dX6_seek_50 : decode cX6_seek 50 = .ok (.invokevirtual 51, 3) := dc_182 (byA eNcX6_seek (p := 50) (v := 182) (by decide +kernel)) (byA eNcX6_seek (p := 51) (v := 0) (by decide +kernel)) (byA eNcX6_seek (p := 52) (v := 51) (by decide +kernel)) rfl
theorem dX6_seek_53 : decode cX6_seek 53 = .ok (.aload_n 0, 1) := dc_42 (byA eNcX6_seek (p := 53) (v := 42) (by decide +kernel))
theorem dX6_seek_54 : decode cX6_seek 54 = .ok (.getfield 36, 3) := dc_180 (byA eNcX6_seek (p := 54) (v := 180) (by decide +kernel)) (byA eNcX6_seek (p := 55) (v := 0) (by decide +kernel)) (byA eNcX6_seek (p := 56) (v := 36) (by decide +kernel)) rfl
theorem dX6_seek_57 : decode cX6_seek 57 = .ok (.ldc 35, 2) := dc_18 (byA eNcX6_seek (p := 57) (v := 18) (by decide +kernel)) (byA eNcX6_seek (p := 58) (v := 35) (by decide +kernel))
theorem dX6_seek_59 : decode cX6_seek 59 = .ok (.if_icmp .eq 7, 3) := dc_159 (byA eNcX6_seek (p := 59) (v := 159) (by decide +kernel)) (byA eNcX6_seek (p := 60) (v := 0) (by decide +kernel)) (byA eNcX6_seek (p := 61) (v := 7) (by decide +kernel)) (by decide +kernel)
theorem dX6_seek_62 : decode cX6_seek 62 = .ok (.iconst 1, 1) := dc_4 (byA eNcX6_seek (p := 62) (v := 4) (by decide +kernel))
theorem dX6_seek_63 : decode cX6_seek 63 = .ok (.goto 4, 3) := dc_167 (byA eNcX6_seek (p := 63) (v := 167) (by decide +kernel)) (byA eNcX6_seek (p := 64) (v := 0) (by decide +kernel)) (byA eNcX6_seek (p := 65) (v := 4) (by decide +kernel)) (by decide +kernel)
theorem dX6_seek_66 : decode cX6_seek 66 = .ok (.iconst 0, 1) := dc_3 (byA eNcX6_seek (p := 66) (v := 3) (by decide +kernel))
theorem dX6_seek_67 : decode cX6_seek 67 = .ok (.ireturn, 1) := dc_172 (byA eNcX6_seek (p := 67) (v := 172) (by decide +kernel))
def X6_seek (l1 : Nat) (l2 : Int) (l3 : Int) (μ : Mm) : Rs := sF μ 62 4 ((l1 : Nat) : Int) fun μ1 => sF μ1 62 5 l2 fun μ2 => sF μ2 62 6 l3 fun μ3 => sF μ3 62 7 1000000000 fun μ4 => sF μ4 62 8 0 fun μ5 => mR μ5 62 4 (11, 7) fun v6 => bd (X1_canBe v6 μ5) fun v8 μ9 => if v8 = 0 then (some (0, μ9)) else (bd (X6_forget μ9) fun v12 μ13 => bd (X6_visit RD 0 0 8 0 0 0 μ13) fun v15 μ16 => if (μ16 62 7) = 1000000000 then (some (0, μ16)) else (some (1, μ16)))
set_option maxHeartbeats 4000000 in
set_option maxRecDepth 100000 in
theorem kX6_seek (d : Nat) (hd : 134 ≤ d) {l1 : Nat} {l2 : Int} {l3 : Int} (hk1 : kD l1 = (11, 7)) {μ : Mm} {r : Int} {μ' : Mm} (h : X6_seek l1 l2 l3 μ = some (r, μ')) : CC d mX6_seek [vR 62, vR l1, vI l2, vI l3] μ r μ' := by
  unfold X6_seek at h
  refine V_enter (by decide) (Nat.le_of_ble_eq_true rfl) ?_
  show VV d mX6_seek 0 [some (vR 62), some (vR l1), some (vI l2), some (vI l3)] [] μ r μ'
  refine V_aload_n (q := 1) dX6_seek_0 rfl rfl rfl ?_
  refine V_aload_n (q := 2) dX6_seek_1 rfl rfl rfl ?_
  have h := sF_i h
  refine V_putM (q := 5) fl_X6_24 rfl rfl rfl (kD_e (hk1 : kD _ = (11, 7)) (by decide)) dX6_seek_2 rfl ?_
  refine V_aload_n (q := 6) dX6_seek_5 rfl rfl rfl ?_
  refine V_iload_n (q := 7) dX6_seek_6 rfl rfl rfl ?_
  have h := sF_i h
  refine V_putI (q := 10) fl_X6_28 rfl rfl rfl dX6_seek_7 rfl ?_
  refine V_aload_n (q := 11) dX6_seek_10 rfl rfl rfl ?_
  refine V_iload_n (q := 12) dX6_seek_11 rfl rfl rfl ?_
  have h := sF_i h
  refine V_putI (q := 15) fl_X6_32 rfl rfl rfl dX6_seek_12 rfl ?_
  refine V_aload_n (q := 16) dX6_seek_15 rfl rfl rfl ?_
  refine V_ldc (q := 18) (n := 1000000000) dX6_seek_16 (by unfold rI; omega) kc_X6_35 rfl ?_
  have h := sF_i h
  refine V_putI (q := 21) fl_X6_36 rfl rfl rfl dX6_seek_18 rfl ?_
  refine V_aload_n (q := 22) dX6_seek_21 rfl rfl rfl ?_
  refine V_iconst (q := 23) dX6_seek_22 rfl rfl ?_
  have h := sF_i h
  refine V_putI (q := 26) fl_X6_39 rfl rfl rfl dX6_seek_23 rfl ?_
  refine V_aload_n (q := 27) dX6_seek_26 rfl rfl rfl ?_
  obtain ⟨hm7, h⟩ := mR_i h
  refine V_getM (q := 30) fl_X6_24 rfl rfl rfl dX6_seek_27 rfl ?_
  obtain ⟨v8, μ9, hc10, h⟩ := bd_i h
  refine V_cV1 (q := 33) (v := vI v8) (kX1_canBe (d - 1) (by omega) hm7 hc10) (by omega) mv_X6_42 hm7 rfl rfl rfl rfl rfl dX6_seek_30 rfl ?_
  refine V_ifne (q := 38) (q2 := 36) dX6_seek_33 (by decide) rfl (fun hc11 => ?_) (fun hc11 => ?_)
  · have h := ifF hc11 h
    refine V_aload_n (q := 39) dX6_seek_38 rfl rfl rfl ?_
    obtain ⟨v12, μ13, hc14, h⟩ := bd_i h
    refine V_cV0 (q := 42) (kX6_forget (d - 1) (by omega) hc14) (by omega) mv_X6_48 rfl rfl rfl rfl rfl rfl dX6_seek_39 rfl ?_
    refine V_aload_n (q := 43) dX6_seek_42 rfl rfl rfl ?_
    refine V_iconst (q := 44) dX6_seek_43 rfl rfl ?_
    refine V_iconst (q := 45) dX6_seek_44 rfl rfl ?_
    refine V_bipush (q := 47) dX6_seek_45 rfl rfl rfl ?_
    refine V_iconst (q := 48) dX6_seek_47 rfl rfl ?_
    refine V_iconst (q := 49) dX6_seek_48 rfl rfl ?_
    refine V_iconst (q := 50) dX6_seek_49 rfl rfl ?_
    obtain ⟨v15, μ16, hc17, h⟩ := bd_i h
    refine V_cV0 (q := 53) (kX6_visit RD (d - 1) (by unfold RD; omega) hc17) (by omega) mv_X6_51 rfl rfl rfl rfl rfl rfl dX6_seek_50 rfl ?_
    refine V_aload_n (q := 54) dX6_seek_53 rfl rfl rfl ?_
    refine V_getI (q := 57) fl_X6_36 rfl rfl rfl dX6_seek_54 rfl ?_
    refine V_ldc (q := 59) (n := 1000000000) dX6_seek_57 (by unfold rI; omega) kc_X6_35 rfl ?_
    refine V_icmpeq (q := 66) (q2 := 62) dX6_seek_59 (by decide) rfl (fun hc18 => ?_) (fun hc18 => ?_)
    · have h := ifT hc18 h
      refine V_iconst (q := 67) dX6_seek_66 rfl rfl ?_
      exact V_zret rfl (Or.inl rfl) h dX6_seek_67
    · have h := ifF hc18 h
      refine V_iconst (q := 63) dX6_seek_62 rfl rfl ?_
      refine V_goto (q := 67) dX6_seek_63 (by decide) ?_
      exact V_zret rfl (Or.inr rfl) h dX6_seek_67
  · have h := ifT hc11 h
    refine V_iconst (q := 37) dX6_seek_36 rfl rfl ?_
    exact V_zret rfl (Or.inl rfl) h dX6_seek_37
abbrev mX6_gatherBehind : Mth := (yX6_gatherBehind, cX6_gatherBehind, 9, none)
set_option maxRecDepth 100000 in
theorem mi_X6_gatherBehind : Cond.instanceMethod yX6_gatherBehind ∈ tG ∧ Cond.selects yX6_gatherBehind.cls yX6_gatherBehind yX6_gatherBehind ∈ tG ∧ Cond.initialized yX6_gatherBehind.cls ∈ tG ∧ Cond.code yX6_gatherBehind cX6_gatherBehind 9 (none) ∈ tG ∧ (yX6_gatherBehind.cls ≠ "java/lang/invoke/MethodHandle" ∧ yX6_gatherBehind.cls ≠ "java/lang/invoke/VarHandle" ∧ (parseMethodDescriptor yX6_gatherBehind.desc).map (fun d => d.parameters.length) = some 6) ∧ 9 ≤ 60 := ⟨(tG_of (tb5 (List.mem_of_getElem? (i := 26) rfl)) (by decide +kernel)), (tG_of (List.mem_of_getElem? (i := 45) (by decide +kernel)) (by decide +kernel)), (tG_of (tb1 (List.mem_of_getElem? (i := 10) rfl)) (by decide +kernel)), (tG_of (tb5 (List.mem_of_getElem? (i := 27) rfl)) (by decide +kernel)), ⟨by decide, by decide, by decide +kernel⟩, by decide⟩
set_option maxRecDepth 100000 in
theorem mv_X6_99 : mV RX6 99 mX6_gatherBehind 6 := ⟨(tG_of (tb5 (List.mem_of_getElem? (i := 24) rfl)) (by decide +kernel)), mi_X6_gatherBehind⟩
abbrev mX6_gather : Mth := (yX6_gather, cX6_gather, 9, none)
set_option maxRecDepth 100000 in
theorem mi_X6_gather : Cond.instanceMethod yX6_gather ∈ tG ∧ Cond.selects yX6_gather.cls yX6_gather yX6_gather ∈ tG ∧ Cond.initialized yX6_gather.cls ∈ tG ∧ Cond.code yX6_gather cX6_gather 9 (none) ∈ tG ∧ (yX6_gather.cls ≠ "java/lang/invoke/MethodHandle" ∧ yX6_gather.cls ≠ "java/lang/invoke/VarHandle" ∧ (parseMethodDescriptor yX6_gather.desc).map (fun d => d.parameters.length) = some 6) ∧ 9 ≤ 60 := ⟨(tG_of (tb5 (List.mem_of_getElem? (i := 21) rfl)) (by decide +kernel)), (tG_of (List.mem_of_getElem? (i := 44) (by decide +kernel)) (by decide +kernel)), (tG_of (tb1 (List.mem_of_getElem? (i := 10) rfl)) (by decide +kernel)), (tG_of (tb5 (List.mem_of_getElem? (i := 22) rfl)) (by decide +kernel)), ⟨by decide, by decide, by decide +kernel⟩, by decide⟩
set_option maxRecDepth 100000 in
theorem mv_X6_92 : mV RX6 92 mX6_gather 6 := ⟨(tG_of (tb5 (List.mem_of_getElem? (i := 19) rfl)) (by decide +kernel)), mi_X6_gather⟩
theorem dX6_gatherBehind_0 : decode cX6_gatherBehind 0 = .ok (.aload_n 0, 1) := dc_42 (byA eNcX6_gatherBehind (p := 0) (v := 42) (by decide +kernel))
theorem dX6_gatherBehind_1 : decode cX6_gatherBehind 1 = .ok (.getfield 24, 3) := dc_180 (byA eNcX6_gatherBehind (p := 1) (v := 180) (by decide +kernel)) (byA eNcX6_gatherBehind (p := 2) (v := 0) (by decide +kernel)) (byA eNcX6_gatherBehind (p := 3) (v := 24) (by decide +kernel)) rfl
theorem dX6_gatherBehind_4 : decode cX6_gatherBehind 4 = .ok (.iload 4, 2) := dc_21 (byA eNcX6_gatherBehind (p := 4) (v := 21) (by decide +kernel)) (byA eNcX6_gatherBehind (p := 5) (v := 4) (by decide +kernel))
theorem dX6_gatherBehind_6 : decode cX6_gatherBehind 6 = .ok (.iload_n 3, 1) := dc_29 (byA eNcX6_gatherBehind (p := 6) (v := 29) (by decide +kernel))
theorem dX6_gatherBehind_7 : decode cX6_gatherBehind 7 = .ok (.invokevirtual 69, 3) := dc_182 (byA eNcX6_gatherBehind (p := 7) (v := 182) (by decide +kernel)) (byA eNcX6_gatherBehind (p := 8) (v := 0) (by decide +kernel)) (byA eNcX6_gatherBehind (p := 9) (v := 69) (by decide +kernel)) rfl
theorem dX6_gatherBehind_10 : decode cX6_gatherBehind 10 = .ok (.istore 7, 2) := dc_54 (byA eNcX6_gatherBehind (p := 10) (v := 54) (by decide +kernel)) (byA eNcX6_gatherBehind (p := 11) (v := 7) (by decide +kernel))
theorem dX6_gatherBehind_12 : decode cX6_gatherBehind 12 = .ok (.iload 5, 2) := dc_21 (byA eNcX6_gatherBehind (p := 12) (v := 21) (by decide +kernel)) (byA eNcX6_gatherBehind (p := 13) (v := 5) (by decide +kernel))
theorem dX6_gatherBehind_14 : decode cX6_gatherBehind 14 = .ok (.iload 7, 2) := dc_21 (byA eNcX6_gatherBehind (p := 14) (v := 21) (by decide +kernel)) (byA eNcX6_gatherBehind (p := 15) (v := 7) (by decide +kernel))
theorem dX6_gatherBehind_16 : decode cX6_gatherBehind 16 = .ok (.iadd, 1) := dc_96 (byA eNcX6_gatherBehind (p := 16) (v := 96) (by decide +kernel))
theorem dX6_gatherBehind_17 : decode cX6_gatherBehind 17 = .ok (.aload_n 0, 1) := dc_42 (byA eNcX6_gatherBehind (p := 17) (v := 42) (by decide +kernel))
theorem dX6_gatherBehind_18 : decode cX6_gatherBehind 18 = .ok (.getfield 24, 3) := dc_180 (byA eNcX6_gatherBehind (p := 18) (v := 180) (by decide +kernel)) (byA eNcX6_gatherBehind (p := 19) (v := 0) (by decide +kernel)) (byA eNcX6_gatherBehind (p := 20) (v := 24) (by decide +kernel)) rfl
theorem dX6_gatherBehind_21 : decode cX6_gatherBehind 21 = .ok (.getfield 73, 3) := dc_180 (byA eNcX6_gatherBehind (p := 21) (v := 180) (by decide +kernel)) (byA eNcX6_gatherBehind (p := 22) (v := 0) (by decide +kernel)) (byA eNcX6_gatherBehind (p := 23) (v := 73) (by decide +kernel)) rfl
theorem dX6_gatherBehind_24 : decode cX6_gatherBehind 24 = .ok (.iload_n 3, 1) := dc_29 (byA eNcX6_gatherBehind (p := 24) (v := 29) (by decide +kernel))
theorem dX6_gatherBehind_25 : decode cX6_gatherBehind 25 = .ok (.iaload, 1) := dc_46 (byA eNcX6_gatherBehind (p := 25) (v := 46) (by decide +kernel))
theorem dX6_gatherBehind_26 : decode cX6_gatherBehind 26 = .ok (.isub, 1) := dc_100 (byA eNcX6_gatherBehind (p := 26) (v := 100) (by decide +kernel))
theorem dX6_gatherBehind_27 : decode cX6_gatherBehind 27 = .ok (.istore 8, 2) := dc_54 (byA eNcX6_gatherBehind (p := 27) (v := 54) (by decide +kernel)) (byA eNcX6_gatherBehind (p := 28) (v := 8) (by decide +kernel))
theorem dX6_gatherBehind_29 : decode cX6_gatherBehind 29 = .ok (.aload_n 0, 1) := dc_42 (byA eNcX6_gatherBehind (p := 29) (v := 42) (by decide +kernel))
theorem dX6_gatherBehind_30 : decode cX6_gatherBehind 30 = .ok (.iload_n 2, 1) := dc_28 (byA eNcX6_gatherBehind (p := 30) (v := 28) (by decide +kernel))
theorem dX6_gatherBehind_31 : decode cX6_gatherBehind 31 = .ok (.iload_n 3, 1) := dc_29 (byA eNcX6_gatherBehind (p := 31) (v := 29) (by decide +kernel))
theorem dX6_gatherBehind_32 : decode cX6_gatherBehind 32 = .ok (.iload 7, 2) := dc_21 (byA eNcX6_gatherBehind (p := 32) (v := 21) (by decide +kernel)) (byA eNcX6_gatherBehind (p := 33) (v := 7) (by decide +kernel))
theorem dX6_gatherBehind_34 : decode cX6_gatherBehind 34 = .ok (.iload 8, 2) := dc_21 (byA eNcX6_gatherBehind (p := 34) (v := 21) (by decide +kernel)) (byA eNcX6_gatherBehind (p := 35) (v := 8) (by decide +kernel))
theorem dX6_gatherBehind_36 : decode cX6_gatherBehind 36 = .ok (.invokevirtual 79, 3) := dc_182 (byA eNcX6_gatherBehind (p := 36) (v := 182) (by decide +kernel)) (byA eNcX6_gatherBehind (p := 37) (v := 0) (by decide +kernel)) (byA eNcX6_gatherBehind (p := 38) (v := 79) (by decide +kernel)) rfl
theorem dX6_gatherBehind_39 : decode cX6_gatherBehind 39 = .ok (.ifCond .eq 18, 3) := dc_153 (byA eNcX6_gatherBehind (p := 39) (v := 153) (by decide +kernel)) (byA eNcX6_gatherBehind (p := 40) (v := 0) (by decide +kernel)) (byA eNcX6_gatherBehind (p := 41) (v := 18) (by decide +kernel)) (by decide +kernel)
theorem dX6_gatherBehind_42 : decode cX6_gatherBehind 42 = .ok (.aload_n 0, 1) := dc_42 (byA eNcX6_gatherBehind (p := 42) (v := 42) (by decide +kernel))
theorem dX6_gatherBehind_43 : decode cX6_gatherBehind 43 = .ok (.iload_n 1, 1) := dc_27 (byA eNcX6_gatherBehind (p := 43) (v := 27) (by decide +kernel))
theorem dX6_gatherBehind_44 : decode cX6_gatherBehind 44 = .ok (.iconst 1, 1) := dc_4 (byA eNcX6_gatherBehind (p := 44) (v := 4) (by decide +kernel))
theorem dX6_gatherBehind_45 : decode cX6_gatherBehind 45 = .ok (.iadd, 1) := dc_96 (byA eNcX6_gatherBehind (p := 45) (v := 96) (by decide +kernel))
theorem dX6_gatherBehind_46 : decode cX6_gatherBehind 46 = .ok (.iload_n 2, 1) := dc_28 (byA eNcX6_gatherBehind (p := 46) (v := 28) (by decide +kernel))
theorem dX6_gatherBehind_47 : decode cX6_gatherBehind 47 = .ok (.iload_n 3, 1) := dc_29 (byA eNcX6_gatherBehind (p := 47) (v := 29) (by decide +kernel))
theorem dX6_gatherBehind_48 : decode cX6_gatherBehind 48 = .ok (.iload 7, 2) := dc_21 (byA eNcX6_gatherBehind (p := 48) (v := 21) (by decide +kernel)) (byA eNcX6_gatherBehind (p := 49) (v := 7) (by decide +kernel))
theorem dX6_gatherBehind_50 : decode cX6_gatherBehind 50 = .ok (.iload 8, 2) := dc_21 (byA eNcX6_gatherBehind (p := 50) (v := 21) (by decide +kernel)) (byA eNcX6_gatherBehind (p := 51) (v := 8) (by decide +kernel))
theorem dX6_gatherBehind_52 : decode cX6_gatherBehind 52 = .ok (.aload 6, 2) := dc_25 (byA eNcX6_gatherBehind (p := 52) (v := 25) (by decide +kernel)) (byA eNcX6_gatherBehind (p := 53) (v := 6) (by decide +kernel))
theorem dX6_gatherBehind_54 : decode cX6_gatherBehind 54 = .ok (.invokevirtual 92, 3) := dc_182 (byA eNcX6_gatherBehind (p := 54) (v := 182) (by decide +kernel)) (byA eNcX6_gatherBehind (p := 55) (v := 0) (by decide +kernel)) (byA eNcX6_gatherBehind (p := 56) (v := 92) (by decide +kernel)) rfl
theorem dX6_gatherBehind_57 : decode cX6_gatherBehind 57 = .ok (.return_, 1) := dc_177 (byA eNcX6_gatherBehind (p := 57) (v := 177) (by decide +kernel))
def X6_gatherBehind_o (rec : Int → Int → Int → Int → Int → Nat → Mm → Rs) (l1 : Int) (l2 : Int) (l3 : Int) (l4 : Int) (l5 : Int) (l6 : Nat) (μ : Mm) : Rs := mR μ 62 4 (11, 7) fun v1 => bd (X1_dones v1 l4 l3 μ) fun v3 μ4 => mR μ4 62 4 (11, 7) fun v6 => ldA μ4 (v6 + 2) l3 fun v8 => lt_ (iS (iA l5 v3) v8) fun v10 => bd (X6_isNew l2 l3 v3 v10 μ4) fun v11 μ12 => if v11 = 0 then (some (0, μ12)) else (bd (rec (iA l1 1) l2 l3 v3 v10 l6 μ12) fun v15 μ16 => some (0, μ16))
set_option maxHeartbeats 4000000 in
set_option maxRecDepth 100000 in
theorem kX6_gatherBehind (d : Nat) {d0 : Nat} (hd : d0 + 2 ≤ d) {rec : Int → Int → Int → Int → Int → Nat → Mm → Rs} (hrec : ∀ {q1 : Int} {q2 : Int} {q3 : Int} {q4 : Int} {q5 : Int} {q6 : Nat} {n : Nat} {μ1 : Mm} {r1 : Int} {μ2 : Mm}, kD q6 = (0, n) → rec q1 q2 q3 q4 q5 q6 μ1 = some (r1, μ2) → CC d0 mX6_gather [vR 62, vI q1, vI q2, vI q3, vI q4, vI q5, vR q6] μ1 r1 μ2) (hb : 5 ≤ d) {l1 : Int} {l2 : Int} {l3 : Int} {l4 : Int} {l5 : Int} {l6 : Nat} {n6 : Nat} (hk6 : kD l6 = (0, n6)) {μ : Mm} {r : Int} {μ' : Mm} (h : X6_gatherBehind_o rec l1 l2 l3 l4 l5 l6 μ = some (r, μ')) : CC d mX6_gatherBehind [vR 62, vI l1, vI l2, vI l3, vI l4, vI l5, vR l6] μ r μ' := by
  unfold X6_gatherBehind_o at h
  refine V_enter (by decide) (Nat.le_of_ble_eq_true rfl) ?_
  show VV d mX6_gatherBehind 0 [some (vR 62), some (vI l1), some (vI l2), some (vI l3), some (vI l4), some (vI l5), some (vR l6), none, none] [] μ r μ'
  refine V_aload_n (q := 1) dX6_gatherBehind_0 rfl rfl rfl ?_
  obtain ⟨hm2, h⟩ := mR_i h
  refine V_getM (q := 4) fl_X6_24 rfl rfl rfl dX6_gatherBehind_1 rfl ?_
  refine V_iload (q := 6) dX6_gatherBehind_4 rfl rfl ?_
  refine V_iload_n (q := 7) dX6_gatherBehind_6 rfl rfl rfl ?_
  obtain ⟨v3, μ4, hc5, h⟩ := bd_i h
  refine V_cV1 (q := 10) (v := vI v3) (kX1_dones (d - 1) (by omega) hm2 hc5) (by omega) mv_X6_69 hm2 rfl rfl rfl rfl rfl dX6_gatherBehind_7 rfl ?_
  refine V_istore (q := 12) dX6_gatherBehind_10 (Nat.le_of_ble_eq_true rfl) trivial rfl ?_
  refine V_iload (q := 14) dX6_gatherBehind_12 rfl rfl ?_
  refine V_iload (q := 16) dX6_gatherBehind_14 rfl rfl ?_
  refine V_iadd (q := 17) dX6_gatherBehind_16 rfl ?_
  refine V_aload_n (q := 18) dX6_gatherBehind_17 rfl rfl rfl ?_
  obtain ⟨hm7, h⟩ := mR_i h
  refine V_getM (q := 21) fl_X6_24 rfl rfl rfl dX6_gatherBehind_18 rfl ?_
  refine V_getO (q := 24) (t := _) fl_X6_73 hm7 rfl rfl rfl dX6_gatherBehind_21 rfl ?_
  refine V_iload_n (q := 25) dX6_gatherBehind_24 rfl rfl rfl ?_
  obtain ⟨hi9, h⟩ := ldA_i h
  refine V_iaload (q := 26) (kdo_1_2 hm7) hi9 dX6_gatherBehind_25 rfl ?_
  refine V_isub (q := 27) dX6_gatherBehind_26 rfl ?_
  have h := lt_i h
  refine V_istore (q := 29) dX6_gatherBehind_27 (Nat.le_of_ble_eq_true rfl) trivial rfl ?_
  refine V_aload_n (q := 30) dX6_gatherBehind_29 rfl rfl rfl ?_
  refine V_iload_n (q := 31) dX6_gatherBehind_30 rfl rfl rfl ?_
  refine V_iload_n (q := 32) dX6_gatherBehind_31 rfl rfl rfl ?_
  refine V_iload (q := 34) dX6_gatherBehind_32 rfl rfl ?_
  refine V_iload (q := 36) dX6_gatherBehind_34 rfl rfl ?_
  obtain ⟨v11, μ12, hc13, h⟩ := bd_i h
  refine V_cV1 (q := 39) (v := vI v11) (kX6_isNew (d - 1) (by omega) hc13) (by omega) mv_X6_79 rfl rfl rfl rfl rfl rfl dX6_gatherBehind_36 rfl ?_
  refine V_ifeq (q := 57) (q2 := 42) dX6_gatherBehind_39 (by decide) rfl (fun hc14 => ?_) (fun hc14 => ?_)
  · have h := ifT hc14 h
    exact V_vret rfl h dX6_gatherBehind_57
  · have h := ifF hc14 h
    refine V_aload_n (q := 43) dX6_gatherBehind_42 rfl rfl rfl ?_
    refine V_iload_n (q := 44) dX6_gatherBehind_43 rfl rfl rfl ?_
    refine V_iconst (q := 45) dX6_gatherBehind_44 rfl rfl ?_
    refine V_iadd (q := 46) dX6_gatherBehind_45 rfl ?_
    refine V_iload_n (q := 47) dX6_gatherBehind_46 rfl rfl rfl ?_
    refine V_iload_n (q := 48) dX6_gatherBehind_47 rfl rfl rfl ?_
    refine V_iload (q := 50) dX6_gatherBehind_48 rfl rfl ?_
    refine V_iload (q := 52) dX6_gatherBehind_50 rfl rfl ?_
    refine V_aload (q := 54) dX6_gatherBehind_52 rfl rfl ?_
    obtain ⟨v15, μ16, hc17, h⟩ := bd_i h
    refine V_cV0 (q := 57) (hrec hk6 hc17) (by omega) mv_X6_92 rfl rfl rfl rfl rfl rfl dX6_gatherBehind_54 rfl ?_
    exact V_vret rfl h dX6_gatherBehind_57
theorem dX6_gather_0 : decode cX6_gather 0 = .ok (.iload_n 2, 1) := dc_28 (byA eNcX6_gather (p := 0) (v := 28) (by decide +kernel))
theorem dX6_gather_1 : decode cX6_gather 1 = .ok (.ifCond .lt 21, 3) := dc_155 (byA eNcX6_gather (p := 1) (v := 155) (by decide +kernel)) (byA eNcX6_gather (p := 2) (v := 0) (by decide +kernel)) (byA eNcX6_gather (p := 3) (v := 21) (by decide +kernel)) (by decide +kernel)
theorem dX6_gather_4 : decode cX6_gather 4 = .ok (.iload_n 2, 1) := dc_28 (byA eNcX6_gather (p := 4) (v := 28) (by decide +kernel))
theorem dX6_gather_5 : decode cX6_gather 5 = .ok (.aload 6, 2) := dc_25 (byA eNcX6_gather (p := 5) (v := 25) (by decide +kernel)) (byA eNcX6_gather (p := 6) (v := 6) (by decide +kernel))
theorem dX6_gather_7 : decode cX6_gather 7 = .ok (.arraylength, 1) := dc_190 (byA eNcX6_gather (p := 7) (v := 190) (by decide +kernel))
theorem dX6_gather_8 : decode cX6_gather 8 = .ok (.if_icmp .ge 14, 3) := dc_162 (byA eNcX6_gather (p := 8) (v := 162) (by decide +kernel)) (byA eNcX6_gather (p := 9) (v := 0) (by decide +kernel)) (byA eNcX6_gather (p := 10) (v := 14) (by decide +kernel)) (by decide +kernel)
theorem dX6_gather_11 : decode cX6_gather 11 = .ok (.iload_n 1, 1) := dc_27 (byA eNcX6_gather (p := 11) (v := 27) (by decide +kernel))
theorem dX6_gather_12 : decode cX6_gather 12 = .ok (.aload_n 0, 1) := dc_42 (byA eNcX6_gather (p := 12) (v := 42) (by decide +kernel))
theorem dX6_gather_13 : decode cX6_gather 13 = .ok (.getfield 24, 3) := dc_180 (byA eNcX6_gather (p := 13) (v := 180) (by decide +kernel)) (byA eNcX6_gather (p := 14) (v := 0) (by decide +kernel)) (byA eNcX6_gather (p := 15) (v := 24) (by decide +kernel)) rfl
theorem dX6_gather_16 : decode cX6_gather 16 = .ok (.getfield 59, 3) := dc_180 (byA eNcX6_gather (p := 16) (v := 180) (by decide +kernel)) (byA eNcX6_gather (p := 17) (v := 0) (by decide +kernel)) (byA eNcX6_gather (p := 18) (v := 59) (by decide +kernel)) rfl
theorem dX6_gather_19 : decode cX6_gather 19 = .ok (.if_icmp .le 4, 3) := dc_164 (byA eNcX6_gather (p := 19) (v := 164) (by decide +kernel)) (byA eNcX6_gather (p := 20) (v := 0) (by decide +kernel)) (byA eNcX6_gather (p := 21) (v := 4) (by decide +kernel)) (by decide +kernel)
theorem dX6_gather_22 : decode cX6_gather 22 = .ok (.return_, 1) := dc_177 (byA eNcX6_gather (p := 22) (v := 177) (by decide +kernel))
theorem dX6_gather_23 : decode cX6_gather 23 = .ok (.aload 6, 2) := dc_25 (byA eNcX6_gather (p := 23) (v := 25) (by decide +kernel)) (byA eNcX6_gather (p := 24) (v := 6) (by decide +kernel))
theorem dX6_gather_25 : decode cX6_gather 25 = .ok (.iload_n 2, 1) := dc_28 (byA eNcX6_gather (p := 25) (v := 28) (by decide +kernel))
theorem dX6_gather_26 : decode cX6_gather 26 = .ok (.aload 6, 2) := dc_25 (byA eNcX6_gather (p := 26) (v := 25) (by decide +kernel)) (byA eNcX6_gather (p := 27) (v := 6) (by decide +kernel))
theorem dX6_gather_28 : decode cX6_gather 28 = .ok (.iload_n 2, 1) := dc_28 (byA eNcX6_gather (p := 28) (v := 28) (by decide +kernel))
theorem dX6_gather_29 : decode cX6_gather 29 = .ok (.iaload, 1) := dc_46 (byA eNcX6_gather (p := 29) (v := 46) (by decide +kernel))
theorem dX6_gather_30 : decode cX6_gather 30 = .ok (.iload 5, 2) := dc_21 (byA eNcX6_gather (p := 30) (v := 21) (by decide +kernel)) (byA eNcX6_gather (p := 31) (v := 5) (by decide +kernel))
theorem dX6_gather_32 : decode cX6_gather 32 = .ok (.invokestatic 96, 3) := dc_184 (byA eNcX6_gather (p := 32) (v := 184) (by decide +kernel)) (byA eNcX6_gather (p := 33) (v := 0) (by decide +kernel)) (byA eNcX6_gather (p := 34) (v := 96) (by decide +kernel)) rfl
theorem dX6_gather_35 : decode cX6_gather 35 = .ok (.iastore, 1) := dc_79 (byA eNcX6_gather (p := 35) (v := 79) (by decide +kernel))
theorem dX6_gather_36 : decode cX6_gather 36 = .ok (.iconst 0, 1) := dc_3 (byA eNcX6_gather (p := 36) (v := 3) (by decide +kernel))
theorem dX6_gather_37 : decode cX6_gather 37 = .ok (.istore 7, 2) := dc_54 (byA eNcX6_gather (p := 37) (v := 54) (by decide +kernel)) (byA eNcX6_gather (p := 38) (v := 7) (by decide +kernel))
theorem dX6_gather_39 : decode cX6_gather 39 = .ok (.iload 7, 2) := dc_21 (byA eNcX6_gather (p := 39) (v := 21) (by decide +kernel)) (byA eNcX6_gather (p := 40) (v := 7) (by decide +kernel))
theorem dX6_gather_41 : decode cX6_gather 41 = .ok (.aload_n 0, 1) := dc_42 (byA eNcX6_gather (p := 41) (v := 42) (by decide +kernel))
theorem dX6_gather_42 : decode cX6_gather 42 = .ok (.getfield 24, 3) := dc_180 (byA eNcX6_gather (p := 42) (v := 180) (by decide +kernel)) (byA eNcX6_gather (p := 43) (v := 0) (by decide +kernel)) (byA eNcX6_gather (p := 44) (v := 24) (by decide +kernel)) rfl
theorem dX6_gather_45 : decode cX6_gather 45 = .ok (.getfield 59, 3) := dc_180 (byA eNcX6_gather (p := 45) (v := 180) (by decide +kernel)) (byA eNcX6_gather (p := 46) (v := 0) (by decide +kernel)) (byA eNcX6_gather (p := 47) (v := 59) (by decide +kernel)) rfl
theorem dX6_gather_48 : decode cX6_gather 48 = .ok (.if_icmp .ge 62, 3) := dc_162 (byA eNcX6_gather (p := 48) (v := 162) (by decide +kernel)) (byA eNcX6_gather (p := 49) (v := 0) (by decide +kernel)) (byA eNcX6_gather (p := 50) (v := 62) (by decide +kernel)) (by decide +kernel)
theorem dX6_gather_51 : decode cX6_gather 51 = .ok (.iload_n 2, 1) := dc_28 (byA eNcX6_gather (p := 51) (v := 28) (by decide +kernel))
theorem dX6_gather_52 : decode cX6_gather 52 = .ok (.iload 7, 2) := dc_21 (byA eNcX6_gather (p := 52) (v := 21) (by decide +kernel)) (byA eNcX6_gather (p := 53) (v := 7) (by decide +kernel))
theorem dX6_gather_54 : decode cX6_gather 54 = .ok (.ishr, 1) := dc_122 (byA eNcX6_gather (p := 54) (v := 122) (by decide +kernel))
theorem dX6_gather_55 : decode cX6_gather 55 = .ok (.iconst 1, 1) := dc_4 (byA eNcX6_gather (p := 55) (v := 4) (by decide +kernel))
theorem dX6_gather_56 : decode cX6_gather 56 = .ok (.iand, 1) := dc_126 (byA eNcX6_gather (p := 56) (v := 126) (by decide +kernel))
theorem dX6_gather_57 : decode cX6_gather 57 = .ok (.iconst 1, 1) := dc_4 (byA eNcX6_gather (p := 57) (v := 4) (by decide +kernel))
theorem dX6_gather_58 : decode cX6_gather 58 = .ok (.if_icmp .ne 7, 3) := dc_160 (byA eNcX6_gather (p := 58) (v := 160) (by decide +kernel)) (byA eNcX6_gather (p := 59) (v := 0) (by decide +kernel)) (byA eNcX6_gather (p := 60) (v := 7) (by decide +kernel)) (by decide +kernel)
theorem dX6_gather_61 : decode cX6_gather 61 = .ok (.iconst (-1), 1) := dc_2 (byA eNcX6_gather (p := 61) (v := 2) (by decide +kernel))
theorem dX6_gather_62 : decode cX6_gather 62 = .ok (.goto 15, 3) := dc_167 (byA eNcX6_gather (p := 62) (v := 167) (by decide +kernel)) (byA eNcX6_gather (p := 63) (v := 0) (by decide +kernel)) (byA eNcX6_gather (p := 64) (v := 15) (by decide +kernel)) (by decide +kernel)
theorem dX6_gather_65 : decode cX6_gather 65 = .ok (.aload_n 0, 1) := dc_42 (byA eNcX6_gather (p := 65) (v := 42) (by decide +kernel))
theorem dX6_gather_66 : decode cX6_gather 66 = .ok (.getfield 24, 3) := dc_180 (byA eNcX6_gather (p := 66) (v := 180) (by decide +kernel)) (byA eNcX6_gather (p := 67) (v := 0) (by decide +kernel)) (byA eNcX6_gather (p := 68) (v := 24) (by decide +kernel)) rfl
theorem dX6_gather_69 : decode cX6_gather 69 = .ok (.iload 4, 2) := dc_21 (byA eNcX6_gather (p := 69) (v := 21) (by decide +kernel)) (byA eNcX6_gather (p := 70) (v := 4) (by decide +kernel))
theorem dX6_gather_71 : decode cX6_gather 71 = .ok (.iload_n 3, 1) := dc_29 (byA eNcX6_gather (p := 71) (v := 29) (by decide +kernel))
theorem dX6_gather_72 : decode cX6_gather 72 = .ok (.iload 7, 2) := dc_21 (byA eNcX6_gather (p := 72) (v := 21) (by decide +kernel)) (byA eNcX6_gather (p := 73) (v := 7) (by decide +kernel))
theorem dX6_gather_74 : decode cX6_gather 74 = .ok (.invokevirtual 62, 3) := dc_182 (byA eNcX6_gather (p := 74) (v := 182) (by decide +kernel)) (byA eNcX6_gather (p := 75) (v := 0) (by decide +kernel)) (byA eNcX6_gather (p := 76) (v := 62) (by decide +kernel)) rfl
theorem dX6_gather_77 : decode cX6_gather 77 = .ok (.istore 8, 2) := dc_54 (byA eNcX6_gather (p := 77) (v := 54) (by decide +kernel)) (byA eNcX6_gather (p := 78) (v := 8) (by decide +kernel))
theorem dX6_gather_79 : decode cX6_gather 79 = .ok (.iload 8, 2) := dc_21 (byA eNcX6_gather (p := 79) (v := 21) (by decide +kernel)) (byA eNcX6_gather (p := 80) (v := 8) (by decide +kernel))
theorem dX6_gather_81 : decode cX6_gather 81 = .ok (.iconst (-1), 1) := dc_2 (byA eNcX6_gather (p := 81) (v := 2) (by decide +kernel))
theorem dX6_gather_82 : decode cX6_gather 82 = .ok (.if_icmp .eq 22, 3) := dc_159 (byA eNcX6_gather (p := 82) (v := 159) (by decide +kernel)) (byA eNcX6_gather (p := 83) (v := 0) (by decide +kernel)) (byA eNcX6_gather (p := 84) (v := 22) (by decide +kernel)) (by decide +kernel)
theorem dX6_gather_85 : decode cX6_gather 85 = .ok (.aload_n 0, 1) := dc_42 (byA eNcX6_gather (p := 85) (v := 42) (by decide +kernel))
theorem dX6_gather_86 : decode cX6_gather 86 = .ok (.iload_n 1, 1) := dc_27 (byA eNcX6_gather (p := 86) (v := 27) (by decide +kernel))
theorem dX6_gather_87 : decode cX6_gather 87 = .ok (.iload_n 2, 1) := dc_28 (byA eNcX6_gather (p := 87) (v := 28) (by decide +kernel))
theorem dX6_gather_88 : decode cX6_gather 88 = .ok (.iconst 1, 1) := dc_4 (byA eNcX6_gather (p := 88) (v := 4) (by decide +kernel))
theorem dX6_gather_89 : decode cX6_gather 89 = .ok (.iload 7, 2) := dc_21 (byA eNcX6_gather (p := 89) (v := 21) (by decide +kernel)) (byA eNcX6_gather (p := 90) (v := 7) (by decide +kernel))
theorem dX6_gather_91 : decode cX6_gather 91 = .ok (.ishl, 1) := dc_120 (byA eNcX6_gather (p := 91) (v := 120) (by decide +kernel))
theorem dX6_gather_92 : decode cX6_gather 92 = .ok (.ior, 1) := dc_128 (byA eNcX6_gather (p := 92) (v := 128) (by decide +kernel))
theorem dX6_gather_93 : decode cX6_gather 93 = .ok (.iload 7, 2) := dc_21 (byA eNcX6_gather (p := 93) (v := 21) (by decide +kernel)) (byA eNcX6_gather (p := 94) (v := 7) (by decide +kernel))
theorem dX6_gather_95 : decode cX6_gather 95 = .ok (.iload 8, 2) := dc_21 (byA eNcX6_gather (p := 95) (v := 21) (by decide +kernel)) (byA eNcX6_gather (p := 96) (v := 8) (by decide +kernel))
theorem dX6_gather_97 : decode cX6_gather 97 = .ok (.iload 5, 2) := dc_21 (byA eNcX6_gather (p := 97) (v := 21) (by decide +kernel)) (byA eNcX6_gather (p := 98) (v := 5) (by decide +kernel))
theorem dX6_gather_99 : decode cX6_gather 99 = .ok (.aload 6, 2) := dc_25 (byA eNcX6_gather (p := 99) (v := 25) (by decide +kernel)) (byA eNcX6_gather (p := 100) (v := 6) (by decide +kernel))
theorem dX6_gather_101 : decode cX6_gather 101 = .ok (.invokevirtual 99, 3) := dc_182 (byA eNcX6_gather (p := 101) (v := 182) (by decide +kernel)) (byA eNcX6_gather (p := 102) (v := 0) (by decide +kernel)) (byA eNcX6_gather (p := 103) (v := 99) (by decide +kernel)) rfl
theorem dX6_gather_104 : decode cX6_gather 104 = .ok (.iinc 7 1, 3) := dc_132 (byA eNcX6_gather (p := 104) (v := 132) (by decide +kernel)) (byA eNcX6_gather (p := 105) (v := 7) (by decide +kernel)) (byA eNcX6_gather (p := 106) (v := 1) (by decide +kernel)) (by decide +kernel)
theorem dX6_gather_107 : decode cX6_gather 107 = .ok (.goto (-68), 3) := dc_167 (byA eNcX6_gather (p := 107) (v := 167) (by decide +kernel)) (byA eNcX6_gather (p := 108) (v := 255) (by decide +kernel)) (byA eNcX6_gather (p := 109) (v := 188) (by decide +kernel)) (by decide +kernel)
theorem dX6_gather_110 : decode cX6_gather 110 = .ok (.return_, 1) := dc_177 (byA eNcX6_gather (p := 110) (v := 177) (by decide +kernel))
def X6_gather_J77 (rec : Int → Int → Int → Int → Int → Nat → Mm → Rs) (k39 : Int → Mm → Rs) (l1 : Int) (l2 : Int) (l3 : Int) (l4 : Int) (l5 : Int) (l6 : Nat) (l7 : Int) (s0 : Int) (μ : Mm) : Rs := if s0 = (-1) then (k39 (iA l7 1) μ) else (bd (X6_gatherBehind_o rec l1 (bO l2 (bL 1 l7)) l7 s0 l5 l6 μ) fun v20 μ21 => k39 (iA l7 1) μ21)
def X6_gather_L39 (rec : Int → Int → Int → Int → Int → Nat → Mm → Rs) (l1 : Int) (l2 : Int) (l3 : Int) (l4 : Int) (l5 : Int) (l6 : Nat) : Nat → Int → Mm → Rs
  | 0, _, _ => none
  | n + 1, l7, μ => mR μ 62 4 (11, 7) fun v10 => if (μ v10 5) ≤ l7 then (some (0, μ)) else (if (bA (bR l2 l7) 1) = 1 then (X6_gather_J77 rec (fun w7 μq => X6_gather_L39 rec l1 l2 l3 l4 l5 l6 n w7 μq) l1 l2 l3 l4 l5 l6 l7 (-1) μ) else (mR μ 62 4 (11, 7) fun v14 => bd (X1_comes v14 l4 l3 l7 μ) fun v16 μ17 => X6_gather_J77 rec (fun w7 μq => X6_gather_L39 rec l1 l2 l3 l4 l5 l6 n w7 μq) l1 l2 l3 l4 l5 l6 l7 v16 μ17))
def X6_gather : Nat → Int → Int → Int → Int → Int → Nat → Mm → Rs
  | 0, _, _, _, _, _, _, _ => none
  | n + 1, l1, l2, l3, l4, l5, l6, μ => if l2 < 0 then (some (0, μ)) else (if ((aN l6 : Nat) : Int) ≤ l2 then (some (0, μ)) else (mR μ 62 4 (11, 7) fun v3 => if l1 ≤ (μ v3 5) then (ldA μ l6 l2 fun v6 => stA μ l6 l2 (mN v6 l5) fun μ8 => X6_gather_L39 (fun w0 w1 w2 w3 w4 w5 μq => X6_gather n w0 w1 w2 w3 w4 w5 μq) l1 l2 l3 l4 l5 l6 FU 0 μ8) else (some (0, μ))))
set_option maxHeartbeats 4000000 in
set_option maxRecDepth 100000 in
theorem kX6_gather_J77 (d : Nat) {d0 : Nat} (hd : d0 + 9 ≤ d) (hb : 12 ≤ d) {rec : Int → Int → Int → Int → Int → Nat → Mm → Rs} (hrec : ∀ {q1 : Int} {q2 : Int} {q3 : Int} {q4 : Int} {q5 : Int} {q6 : Nat} {n : Nat} {μ1 : Mm} {r1 : Int} {μ2 : Mm}, kD q6 = (0, n) → rec q1 q2 q3 q4 q5 q6 μ1 = some (r1, μ2) → CC d0 mX6_gather [vR 62, vI q1, vI q2, vI q3, vI q4, vI q5, vR q6] μ1 r1 μ2) {k39 : Int → Mm → Rs} {l1 : Int} {l2 : Int} {l3 : Int} {l4 : Int} {l5 : Int} {l6 : Nat} {l7 : Int} {s0 : Int} {n6 : Nat} (hk6 : kD l6 = (0, n6)) {μ : Mm} {r : Int} {μ' : Mm} (hk_39 : ∀ (v7 : Int) (μ1 : Mm), k39 v7 μ1 = some (r, μ') → VV d mX6_gather 39 [some (vR 62), some (vI l1), some (vI l2), some (vI l3), some (vI l4), some (vI l5), some (vR l6), some (vI v7), none] [] μ1 r μ') (h : X6_gather_J77 rec k39 l1 l2 l3 l4 l5 l6 l7 s0 μ = some (r, μ')) : VV d mX6_gather 77 [some (vR 62), some (vI l1), some (vI l2), some (vI l3), some (vI l4), some (vI l5), some (vR l6), some (vI l7), none] [vI s0] μ r μ' := by
  unfold X6_gather_J77 at h
  refine V_istore (q := 79) dX6_gather_77 (Nat.le_of_ble_eq_true rfl) trivial rfl ?_
  refine V_iload (q := 81) dX6_gather_79 rfl rfl ?_
  refine V_iconst (q := 82) dX6_gather_81 rfl rfl ?_
  refine V_icmpeq (q := 104) (q2 := 85) dX6_gather_82 (by decide) rfl (fun hc19 => ?_) (fun hc19 => ?_)
  · have h := ifT hc19 h
    refine V_iinc (q := 107) dX6_gather_104 rfl (Nat.le_of_ble_eq_true rfl) trivial rfl ?_
    refine V_goto (q := 39) dX6_gather_107 (by decide) ?_
    exact V_weak (hk_39 _ _ h) (sb_s rfl (sb_s rfl (sb_s rfl (sb_s rfl (sb_s rfl (sb_s rfl (sb_s rfl (sb_s rfl (sb_n sb_0)))))))))
  · have h := ifF hc19 h
    refine V_aload_n (q := 86) dX6_gather_85 rfl rfl rfl ?_
    refine V_iload_n (q := 87) dX6_gather_86 rfl rfl rfl ?_
    refine V_iload_n (q := 88) dX6_gather_87 rfl rfl rfl ?_
    refine V_iconst (q := 89) dX6_gather_88 rfl rfl ?_
    refine V_iload (q := 91) dX6_gather_89 rfl rfl ?_
    refine V_ishl (q := 92) dX6_gather_91 rfl ?_
    refine V_ior (q := 93) dX6_gather_92 rfl ?_
    refine V_iload (q := 95) dX6_gather_93 rfl rfl ?_
    refine V_iload (q := 97) dX6_gather_95 rfl rfl ?_
    refine V_iload (q := 99) dX6_gather_97 rfl rfl ?_
    refine V_aload (q := 101) dX6_gather_99 rfl rfl ?_
    obtain ⟨v20, μ21, hc22, h⟩ := bd_i h
    refine V_cV0 (q := 104) (kX6_gatherBehind (d - 1) (by omega) hrec (by omega) hk6 hc22) (by omega) mv_X6_99 rfl rfl rfl rfl rfl rfl dX6_gather_101 rfl ?_
    refine V_iinc (q := 107) dX6_gather_104 rfl (Nat.le_of_ble_eq_true rfl) trivial rfl ?_
    refine V_goto (q := 39) dX6_gather_107 (by decide) ?_
    exact V_weak (hk_39 _ _ h) (sb_s rfl (sb_s rfl (sb_s rfl (sb_s rfl (sb_s rfl (sb_s rfl (sb_s rfl (sb_s rfl (sb_n sb_0)))))))))
set_option maxHeartbeats 4000000 in
set_option maxRecDepth 100000 in
theorem kX6_gather_L39 (d : Nat) {d0 : Nat} (hd : d0 + 9 ≤ d) (hb : 12 ≤ d) {rec : Int → Int → Int → Int → Int → Nat → Mm → Rs} (hrec : ∀ {q1 : Int} {q2 : Int} {q3 : Int} {q4 : Int} {q5 : Int} {q6 : Nat} {n : Nat} {μ1 : Mm} {r1 : Int} {μ2 : Mm}, kD q6 = (0, n) → rec q1 q2 q3 q4 q5 q6 μ1 = some (r1, μ2) → CC d0 mX6_gather [vR 62, vI q1, vI q2, vI q3, vI q4, vI q5, vR q6] μ1 r1 μ2) {l1 : Int} {l2 : Int} {l3 : Int} {l4 : Int} {l5 : Int} {l6 : Nat} {n6 : Nat} (hk6 : kD l6 = (0, n6)) {r : Int} {μ' : Mm} : ∀ (n : Nat) {l7 : Int} {μ : Mm}, X6_gather_L39 rec l1 l2 l3 l4 l5 l6 n l7 μ = some (r, μ') → VV d mX6_gather 39 [some (vR 62), some (vI l1), some (vI l2), some (vI l3), some (vI l4), some (vI l5), some (vR l6), some (vI l7), none] [] μ r μ' := by
  intro n
  induction n with
  | zero => intro l7 μ h; rw [X6_gather_L39] at h; cases h
  | succ n ih =>
    intro l7 μ h
    rw [X6_gather_L39] at h
    refine V_iload (q := 41) dX6_gather_39 rfl rfl ?_
    refine V_aload_n (q := 42) dX6_gather_41 rfl rfl rfl ?_
    obtain ⟨hm11, h⟩ := mR_i h
    refine V_getM (q := 45) fl_X6_24 rfl rfl rfl dX6_gather_42 rfl ?_
    refine V_getI (q := 48) fl_X6_59 hm11 rfl rfl dX6_gather_45 rfl ?_
    refine V_icmpge (q := 110) (q2 := 51) dX6_gather_48 (by decide) rfl (fun hc12 => ?_) (fun hc12 => ?_)
    · have h := ifT hc12 h
      exact V_vret rfl h dX6_gather_110
    · have h := ifF hc12 h
      refine V_iload_n (q := 52) dX6_gather_51 rfl rfl rfl ?_
      refine V_iload (q := 54) dX6_gather_52 rfl rfl ?_
      refine V_ishr (q := 55) dX6_gather_54 rfl ?_
      refine V_iconst (q := 56) dX6_gather_55 rfl rfl ?_
      refine V_iand (q := 57) dX6_gather_56 rfl ?_
      refine V_iconst (q := 58) dX6_gather_57 rfl rfl ?_
      refine V_icmpne (q := 65) (q2 := 61) dX6_gather_58 (by decide) rfl (fun hc13 => ?_) (fun hc13 => ?_)
      · have h := ifF hc13 h
        refine V_aload_n (q := 66) dX6_gather_65 rfl rfl rfl ?_
        obtain ⟨hm15, h⟩ := mR_i h
        refine V_getM (q := 69) fl_X6_24 rfl rfl rfl dX6_gather_66 rfl ?_
        refine V_iload (q := 71) dX6_gather_69 rfl rfl ?_
        refine V_iload_n (q := 72) dX6_gather_71 rfl rfl rfl ?_
        refine V_iload (q := 74) dX6_gather_72 rfl rfl ?_
        obtain ⟨v16, μ17, hc18, h⟩ := bd_i h
        refine V_cV1 (q := 77) (v := vI v16) (kX1_comes (d - 1) (by omega) hm15 hc18) (by omega) mv_X6_62 hm15 rfl rfl rfl rfl rfl dX6_gather_74 rfl ?_
        exact V_weak (kX6_gather_J77 d hd hb hrec hk6 (fun _ _ h => ih h) h) (sb_s rfl (sb_s rfl (sb_s rfl (sb_s rfl (sb_s rfl (sb_s rfl (sb_s rfl (sb_s rfl (sb_n sb_0)))))))))
      · have h := ifT hc13 h
        refine V_iconst (q := 62) dX6_gather_61 rfl rfl ?_
        refine V_goto (q := 77) dX6_gather_62 (by decide) ?_
        exact V_weak (kX6_gather_J77 d hd hb hrec hk6 (fun _ _ h => ih h) h) (sb_s rfl (sb_s rfl (sb_s rfl (sb_s rfl (sb_s rfl (sb_s rfl (sb_s rfl (sb_s rfl (sb_n sb_0)))))))))
set_option maxHeartbeats 4000000 in
set_option maxRecDepth 100000 in
theorem kX6_gather : ∀ (n d : Nat) (hd : 10 * n + 13 ≤ d) {l1 : Int} {l2 : Int} {l3 : Int} {l4 : Int} {l5 : Int} {l6 : Nat} {n6 : Nat} (hk6 : kD l6 = (0, n6)) {μ : Mm} {r : Int} {μ' : Mm} (h : X6_gather n l1 l2 l3 l4 l5 l6 μ = some (r, μ')), CC d mX6_gather [vR 62, vI l1, vI l2, vI l3, vI l4, vI l5, vR l6] μ r μ' := by
  intro n
  induction n with
  | zero => intro d hd l1 l2 l3 l4 l5 l6 n6 hk6 μ r μ' h; rw [X6_gather] at h; cases h
  | succ n ih =>
    intro d hd l1 l2 l3 l4 l5 l6 n6 hk6 μ r μ' h
    have hb : 12 ≤ d := by omega
    obtain ⟨d0, hd0⟩ : ∃ z, z = 10 * n + 13 := ⟨_, rfl⟩
    have hd : d0 + 10 ≤ d := by omega
    have hrec : ∀ {q1 : Int} {q2 : Int} {q3 : Int} {q4 : Int} {q5 : Int} {q6 : Nat} {nn : Nat} {μ1 : Mm} {r1 : Int} {μ2 : Mm}, kD q6 = (0, nn) → ((fun w0 w1 w2 w3 w4 w5 μq => X6_gather n w0 w1 w2 w3 w4 w5 μq)) q1 q2 q3 q4 q5 q6 μ1 = some (r1, μ2) → CC d0 mX6_gather [vR 62, vI q1, vI q2, vI q3, vI q4, vI q5, vR q6] μ1 r1 μ2 := fun hq h1 => ih d0 (by omega) hq h1
    rw [X6_gather] at h
    refine V_enter (by decide) (Nat.le_of_ble_eq_true rfl) ?_
    show VV d mX6_gather 0 [some (vR 62), some (vI l1), some (vI l2), some (vI l3), some (vI l4), some (vI l5), some (vR l6), none, none] [] μ r μ'
    refine V_iload_n (q := 1) dX6_gather_0 rfl rfl rfl ?_
    refine V_iflt (q := 22) (q2 := 4) dX6_gather_1 (by decide) rfl (fun hc1 => ?_) (fun hc1 => ?_)
    · have h := ifT hc1 h
      exact V_vret rfl h dX6_gather_22
    · have h := ifF hc1 h
      refine V_iload_n (q := 5) dX6_gather_4 rfl rfl rfl ?_
      refine V_aload (q := 7) dX6_gather_5 rfl rfl ?_
      refine V_alen (q := 8) hk6 dX6_gather_7 rfl ?_
      refine V_icmpge (q := 22) (q2 := 11) dX6_gather_8 (by decide) rfl (fun hc2 => ?_) (fun hc2 => ?_)
      · have h := ifT hc2 h
        exact V_vret rfl h dX6_gather_22
      · have h := ifF hc2 h
        refine V_iload_n (q := 12) dX6_gather_11 rfl rfl rfl ?_
        refine V_aload_n (q := 13) dX6_gather_12 rfl rfl rfl ?_
        obtain ⟨hm4, h⟩ := mR_i h
        refine V_getM (q := 16) fl_X6_24 rfl rfl rfl dX6_gather_13 rfl ?_
        refine V_getI (q := 19) fl_X6_59 hm4 rfl rfl dX6_gather_16 rfl ?_
        refine V_icmple (q := 23) (q2 := 22) dX6_gather_19 (by decide) rfl (fun hc5 => ?_) (fun hc5 => ?_)
        · have h := ifT hc5 h
          refine V_aload (q := 25) dX6_gather_23 rfl rfl ?_
          refine V_iload_n (q := 26) dX6_gather_25 rfl rfl rfl ?_
          refine V_aload (q := 28) dX6_gather_26 rfl rfl ?_
          refine V_iload_n (q := 29) dX6_gather_28 rfl rfl rfl ?_
          obtain ⟨hi7, h⟩ := ldA_i h
          refine V_iaload (q := 30) hk6 hi7 dX6_gather_29 rfl ?_
          refine V_iload (q := 32) dX6_gather_30 rfl rfl ?_
          refine V_mmin (q := 35) mx_X6_96 (by omega) rfl dX6_gather_32 rfl ?_
          obtain ⟨hi9, h⟩ := stA_i h
          refine V_iastore (q := 36) hk6 hi9 dX6_gather_35 rfl ?_
          refine V_iconst (q := 37) dX6_gather_36 rfl rfl ?_
          refine V_istore (q := 39) dX6_gather_37 (Nat.le_of_ble_eq_true rfl) trivial rfl ?_
          exact V_weak (kX6_gather_L39 d (by omega) hb hrec hk6  FU h) (sb_s rfl (sb_s rfl (sb_s rfl (sb_s rfl (sb_s rfl (sb_s rfl (sb_s rfl (sb_s rfl (sb_n sb_0)))))))))
        · have h := ifF hc5 h
          exact V_vret rfl h dX6_gather_22
theorem kX6_gatherBehind_c (d : Nat) (hd : 135 ≤ d) {l1 : Int} {l2 : Int} {l3 : Int} {l4 : Int} {l5 : Int} {l6 : Nat} {n6 : Nat} (hk6 : kD l6 = (0, n6)) {μ : Mm} {r : Int} {μ' : Mm} (h : X6_gatherBehind_o (X6_gather RD) l1 l2 l3 l4 l5 l6 μ = some (r, μ')) : CC d mX6_gatherBehind [vR 62, vI l1, vI l2, vI l3, vI l4, vI l5, vR l6] μ r μ' := kX6_gatherBehind (d0 := 10 * RD + 13) d (by unfold RD; omega) (fun hq h1 => kX6_gather RD _ (Nat.le_refl _) hq h1) (by omega) hk6 h
abbrev mX6_weigh : Mth := (yX6_weigh, cX6_weigh, 4, none)
set_option maxRecDepth 100000 in
theorem mi_X6_weigh : Cond.instanceMethod yX6_weigh ∈ tG ∧ Cond.selects yX6_weigh.cls yX6_weigh yX6_weigh ∈ tG ∧ Cond.initialized yX6_weigh.cls ∈ tG ∧ Cond.code yX6_weigh cX6_weigh 4 (none) ∈ tG ∧ (yX6_weigh.cls ≠ "java/lang/invoke/MethodHandle" ∧ yX6_weigh.cls ≠ "java/lang/invoke/VarHandle" ∧ (parseMethodDescriptor yX6_weigh.desc).map (fun d => d.parameters.length) = some 2) ∧ 4 ≤ 60 := ⟨(tG_of (tb5 (List.mem_of_getElem? (i := 17) rfl)) (by decide +kernel)), (tG_of (List.mem_of_getElem? (i := 43) (by decide +kernel)) (by decide +kernel)), (tG_of (tb1 (List.mem_of_getElem? (i := 10) rfl)) (by decide +kernel)), (tG_of (tb5 (List.mem_of_getElem? (i := 18) rfl)) (by decide +kernel)), ⟨by decide, by decide, by decide +kernel⟩, by decide⟩
set_option maxRecDepth 100000 in
theorem mv_X6_88 : mV RX6 88 mX6_weigh 2 := ⟨(tG_of (tb5 (List.mem_of_getElem? (i := 15) rfl)) (by decide +kernel)), mi_X6_weigh⟩
theorem dX6_weigh_0 : decode cX6_weigh 0 = .ok (.aload_n 0, 1) := dc_42 (byA eNcX6_weigh (p := 0) (v := 42) (by decide +kernel))
theorem dX6_weigh_1 : decode cX6_weigh 1 = .ok (.aload_n 1, 1) := dc_43 (byA eNcX6_weigh (p := 1) (v := 43) (by decide +kernel))
theorem dX6_weigh_2 : decode cX6_weigh 2 = .ok (.putfield 24, 3) := dc_181 (byA eNcX6_weigh (p := 2) (v := 181) (by decide +kernel)) (byA eNcX6_weigh (p := 3) (v := 0) (by decide +kernel)) (byA eNcX6_weigh (p := 4) (v := 24) (by decide +kernel)) rfl
theorem dX6_weigh_5 : decode cX6_weigh 5 = .ok (.iconst 0, 1) := dc_3 (byA eNcX6_weigh (p := 5) (v := 3) (by decide +kernel))
theorem dX6_weigh_6 : decode cX6_weigh 6 = .ok (.istore_n 3, 1) := dc_62 (byA eNcX6_weigh (p := 6) (v := 62) (by decide +kernel))
theorem dX6_weigh_7 : decode cX6_weigh 7 = .ok (.iload_n 3, 1) := dc_29 (byA eNcX6_weigh (p := 7) (v := 29) (by decide +kernel))
theorem dX6_weigh_8 : decode cX6_weigh 8 = .ok (.aload_n 2, 1) := dc_44 (byA eNcX6_weigh (p := 8) (v := 44) (by decide +kernel))
theorem dX6_weigh_9 : decode cX6_weigh 9 = .ok (.arraylength, 1) := dc_190 (byA eNcX6_weigh (p := 9) (v := 190) (by decide +kernel))
theorem dX6_weigh_10 : decode cX6_weigh 10 = .ok (.if_icmp .ge 14, 3) := dc_162 (byA eNcX6_weigh (p := 10) (v := 162) (by decide +kernel)) (byA eNcX6_weigh (p := 11) (v := 0) (by decide +kernel)) (byA eNcX6_weigh (p := 12) (v := 14) (by decide +kernel)) (by decide +kernel)
theorem dX6_weigh_13 : decode cX6_weigh 13 = .ok (.aload_n 2, 1) := dc_44 (byA eNcX6_weigh (p := 13) (v := 44) (by decide +kernel))
theorem dX6_weigh_14 : decode cX6_weigh 14 = .ok (.iload_n 3, 1) := dc_29 (byA eNcX6_weigh (p := 14) (v := 29) (by decide +kernel))
theorem dX6_weigh_15 : decode cX6_weigh 15 = .ok (.ldc 35, 2) := dc_18 (byA eNcX6_weigh (p := 15) (v := 18) (by decide +kernel)) (byA eNcX6_weigh (p := 16) (v := 35) (by decide +kernel))
theorem dX6_weigh_17 : decode cX6_weigh 17 = .ok (.iastore, 1) := dc_79 (byA eNcX6_weigh (p := 17) (v := 79) (by decide +kernel))
theorem dX6_weigh_18 : decode cX6_weigh 18 = .ok (.iinc 3 1, 3) := dc_132 (byA eNcX6_weigh (p := 18) (v := 132) (by decide +kernel)) (byA eNcX6_weigh (p := 19) (v := 3) (by decide +kernel)) (byA eNcX6_weigh (p := 20) (v := 1) (by decide +kernel)) (by decide +kernel)
theorem dX6_weigh_21 : decode cX6_weigh 21 = .ok (.goto (-14), 3) := dc_167 (byA eNcX6_weigh (p := 21) (v := 167) (by decide +kernel)) (byA eNcX6_weigh (p := 22) (v := 255) (by decide +kernel)) (byA eNcX6_weigh (p := 23) (v := 242) (by decide +kernel)) (by decide +kernel)
theorem dX6_weigh_24 : decode cX6_weigh 24 = .ok (.aload_n 0, 1) := dc_42 (byA eNcX6_weigh (p := 24) (v := 42) (by decide +kernel))
theorem dX6_weigh_25 : decode cX6_weigh 25 = .ok (.invokevirtual 48, 3) := dc_182 (byA eNcX6_weigh (p := 25) (v := 182) (by decide +kernel)) (byA eNcX6_weigh (p := 26) (v := 0) (by decide +kernel)) (byA eNcX6_weigh (p := 27) (v := 48) (by decide +kernel)) rfl
theorem dX6_weigh_28 : decode cX6_weigh 28 = .ok (.aload_n 0, 1) := dc_42 (byA eNcX6_weigh (p := 28) (v := 42) (by decide +kernel))
theorem dX6_weigh_29 : decode cX6_weigh 29 = .ok (.iconst 0, 1) := dc_3 (byA eNcX6_weigh (p := 29) (v := 3) (by decide +kernel))
theorem dX6_weigh_30 : decode cX6_weigh 30 = .ok (.iconst 0, 1) := dc_3 (byA eNcX6_weigh (p := 30) (v := 3) (by decide +kernel))
theorem dX6_weigh_31 : decode cX6_weigh 31 = .ok (.bipush 8, 2) := dc_16 (byA eNcX6_weigh (p := 31) (v := 16) (by decide +kernel)) (byA eNcX6_weigh (p := 32) (v := 8) (by decide +kernel)) (by decide +kernel)
theorem dX6_weigh_33 : decode cX6_weigh 33 = .ok (.iconst 0, 1) := dc_3 (byA eNcX6_weigh (p := 33) (v := 3) (by decide +kernel))
theorem dX6_weigh_34 : decode cX6_weigh 34 = .ok (.iconst 0, 1) := dc_3 (byA eNcX6_weigh (p := 34) (v := 3) (by decide +kernel))
theorem dX6_weigh_35 : decode cX6_weigh 35 = .ok (.aload_n 2, 1) := dc_44 (byA eNcX6_weigh (p := 35) (v := 44) (by decide +kernel))
theorem dX6_weigh_36 : decode cX6_weigh 36 = .ok (.invokevirtual 92, 3) := dc_182 (byA eNcX6_weigh (p := 36) (v := 182) (by decide +kernel)) (byA eNcX6_weigh (p := 37) (v := 0) (by decide +kernel)) (byA eNcX6_weigh (p := 38) (v := 92) (by decide +kernel)) rfl
theorem dX6_weigh_39 : decode cX6_weigh 39 = .ok (.return_, 1) := dc_177 (byA eNcX6_weigh (p := 39) (v := 177) (by decide +kernel))
def X6_weigh_L7 (l2 : Nat) (k24 : Mm → Rs) : Nat → Int → Mm → Rs
  | 0, _, _ => none
  | n + 1, l3, μ => if ((aN l2 : Nat) : Int) ≤ l3 then (k24 μ) else (stA μ l2 l3 1000000000 fun μ3 => X6_weigh_L7 l2 k24 n (iA l3 1) μ3)
def X6_weigh (l1 : Nat) (l2 : Nat) (μ : Mm) : Rs := sF μ 62 4 ((l1 : Nat) : Int) fun μ1 => X6_weigh_L7 l2 (fun μ5 => bd (X6_forget μ5) fun v6 μ7 => bd (X6_gather RD 0 0 8 0 0 l2 μ7) fun v9 μ10 => some (0, μ10)) FU 0 μ1
set_option maxHeartbeats 4000000 in
set_option maxRecDepth 100000 in
theorem kX6_weigh_L7 (d : Nat) (hd : 134 ≤ d) {l2 : Nat} {n2 : Nat} (hk2 : kD l2 = (0, n2)) {k24 : Mm → Rs} {r : Int} {μ' : Mm} (hk_24 : ∀ (μ1 : Mm), k24 μ1 = some (r, μ') → VV d mX6_weigh 24 [some (vR 62), none, some (vR l2), none] [] μ1 r μ') : ∀ (n : Nat) {l3 : Int} {μ : Mm}, X6_weigh_L7 l2 k24 n l3 μ = some (r, μ') → VV d mX6_weigh 7 [some (vR 62), none, some (vR l2), some (vI l3)] [] μ r μ' := by
  intro n
  induction n with
  | zero => intro l3 μ h; rw [X6_weigh_L7] at h; cases h
  | succ n ih =>
    intro l3 μ h
    rw [X6_weigh_L7] at h
    refine V_iload_n (q := 8) dX6_weigh_7 rfl rfl rfl ?_
    refine V_aload_n (q := 9) dX6_weigh_8 rfl rfl rfl ?_
    refine V_alen (q := 10) hk2 dX6_weigh_9 rfl ?_
    refine V_icmpge (q := 24) (q2 := 13) dX6_weigh_10 (by decide) rfl (fun hc2 => ?_) (fun hc2 => ?_)
    · have h := ifT hc2 h
      exact V_weak (hk_24 _ h) (sb_s rfl (sb_n (sb_s rfl (sb_n sb_0))))
    · have h := ifF hc2 h
      refine V_aload_n (q := 14) dX6_weigh_13 rfl rfl rfl ?_
      refine V_iload_n (q := 15) dX6_weigh_14 rfl rfl rfl ?_
      refine V_ldc (q := 17) (n := 1000000000) dX6_weigh_15 (by unfold rI; omega) kc_X6_35 rfl ?_
      obtain ⟨hi4, h⟩ := stA_i h
      refine V_iastore (q := 18) hk2 hi4 dX6_weigh_17 rfl ?_
      refine V_iinc (q := 21) dX6_weigh_18 rfl (Nat.le_of_ble_eq_true rfl) trivial rfl ?_
      refine V_goto (q := 7) dX6_weigh_21 (by decide) ?_
      exact V_weak (ih h) (sb_s rfl (sb_n (sb_s rfl (sb_s rfl sb_0))))
set_option maxHeartbeats 4000000 in
set_option maxRecDepth 100000 in
theorem kX6_weigh (d : Nat) (hd : 134 ≤ d) {l1 : Nat} {l2 : Nat} {n2 : Nat} (hk1 : kD l1 = (11, 7)) (hk2 : kD l2 = (0, n2)) {μ : Mm} {r : Int} {μ' : Mm} (h : X6_weigh l1 l2 μ = some (r, μ')) : CC d mX6_weigh [vR 62, vR l1, vR l2] μ r μ' := by
  unfold X6_weigh at h
  refine V_enter (by decide) (Nat.le_of_ble_eq_true rfl) ?_
  show VV d mX6_weigh 0 [some (vR 62), some (vR l1), some (vR l2), none] [] μ r μ'
  refine V_aload_n (q := 1) dX6_weigh_0 rfl rfl rfl ?_
  refine V_aload_n (q := 2) dX6_weigh_1 rfl rfl rfl ?_
  have h := sF_i h
  refine V_putM (q := 5) fl_X6_24 rfl rfl rfl (kD_e (hk1 : kD _ = (11, 7)) (by decide)) dX6_weigh_2 rfl ?_
  refine V_iconst (q := 6) dX6_weigh_5 rfl rfl ?_
  refine V_istore_n (q := 7) dX6_weigh_6 rfl (Nat.le_of_ble_eq_true rfl) trivial rfl ?_
  refine V_weak (kX6_weigh_L7 d hd hk2 (fun μ5 h => ?_) FU h) (sb_s rfl (sb_n (sb_s rfl (sb_s rfl sb_0))))
  refine V_aload_n (q := 25) dX6_weigh_24 rfl rfl rfl ?_
  obtain ⟨v6, μ7, hc8, h⟩ := bd_i h
  refine V_cV0 (q := 28) (kX6_forget (d - 1) (by omega) hc8) (by omega) mv_X6_48 rfl rfl rfl rfl rfl rfl dX6_weigh_25 rfl ?_
  refine V_aload_n (q := 29) dX6_weigh_28 rfl rfl rfl ?_
  refine V_iconst (q := 30) dX6_weigh_29 rfl rfl ?_
  refine V_iconst (q := 31) dX6_weigh_30 rfl rfl ?_
  refine V_bipush (q := 33) dX6_weigh_31 rfl rfl rfl ?_
  refine V_iconst (q := 34) dX6_weigh_33 rfl rfl ?_
  refine V_iconst (q := 35) dX6_weigh_34 rfl rfl ?_
  refine V_aload_n (q := 36) dX6_weigh_35 rfl rfl rfl ?_
  obtain ⟨v9, μ10, hc11, h⟩ := bd_i h
  refine V_cV0 (q := 39) (kX6_gather RD (d - 1) (by unfold RD; omega) hk2 hc11) (by omega) mv_X6_92 rfl rfl rfl rfl rfl rfl dX6_weigh_36 rfl ?_
  exact V_vret rfl h dX6_weigh_39
abbrev mX6_share : Mth := (yX6_share, cX6_share, 8, some .int)
set_option maxRecDepth 100000 in
theorem mi_X6_share : Cond.instanceMethod yX6_share ∈ tG ∧ Cond.selects yX6_share.cls yX6_share yX6_share ∈ tG ∧ Cond.initialized yX6_share.cls ∈ tG ∧ Cond.code yX6_share cX6_share 8 (some .int) ∈ tG ∧ (yX6_share.cls ≠ "java/lang/invoke/MethodHandle" ∧ yX6_share.cls ≠ "java/lang/invoke/VarHandle" ∧ (parseMethodDescriptor yX6_share.desc).map (fun d => d.parameters.length) = some 2) ∧ 8 ≤ 60 := ⟨(tG_of (tb5 (List.mem_of_getElem? (i := 12) rfl)) (by decide +kernel)), (tG_of (tb5 (List.mem_of_getElem? (i := 13) rfl)) (by decide +kernel)), (tG_of (tb1 (List.mem_of_getElem? (i := 10) rfl)) (by decide +kernel)), (tG_of (tb5 (List.mem_of_getElem? (i := 14) rfl)) (by decide +kernel)), ⟨by decide, by decide, by decide +kernel⟩, by decide⟩
set_option maxRecDepth 100000 in
theorem mv_X10_364 : mV RX10 364 mX6_share 2 := ⟨(tG_of (tb5 (List.mem_of_getElem? (i := 11) rfl)) (by decide +kernel)), mi_X6_share⟩
theorem dX6_share_0 : decode cX6_share 0 = .ok (.aload_n 0, 1) := dc_42 (byA eNcX6_share (p := 0) (v := 42) (by decide +kernel))
theorem dX6_share_1 : decode cX6_share 1 = .ok (.aload_n 1, 1) := dc_43 (byA eNcX6_share (p := 1) (v := 43) (by decide +kernel))
theorem dX6_share_2 : decode cX6_share 2 = .ok (.aload_n 0, 1) := dc_42 (byA eNcX6_share (p := 2) (v := 42) (by decide +kernel))
theorem dX6_share_3 : decode cX6_share 3 = .ok (.getfield 18, 3) := dc_180 (byA eNcX6_share (p := 3) (v := 180) (by decide +kernel)) (byA eNcX6_share (p := 4) (v := 0) (by decide +kernel)) (byA eNcX6_share (p := 5) (v := 18) (by decide +kernel)) rfl
theorem dX6_share_6 : decode cX6_share 6 = .ok (.invokevirtual 88, 3) := dc_182 (byA eNcX6_share (p := 6) (v := 182) (by decide +kernel)) (byA eNcX6_share (p := 7) (v := 0) (by decide +kernel)) (byA eNcX6_share (p := 8) (v := 88) (by decide +kernel)) rfl
theorem dX6_share_9 : decode cX6_share 9 = .ok (.aload_n 0, 1) := dc_42 (byA eNcX6_share (p := 9) (v := 42) (by decide +kernel))
theorem dX6_share_10 : decode cX6_share 10 = .ok (.aload_n 2, 1) := dc_44 (byA eNcX6_share (p := 10) (v := 44) (by decide +kernel))
theorem dX6_share_11 : decode cX6_share 11 = .ok (.aload_n 0, 1) := dc_42 (byA eNcX6_share (p := 11) (v := 42) (by decide +kernel))
theorem dX6_share_12 : decode cX6_share 12 = .ok (.getfield 21, 3) := dc_180 (byA eNcX6_share (p := 12) (v := 180) (by decide +kernel)) (byA eNcX6_share (p := 13) (v := 0) (by decide +kernel)) (byA eNcX6_share (p := 14) (v := 21) (by decide +kernel)) rfl
theorem dX6_share_15 : decode cX6_share 15 = .ok (.invokevirtual 88, 3) := dc_182 (byA eNcX6_share (p := 15) (v := 182) (by decide +kernel)) (byA eNcX6_share (p := 16) (v := 0) (by decide +kernel)) (byA eNcX6_share (p := 17) (v := 88) (by decide +kernel)) rfl
theorem dX6_share_18 : decode cX6_share 18 = .ok (.aload_n 1, 1) := dc_43 (byA eNcX6_share (p := 18) (v := 43) (by decide +kernel))
theorem dX6_share_19 : decode cX6_share 19 = .ok (.invokevirtual 55, 3) := dc_182 (byA eNcX6_share (p := 19) (v := 182) (by decide +kernel)) (byA eNcX6_share (p := 20) (v := 0) (by decide +kernel)) (byA eNcX6_share (p := 21) (v := 55) (by decide +kernel)) rfl
theorem dX6_share_22 : decode cX6_share 22 = .ok (.istore_n 3, 1) := dc_62 (byA eNcX6_share (p := 22) (v := 62) (by decide +kernel))
theorem dX6_share_23 : decode cX6_share 23 = .ok (.iconst (-1), 1) := dc_2 (byA eNcX6_share (p := 23) (v := 2) (by decide +kernel))
theorem dX6_share_24 : decode cX6_share 24 = .ok (.istore 4, 2) := dc_54 (byA eNcX6_share (p := 24) (v := 54) (by decide +kernel)) (byA eNcX6_share (p := 25) (v := 4) (by decide +kernel))
theorem dX6_share_26 : decode cX6_share 26 = .ok (.aload_n 0, 1) := dc_42 (byA eNcX6_share (p := 26) (v := 42) (by decide +kernel))
theorem dX6_share_27 : decode cX6_share 27 = .ok (.ldc 35, 2) := dc_18 (byA eNcX6_share (p := 27) (v := 18) (by decide +kernel)) (byA eNcX6_share (p := 28) (v := 35) (by decide +kernel))
theorem dX6_share_29 : decode cX6_share 29 = .ok (.putfield 36, 3) := dc_181 (byA eNcX6_share (p := 29) (v := 181) (by decide +kernel)) (byA eNcX6_share (p := 30) (v := 0) (by decide +kernel)) (byA eNcX6_share (p := 31) (v := 36) (by decide +kernel)) rfl
theorem dX6_share_32 : decode cX6_share 32 = .ok (.iconst 0, 1) := dc_3 (byA eNcX6_share (p := 32) (v := 3) (by decide +kernel))
theorem dX6_share_33 : decode cX6_share 33 = .ok (.istore 5, 2) := dc_54 (byA eNcX6_share (p := 33) (v := 54) (by decide +kernel)) (byA eNcX6_share (p := 34) (v := 5) (by decide +kernel))
theorem dX6_share_35 : decode cX6_share 35 = .ok (.iload 5, 2) := dc_21 (byA eNcX6_share (p := 35) (v := 21) (by decide +kernel)) (byA eNcX6_share (p := 36) (v := 5) (by decide +kernel))
theorem dX6_share_37 : decode cX6_share 37 = .ok (.iload_n 3, 1) := dc_29 (byA eNcX6_share (p := 37) (v := 29) (by decide +kernel))
theorem dX6_share_38 : decode cX6_share 38 = .ok (.if_icmp .gt 78, 3) := dc_163 (byA eNcX6_share (p := 38) (v := 163) (by decide +kernel)) (byA eNcX6_share (p := 39) (v := 0) (by decide +kernel)) (byA eNcX6_share (p := 40) (v := 78) (by decide +kernel)) (by decide +kernel)
theorem dX6_share_41 : decode cX6_share 41 = .ok (.iload 5, 2) := dc_21 (byA eNcX6_share (p := 41) (v := 21) (by decide +kernel)) (byA eNcX6_share (p := 42) (v := 5) (by decide +kernel))
theorem dX6_share_43 : decode cX6_share 43 = .ok (.sipush 256, 3) := dc_17 (byA eNcX6_share (p := 43) (v := 17) (by decide +kernel)) (byA eNcX6_share (p := 44) (v := 1) (by decide +kernel)) (byA eNcX6_share (p := 45) (v := 0) (by decide +kernel)) (by decide +kernel)
theorem dX6_share_46 : decode cX6_share 46 = .ok (.if_icmp .ge 70, 3) := dc_162 (byA eNcX6_share (p := 46) (v := 162) (by decide +kernel)) (byA eNcX6_share (p := 47) (v := 0) (by decide +kernel)) (byA eNcX6_share (p := 48) (v := 70) (by decide +kernel)) (by decide +kernel)
theorem dX6_share_49 : decode cX6_share 49 = .ok (.aload_n 0, 1) := dc_42 (byA eNcX6_share (p := 49) (v := 42) (by decide +kernel))
theorem dX6_share_50 : decode cX6_share 50 = .ok (.getfield 21, 3) := dc_180 (byA eNcX6_share (p := 50) (v := 180) (by decide +kernel)) (byA eNcX6_share (p := 51) (v := 0) (by decide +kernel)) (byA eNcX6_share (p := 52) (v := 21) (by decide +kernel)) rfl
theorem dX6_share_53 : decode cX6_share 53 = .ok (.iload 5, 2) := dc_21 (byA eNcX6_share (p := 53) (v := 21) (by decide +kernel)) (byA eNcX6_share (p := 54) (v := 5) (by decide +kernel))
theorem dX6_share_55 : decode cX6_share 55 = .ok (.iaload, 1) := dc_46 (byA eNcX6_share (p := 55) (v := 46) (by decide +kernel))
theorem dX6_share_56 : decode cX6_share 56 = .ok (.istore 6, 2) := dc_54 (byA eNcX6_share (p := 56) (v := 54) (by decide +kernel)) (byA eNcX6_share (p := 57) (v := 6) (by decide +kernel))
theorem dX6_share_58 : decode cX6_share 58 = .ok (.aload_n 0, 1) := dc_42 (byA eNcX6_share (p := 58) (v := 42) (by decide +kernel))
theorem dX6_share_59 : decode cX6_share 59 = .ok (.getfield 18, 3) := dc_180 (byA eNcX6_share (p := 59) (v := 180) (by decide +kernel)) (byA eNcX6_share (p := 60) (v := 0) (by decide +kernel)) (byA eNcX6_share (p := 61) (v := 18) (by decide +kernel)) rfl
theorem dX6_share_62 : decode cX6_share 62 = .ok (.iload_n 3, 1) := dc_29 (byA eNcX6_share (p := 62) (v := 29) (by decide +kernel))
theorem dX6_share_63 : decode cX6_share 63 = .ok (.iload 5, 2) := dc_21 (byA eNcX6_share (p := 63) (v := 21) (by decide +kernel)) (byA eNcX6_share (p := 64) (v := 5) (by decide +kernel))
theorem dX6_share_65 : decode cX6_share 65 = .ok (.iconst (-1), 1) := dc_2 (byA eNcX6_share (p := 65) (v := 2) (by decide +kernel))
theorem dX6_share_66 : decode cX6_share 66 = .ok (.ixor, 1) := dc_130 (byA eNcX6_share (p := 66) (v := 130) (by decide +kernel))
theorem dX6_share_67 : decode cX6_share 67 = .ok (.iand, 1) := dc_126 (byA eNcX6_share (p := 67) (v := 126) (by decide +kernel))
theorem dX6_share_68 : decode cX6_share 68 = .ok (.iaload, 1) := dc_46 (byA eNcX6_share (p := 68) (v := 46) (by decide +kernel))
theorem dX6_share_69 : decode cX6_share 69 = .ok (.istore 7, 2) := dc_54 (byA eNcX6_share (p := 69) (v := 54) (by decide +kernel)) (byA eNcX6_share (p := 70) (v := 7) (by decide +kernel))
theorem dX6_share_71 : decode cX6_share 71 = .ok (.iload 6, 2) := dc_21 (byA eNcX6_share (p := 71) (v := 21) (by decide +kernel)) (byA eNcX6_share (p := 72) (v := 6) (by decide +kernel))
theorem dX6_share_73 : decode cX6_share 73 = .ok (.ldc 35, 2) := dc_18 (byA eNcX6_share (p := 73) (v := 18) (by decide +kernel)) (byA eNcX6_share (p := 74) (v := 35) (by decide +kernel))
theorem dX6_share_75 : decode cX6_share 75 = .ok (.if_icmp .eq 35, 3) := dc_159 (byA eNcX6_share (p := 75) (v := 159) (by decide +kernel)) (byA eNcX6_share (p := 76) (v := 0) (by decide +kernel)) (byA eNcX6_share (p := 77) (v := 35) (by decide +kernel)) (by decide +kernel)
theorem dX6_share_78 : decode cX6_share 78 = .ok (.iload 7, 2) := dc_21 (byA eNcX6_share (p := 78) (v := 21) (by decide +kernel)) (byA eNcX6_share (p := 79) (v := 7) (by decide +kernel))
theorem dX6_share_80 : decode cX6_share 80 = .ok (.ldc 35, 2) := dc_18 (byA eNcX6_share (p := 80) (v := 18) (by decide +kernel)) (byA eNcX6_share (p := 81) (v := 35) (by decide +kernel))
theorem dX6_share_82 : decode cX6_share 82 = .ok (.if_icmp .eq 28, 3) := dc_159 (byA eNcX6_share (p := 82) (v := 159) (by decide +kernel)) (byA eNcX6_share (p := 83) (v := 0) (by decide +kernel)) (byA eNcX6_share (p := 84) (v := 28) (by decide +kernel)) (by decide +kernel)
theorem dX6_share_85 : decode cX6_share 85 = .ok (.iload 6, 2) := dc_21 (byA eNcX6_share (p := 85) (v := 21) (by decide +kernel)) (byA eNcX6_share (p := 86) (v := 6) (by decide +kernel))
theorem dX6_share_87 : decode cX6_share 87 = .ok (.iload 7, 2) := dc_21 (byA eNcX6_share (p := 87) (v := 21) (by decide +kernel)) (byA eNcX6_share (p := 88) (v := 7) (by decide +kernel))
theorem dX6_share_89 : decode cX6_share 89 = .ok (.iadd, 1) := dc_96 (byA eNcX6_share (p := 89) (v := 96) (by decide +kernel))
theorem dX6_share_90 : decode cX6_share 90 = .ok (.aload_n 0, 1) := dc_42 (byA eNcX6_share (p := 90) (v := 42) (by decide +kernel))
theorem dX6_share_91 : decode cX6_share 91 = .ok (.getfield 36, 3) := dc_180 (byA eNcX6_share (p := 91) (v := 180) (by decide +kernel)) (byA eNcX6_share (p := 92) (v := 0) (by decide +kernel)) (byA eNcX6_share (p := 93) (v := 36) (by decide +kernel)) rfl
theorem dX6_share_94 : decode cX6_share 94 = .ok (.if_icmp .ge 16, 3) := dc_162 (byA eNcX6_share (p := 94) (v := 162) (by decide +kernel)) (byA eNcX6_share (p := 95) (v := 0) (by decide +kernel)) (byA eNcX6_share (p := 96) (v := 16) (by decide +kernel)) (by decide +kernel)
theorem dX6_share_97 : decode cX6_share 97 = .ok (.aload_n 0, 1) := dc_42 (byA eNcX6_share (p := 97) (v := 42) (by decide +kernel))
theorem dX6_share_98 : decode cX6_share 98 = .ok (.iload 6, 2) := dc_21 (byA eNcX6_share (p := 98) (v := 21) (by decide +kernel)) (byA eNcX6_share (p := 99) (v := 6) (by decide +kernel))
theorem dX6_share_100 : decode cX6_share 100 = .ok (.iload 7, 2) := dc_21 (byA eNcX6_share (p := 100) (v := 21) (by decide +kernel)) (byA eNcX6_share (p := 101) (v := 7) (by decide +kernel))
theorem dX6_share_102 : decode cX6_share 102 = .ok (.iadd, 1) := dc_96 (byA eNcX6_share (p := 102) (v := 96) (by decide +kernel))
theorem dX6_share_103 : decode cX6_share 103 = .ok (.putfield 36, 3) := dc_181 (byA eNcX6_share (p := 103) (v := 181) (by decide +kernel)) (byA eNcX6_share (p := 104) (v := 0) (by decide +kernel)) (byA eNcX6_share (p := 105) (v := 36) (by decide +kernel)) rfl
theorem dX6_share_106 : decode cX6_share 106 = .ok (.iload 5, 2) := dc_21 (byA eNcX6_share (p := 106) (v := 21) (by decide +kernel)) (byA eNcX6_share (p := 107) (v := 5) (by decide +kernel))
theorem dX6_share_108 : decode cX6_share 108 = .ok (.istore 4, 2) := dc_54 (byA eNcX6_share (p := 108) (v := 54) (by decide +kernel)) (byA eNcX6_share (p := 109) (v := 4) (by decide +kernel))
theorem dX6_share_110 : decode cX6_share 110 = .ok (.iinc 5 1, 3) := dc_132 (byA eNcX6_share (p := 110) (v := 132) (by decide +kernel)) (byA eNcX6_share (p := 111) (v := 5) (by decide +kernel)) (byA eNcX6_share (p := 112) (v := 1) (by decide +kernel)) (by decide +kernel)
theorem dX6_share_113 : decode cX6_share 113 = .ok (.goto (-78), 3) := dc_167 (byA eNcX6_share (p := 113) (v := 167) (by decide +kernel)) (byA eNcX6_share (p := 114) (v := 255) (by decide +kernel)) (byA eNcX6_share (p := 115) (v := 178) (by decide +kernel)) (by decide +kernel)
theorem dX6_share_116 : decode cX6_share 116 = .ok (.iload 4, 2) := dc_21 (byA eNcX6_share (p := 116) (v := 21) (by decide +kernel)) (byA eNcX6_share (p := 117) (v := 4) (by decide +kernel))
theorem dX6_share_118 : decode cX6_share 118 = .ok (.ireturn, 1) := dc_172 (byA eNcX6_share (p := 118) (v := 172) (by decide +kernel))
def X6_share_L35 (l3 : Int) : Nat → Int → Int → Mm → Rs
  | 0, _, _, _ => none
  | n + 1, l4, l5, μ => if l3 < l5 then (some (l4, μ)) else (if 256 ≤ l5 then (some (l4, μ)) else (ldA μ 66 l5 fun v13 => ldA μ 65 (bA l3 (bX l5 (-1))) fun v15 => if v13 = 1000000000 then (X6_share_L35 l3 n l4 (iA l5 1) μ) else (if v15 = 1000000000 then (X6_share_L35 l3 n l4 (iA l5 1) μ) else (if (μ 62 7) ≤ (iA v13 v15) then (X6_share_L35 l3 n l4 (iA l5 1) μ) else (sF μ 62 7 (iA v13 v15) fun μ20 => X6_share_L35 l3 n l5 (iA l5 1) μ20)))))
def X6_share (l1 : Nat) (l2 : Nat) (μ : Mm) : Rs := bd (X6_weigh l1 65 μ) fun v1 μ2 => bd (X6_weigh l2 66 μ2) fun v4 μ5 => bd (X1_allCues l1 μ5) fun v7 μ8 => sF μ8 62 7 1000000000 fun μ10 => X6_share_L35 v7 FU (-1) 0 μ10
set_option maxHeartbeats 4000000 in
set_option maxRecDepth 100000 in
theorem kX6_share_L35 (d : Nat) (hd : 135 ≤ d) {l3 : Int} {r : Int} {μ' : Mm} : ∀ (n : Nat) {l4 l5 : Int} {μ : Mm}, X6_share_L35 l3 n l4 l5 μ = some (r, μ') → VV d mX6_share 35 [some (vR 62), none, none, some (vI l3), some (vI l4), some (vI l5), none, none] [] μ r μ' := by
  intro n
  induction n with
  | zero => intro l4 l5 μ h; rw [X6_share_L35] at h; cases h
  | succ n ih =>
    intro l4 l5 μ h
    rw [X6_share_L35] at h
    refine V_iload (q := 37) dX6_share_35 rfl rfl ?_
    refine V_iload_n (q := 38) dX6_share_37 rfl rfl rfl ?_
    refine V_icmpgt (q := 116) (q2 := 41) dX6_share_38 (by decide) rfl (fun hc11 => ?_) (fun hc11 => ?_)
    · have h := ifT hc11 h
      refine V_iload (q := 118) dX6_share_116 rfl rfl ?_
      exact V_iret rfl h dX6_share_118
    · have h := ifF hc11 h
      refine V_iload (q := 43) dX6_share_41 rfl rfl ?_
      refine V_sipush (q := 46) dX6_share_43 rfl rfl rfl ?_
      refine V_icmpge (q := 116) (q2 := 49) dX6_share_46 (by decide) rfl (fun hc12 => ?_) (fun hc12 => ?_)
      · have h := ifT hc12 h
        refine V_iload (q := 118) dX6_share_116 rfl rfl ?_
        exact V_iret rfl h dX6_share_118
      · have h := ifF hc12 h
        refine V_aload_n (q := 50) dX6_share_49 rfl rfl rfl ?_
        refine V_getO (q := 53) (t := 66) fl_X6_21 rfl rfl rfl rfl dX6_share_50 rfl ?_
        refine V_iload (q := 55) dX6_share_53 rfl rfl ?_
        obtain ⟨hi14, h⟩ := ldA_i h
        refine V_iaload (q := 56) rfl hi14 dX6_share_55 rfl ?_
        refine V_istore (q := 58) dX6_share_56 (Nat.le_of_ble_eq_true rfl) trivial rfl ?_
        refine V_aload_n (q := 59) dX6_share_58 rfl rfl rfl ?_
        refine V_getO (q := 62) (t := 65) fl_X6_18 rfl rfl rfl rfl dX6_share_59 rfl ?_
        refine V_iload_n (q := 63) dX6_share_62 rfl rfl rfl ?_
        refine V_iload (q := 65) dX6_share_63 rfl rfl ?_
        refine V_iconst (q := 66) dX6_share_65 rfl rfl ?_
        refine V_ixor (q := 67) dX6_share_66 rfl ?_
        refine V_iand (q := 68) dX6_share_67 rfl ?_
        obtain ⟨hi16, h⟩ := ldA_i h
        refine V_iaload (q := 69) rfl hi16 dX6_share_68 rfl ?_
        refine V_istore (q := 71) dX6_share_69 (Nat.le_of_ble_eq_true rfl) trivial rfl ?_
        refine V_iload (q := 73) dX6_share_71 rfl rfl ?_
        refine V_ldc (q := 75) (n := 1000000000) dX6_share_73 (by unfold rI; omega) kc_X6_35 rfl ?_
        refine V_icmpeq (q := 110) (q2 := 78) dX6_share_75 (by decide) rfl (fun hc17 => ?_) (fun hc17 => ?_)
        · have h := ifT hc17 h
          refine V_iinc (q := 113) dX6_share_110 rfl (Nat.le_of_ble_eq_true rfl) trivial rfl ?_
          refine V_goto (q := 35) dX6_share_113 (by decide) ?_
          exact V_weak (ih h) (sb_s rfl (sb_n (sb_n (sb_s rfl (sb_s rfl (sb_s rfl (sb_n (sb_n sb_0))))))))
        · have h := ifF hc17 h
          refine V_iload (q := 80) dX6_share_78 rfl rfl ?_
          refine V_ldc (q := 82) (n := 1000000000) dX6_share_80 (by unfold rI; omega) kc_X6_35 rfl ?_
          refine V_icmpeq (q := 110) (q2 := 85) dX6_share_82 (by decide) rfl (fun hc18 => ?_) (fun hc18 => ?_)
          · have h := ifT hc18 h
            refine V_iinc (q := 113) dX6_share_110 rfl (Nat.le_of_ble_eq_true rfl) trivial rfl ?_
            refine V_goto (q := 35) dX6_share_113 (by decide) ?_
            exact V_weak (ih h) (sb_s rfl (sb_n (sb_n (sb_s rfl (sb_s rfl (sb_s rfl (sb_n (sb_n sb_0))))))))
          · have h := ifF hc18 h
            refine V_iload (q := 87) dX6_share_85 rfl rfl ?_
            refine V_iload (q := 89) dX6_share_87 rfl rfl ?_
            refine V_iadd (q := 90) dX6_share_89 rfl ?_
            refine V_aload_n (q := 91) dX6_share_90 rfl rfl rfl ?_
            refine V_getI (q := 94) fl_X6_36 rfl rfl rfl dX6_share_91 rfl ?_
            refine V_icmpge (q := 110) (q2 := 97) dX6_share_94 (by decide) rfl (fun hc19 => ?_) (fun hc19 => ?_)
            · have h := ifT hc19 h
              refine V_iinc (q := 113) dX6_share_110 rfl (Nat.le_of_ble_eq_true rfl) trivial rfl ?_
              refine V_goto (q := 35) dX6_share_113 (by decide) ?_
              exact V_weak (ih h) (sb_s rfl (sb_n (sb_n (sb_s rfl (sb_s rfl (sb_s rfl (sb_n (sb_n sb_0))))))))
            · have h := ifF hc19 h
              refine V_aload_n (q := 98) dX6_share_97 rfl rfl rfl ?_
              refine V_iload (q := 100) dX6_share_98 rfl rfl ?_
              refine V_iload (q := 102) dX6_share_100 rfl rfl ?_
              refine V_iadd (q := 103) dX6_share_102 rfl ?_
              have h := sF_i h
              refine V_putI (q := 106) fl_X6_36 rfl rfl rfl dX6_share_103 rfl ?_
              refine V_iload (q := 108) dX6_share_106 rfl rfl ?_
              refine V_istore (q := 110) dX6_share_108 (Nat.le_of_ble_eq_true rfl) trivial rfl ?_
              refine V_iinc (q := 113) dX6_share_110 rfl (Nat.le_of_ble_eq_true rfl) trivial rfl ?_
              refine V_goto (q := 35) dX6_share_113 (by decide) ?_
              exact V_weak (ih h) (sb_s rfl (sb_n (sb_n (sb_s rfl (sb_s rfl (sb_s rfl (sb_n (sb_n sb_0))))))))
set_option maxHeartbeats 4000000 in
set_option maxRecDepth 100000 in
theorem kX6_share (d : Nat) (hd : 135 ≤ d) {l1 : Nat} {l2 : Nat} (hk1 : kD l1 = (11, 7)) (hk2 : kD l2 = (11, 7)) {μ : Mm} {r : Int} {μ' : Mm} (h : X6_share l1 l2 μ = some (r, μ')) : CC d mX6_share [vR 62, vR l1, vR l2] μ r μ' := by
  unfold X6_share at h
  refine V_enter (by decide) (Nat.le_of_ble_eq_true rfl) ?_
  show VV d mX6_share 0 [some (vR 62), some (vR l1), some (vR l2), none, none, none, none, none] [] μ r μ'
  refine V_aload_n (q := 1) dX6_share_0 rfl rfl rfl ?_
  refine V_aload_n (q := 2) dX6_share_1 rfl rfl rfl ?_
  refine V_aload_n (q := 3) dX6_share_2 rfl rfl rfl ?_
  refine V_getO (q := 6) (t := 65) fl_X6_18 rfl rfl rfl rfl dX6_share_3 rfl ?_
  obtain ⟨v1, μ2, hc3, h⟩ := bd_i h
  refine V_cV0 (q := 9) (kX6_weigh (d - 1) (by omega) hk1 rfl hc3) (by omega) mv_X6_88 rfl rfl rfl rfl rfl rfl dX6_share_6 rfl ?_
  refine V_aload_n (q := 10) dX6_share_9 rfl rfl rfl ?_
  refine V_aload_n (q := 11) dX6_share_10 rfl rfl rfl ?_
  refine V_aload_n (q := 12) dX6_share_11 rfl rfl rfl ?_
  refine V_getO (q := 15) (t := 66) fl_X6_21 rfl rfl rfl rfl dX6_share_12 rfl ?_
  obtain ⟨v4, μ5, hc6, h⟩ := bd_i h
  refine V_cV0 (q := 18) (kX6_weigh (d - 1) (by omega) hk2 rfl hc6) (by omega) mv_X6_88 rfl rfl rfl rfl rfl rfl dX6_share_15 rfl ?_
  refine V_aload_n (q := 19) dX6_share_18 rfl rfl rfl ?_
  obtain ⟨v7, μ8, hc9, h⟩ := bd_i h
  refine V_cV1 (q := 22) (v := vI v7) (kX1_allCues (d - 1) (by omega) hk1 hc9) (by omega) mv_X6_55 hk1 rfl rfl rfl rfl rfl dX6_share_19 rfl ?_
  refine V_istore_n (q := 23) dX6_share_22 rfl (Nat.le_of_ble_eq_true rfl) trivial rfl ?_
  refine V_iconst (q := 24) dX6_share_23 rfl rfl ?_
  refine V_istore (q := 26) dX6_share_24 (Nat.le_of_ble_eq_true rfl) trivial rfl ?_
  refine V_aload_n (q := 27) dX6_share_26 rfl rfl rfl ?_
  refine V_ldc (q := 29) (n := 1000000000) dX6_share_27 (by unfold rI; omega) kc_X6_35 rfl ?_
  have h := sF_i h
  refine V_putI (q := 32) fl_X6_36 rfl rfl rfl dX6_share_29 rfl ?_
  refine V_iconst (q := 33) dX6_share_32 rfl rfl ?_
  refine V_istore (q := 35) dX6_share_33 (Nat.le_of_ble_eq_true rfl) trivial rfl ?_
  exact V_weak (kX6_share_L35 d hd  FU h) (sb_s rfl (sb_n (sb_n (sb_s rfl (sb_s rfl (sb_s rfl (sb_n (sb_n sb_0))))))))
