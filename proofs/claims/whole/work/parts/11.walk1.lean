abbrev mX1_wound : Mth := (yX1_wound, cX1_wound, 3, some .int)
theorem mi_X1_wound : Cond.instanceMethod yX1_wound ∈ tG ∧ Cond.selects yX1_wound.cls yX1_wound yX1_wound ∈ tG ∧ Cond.initialized yX1_wound.cls ∈ tG ∧ Cond.code yX1_wound cX1_wound 3 (some .int) ∈ tG ∧ (yX1_wound.cls ≠ "java/lang/invoke/MethodHandle" ∧ yX1_wound.cls ≠ "java/lang/invoke/VarHandle" ∧ (parseMethodDescriptor yX1_wound.desc).map (fun d => d.parameters.length) = some 2) ∧ 3 ≤ 60 := ⟨(tG_of (List.mem_of_getElem? (i := 849) (by decide +kernel)) (by decide +kernel)), (tG_of (List.mem_of_getElem? (i := 850) (by decide +kernel)) (by decide +kernel)), (tG_of (List.mem_of_getElem? (i := 108) (by decide +kernel)) (by decide +kernel)), (tG_of (List.mem_of_getElem? (i := 851) (by decide +kernel)) (by decide +kernel)), ⟨by decide, by decide, by decide +kernel⟩, by decide⟩
theorem mv_X1_76 : mV RX1 76 mX1_wound 2 := ⟨(tG_of (List.mem_of_getElem? (i := 848) (by decide +kernel)) (by decide +kernel)), mi_X1_wound⟩
theorem mv_X5_54 : mV RX5 54 mX1_wound 2 := ⟨(tG_of (List.mem_of_getElem? (i := 853) (by decide +kernel)) (by decide +kernel)), mi_X1_wound⟩
theorem dX1_wound_0 : decode cX1_wound 0 = .ok (.iload_n 1, 1) := by decide +kernel
theorem dX1_wound_1 : decode cX1_wound 1 = .ok (.aload_n 0, 1) := by decide +kernel
theorem dX1_wound_2 : decode cX1_wound 2 = .ok (.getfield 18, 3) := by decide +kernel
theorem dX1_wound_5 : decode cX1_wound 5 = .ok (.iload_n 2, 1) := by decide +kernel
theorem dX1_wound_6 : decode cX1_wound 6 = .ok (.iaload, 1) := by decide +kernel
theorem dX1_wound_7 : decode cX1_wound 7 = .ok (.iadd, 1) := by decide +kernel
theorem dX1_wound_8 : decode cX1_wound 8 = .ok (.ireturn, 1) := by decide +kernel
def X1_wound (l0 : Nat) (l1 : Int) (l2 : Int) (μ : Mm) : Rs := ldA μ (l0 + 3) l2 fun v1 => some (iA l1 v1, μ)
set_option maxHeartbeats 4000000 in
set_option maxRecDepth 100000 in
theorem kX1_wound (d : Nat) (hd : 1 ≤ d) {l0 : Nat} {l1 : Int} {l2 : Int} (hk0 : kD l0 = (11, 7)) {μ : Mm} {r : Int} {μ' : Mm} (h : X1_wound l0 l1 l2 μ = some (r, μ')) : CC d mX1_wound [vR l0, vI l1, vI l2] μ r μ' := by
  unfold X1_wound at h
  refine V_enter (by decide) (Nat.le_of_ble_eq_true rfl) ?_
  show VV d mX1_wound 0 [some (vR l0), some (vI l1), some (vI l2)] [] μ r μ'
  refine V_iload_n (q := 1) dX1_wound_0 rfl rfl rfl ?_
  refine V_aload_n (q := 2) dX1_wound_1 rfl rfl rfl ?_
  refine V_getO (q := 5) (t := _) fl_X1_18 hk0 rfl rfl rfl dX1_wound_2 rfl ?_
  refine V_iload_n (q := 6) dX1_wound_5 rfl rfl rfl ?_
  obtain ⟨hi2, h⟩ := ldA_i h
  refine V_iaload (q := 7) (kdo_1_3 hk0) hi2 dX1_wound_6 rfl ?_
  refine V_iadd (q := 8) dX1_wound_7 rfl ?_
  exact V_iret rfl h dX1_wound_8
abbrev mJ9_max_7cf53 : Mth := (yJ9_max_7cf53, cJ9_max_7cf53, 2, some .int)
theorem mi_J9_max_7cf53 : Cond.static yJ9_max_7cf53 ∈ tG ∧ Cond.initialized yJ9_max_7cf53.cls ∈ tG ∧ Cond.code yJ9_max_7cf53 cJ9_max_7cf53 2 (some .int) ∈ tG ∧ (yJ9_max_7cf53.cls ≠ "java/lang/invoke/MethodHandle" ∧ yJ9_max_7cf53.cls ≠ "java/lang/invoke/VarHandle" ∧ (parseMethodDescriptor yJ9_max_7cf53.desc).map (fun d => d.parameters.length) = some 2) ∧ 2 ≤ 60 := ⟨(tG_of (List.mem_of_getElem? (i := 798) (by decide +kernel)) (by decide +kernel)), (tG_of (List.mem_of_getElem? (i := 113) (by decide +kernel)) (by decide +kernel)), (tG_of (List.mem_of_getElem? (i := 799) (by decide +kernel)) (by decide +kernel)), ⟨by decide, by decide, by decide +kernel⟩, by decide⟩
theorem mv_X1_79 : mS RX1 79 mJ9_max_7cf53 2 := ⟨(tG_of (List.mem_of_getElem? (i := 852) (by decide +kernel)) (by decide +kernel)), mi_J9_max_7cf53.1, (tG_of (List.mem_of_getElem? (i := 108) (by decide +kernel)) (by decide +kernel)), mi_J9_max_7cf53.2⟩
theorem mv_X2_62 : mS RX2 62 mJ9_max_7cf53 2 := ⟨(tG_of (List.mem_of_getElem? (i := 797) (by decide +kernel)) (by decide +kernel)), mi_J9_max_7cf53.1, (tG_of (List.mem_of_getElem? (i := 104) (by decide +kernel)) (by decide +kernel)), mi_J9_max_7cf53.2⟩
theorem mv_X5_64 : mS RX5 64 mJ9_max_7cf53 2 := ⟨(tG_of (List.mem_of_getElem? (i := 858) (by decide +kernel)) (by decide +kernel)), mi_J9_max_7cf53.1, (tG_of (List.mem_of_getElem? (i := 109) (by decide +kernel)) (by decide +kernel)), mi_J9_max_7cf53.2⟩
theorem mv_X6_85 : mS RX6 85 mJ9_max_7cf53 2 := ⟨(tG_of (List.mem_of_getElem? (i := 917) (by decide +kernel)) (by decide +kernel)), mi_J9_max_7cf53.1, (tG_of (List.mem_of_getElem? (i := 110) (by decide +kernel)) (by decide +kernel)), mi_J9_max_7cf53.2⟩
theorem mv_X11_302 : mS RX11 302 mJ9_max_7cf53 2 := ⟨(tG_of (List.mem_of_getElem? (i := 1536) (by decide +kernel)) (by decide +kernel)), mi_J9_max_7cf53.1, (tG_of (List.mem_of_getElem? (i := 112) (by decide +kernel)) (by decide +kernel)), mi_J9_max_7cf53.2⟩
theorem dJ9_max_7cf53_0 : decode cJ9_max_7cf53 0 = .ok (.iload_n 0, 1) := by decide +kernel
theorem dJ9_max_7cf53_1 : decode cJ9_max_7cf53 1 = .ok (.iload_n 1, 1) := by decide +kernel
theorem dJ9_max_7cf53_2 : decode cJ9_max_7cf53 2 = .ok (.if_icmp .lt 7, 3) := by decide +kernel
theorem dJ9_max_7cf53_5 : decode cJ9_max_7cf53 5 = .ok (.iload_n 0, 1) := by decide +kernel
theorem dJ9_max_7cf53_6 : decode cJ9_max_7cf53 6 = .ok (.goto 4, 3) := by decide +kernel
theorem dJ9_max_7cf53_9 : decode cJ9_max_7cf53 9 = .ok (.iload_n 1, 1) := by decide +kernel
theorem dJ9_max_7cf53_10 : decode cJ9_max_7cf53 10 = .ok (.ireturn, 1) := by decide +kernel
def J9_max_7cf53 (l0 : Int) (l1 : Int) (μ : Mm) : Rs := if l0 < l1 then (some (l1, μ)) else (some (l0, μ))
set_option maxHeartbeats 4000000 in
set_option maxRecDepth 100000 in
theorem kJ9_max_7cf53 (d : Nat) (hd : 1 ≤ d) {l0 : Int} {l1 : Int} {μ : Mm} {r : Int} {μ' : Mm} (h : J9_max_7cf53 l0 l1 μ = some (r, μ')) : CC d mJ9_max_7cf53 [vI l0, vI l1] μ r μ' := by
  unfold J9_max_7cf53 at h
  refine V_enter (by decide) (Nat.le_of_ble_eq_true rfl) ?_
  show VV d mJ9_max_7cf53 0 [some (vI l0), some (vI l1)] [] μ r μ'
  refine V_iload_n (q := 1) dJ9_max_7cf53_0 rfl rfl rfl ?_
  refine V_iload_n (q := 2) dJ9_max_7cf53_1 rfl rfl rfl ?_
  refine V_icmplt (q := 9) (q2 := 5) dJ9_max_7cf53_2 (by decide) rfl (fun hc1 => ?_) (fun hc1 => ?_)
  · have h := ifT hc1 h
    refine V_iload_n (q := 10) dJ9_max_7cf53_9 rfl rfl rfl ?_
    exact V_iret rfl h dJ9_max_7cf53_10
  · have h := ifF hc1 h
    refine V_iload_n (q := 6) dJ9_max_7cf53_5 rfl rfl rfl ?_
    refine V_goto (q := 10) dJ9_max_7cf53_6 (by decide) ?_
    exact V_iret rfl h dJ9_max_7cf53_10
abbrev mX1_dones : Mth := (yX1_dones, cX1_dones, 3, some .int)
theorem mi_X1_dones : Cond.instanceMethod yX1_dones ∈ tG ∧ Cond.selects yX1_dones.cls yX1_dones yX1_dones ∈ tG ∧ Cond.initialized yX1_dones.cls ∈ tG ∧ Cond.code yX1_dones cX1_dones 3 (some .int) ∈ tG ∧ (yX1_dones.cls ≠ "java/lang/invoke/MethodHandle" ∧ yX1_dones.cls ≠ "java/lang/invoke/VarHandle" ∧ (parseMethodDescriptor yX1_dones.desc).map (fun d => d.parameters.length) = some 2) ∧ 3 ≤ 60 := ⟨(tG_of (List.mem_of_getElem? (i := 845) (by decide +kernel)) (by decide +kernel)), (tG_of (List.mem_of_getElem? (i := 846) (by decide +kernel)) (by decide +kernel)), (tG_of (List.mem_of_getElem? (i := 108) (by decide +kernel)) (by decide +kernel)), (tG_of (List.mem_of_getElem? (i := 847) (by decide +kernel)) (by decide +kernel)), ⟨by decide, by decide, by decide +kernel⟩, by decide⟩
theorem mv_X5_52 : mV RX5 52 mX1_dones 2 := ⟨(tG_of (List.mem_of_getElem? (i := 844) (by decide +kernel)) (by decide +kernel)), mi_X1_dones⟩
theorem mv_X6_71 : mV RX6 71 mX1_dones 2 := ⟨(tG_of (List.mem_of_getElem? (i := 912) (by decide +kernel)) (by decide +kernel)), mi_X1_dones⟩
theorem mv_X8_57 : mV RX8 57 mX1_dones 2 := ⟨(tG_of (List.mem_of_getElem? (i := 1049) (by decide +kernel)) (by decide +kernel)), mi_X1_dones⟩
theorem dX1_dones_0 : decode cX1_dones 0 = .ok (.aload_n 0, 1) := by decide +kernel
theorem dX1_dones_1 : decode cX1_dones 1 = .ok (.iload_n 1, 1) := by decide +kernel
theorem dX1_dones_2 : decode cX1_dones 2 = .ok (.iload_n 2, 1) := by decide +kernel
theorem dX1_dones_3 : decode cX1_dones 3 = .ok (.invokevirtual 76, 3) := by decide +kernel
theorem dX1_dones_6 : decode cX1_dones 6 = .ok (.aload_n 0, 1) := by decide +kernel
theorem dX1_dones_7 : decode cX1_dones 7 = .ok (.getfield 15, 3) := by decide +kernel
theorem dX1_dones_10 : decode cX1_dones 10 = .ok (.iload_n 2, 1) := by decide +kernel
theorem dX1_dones_11 : decode cX1_dones 11 = .ok (.iaload, 1) := by decide +kernel
theorem dX1_dones_12 : decode cX1_dones 12 = .ok (.invokestatic 79, 3) := by decide +kernel
theorem dX1_dones_15 : decode cX1_dones 15 = .ok (.ireturn, 1) := by decide +kernel
def X1_dones (l0 : Nat) (l1 : Int) (l2 : Int) (μ : Mm) : Rs := bd (X1_wound l0 l1 l2 μ) fun v1 μ2 => ldA μ2 (l0 + 2) l2 fun v4 => bd (J9_max_7cf53 v1 v4 μ2) fun v6 μ7 => some (v6, μ7)
set_option maxHeartbeats 4000000 in
set_option maxRecDepth 100000 in
theorem kX1_dones (d : Nat) (hd : 2 ≤ d) {l0 : Nat} {l1 : Int} {l2 : Int} (hk0 : kD l0 = (11, 7)) {μ : Mm} {r : Int} {μ' : Mm} (h : X1_dones l0 l1 l2 μ = some (r, μ')) : CC d mX1_dones [vR l0, vI l1, vI l2] μ r μ' := by
  unfold X1_dones at h
  refine V_enter (by decide) (Nat.le_of_ble_eq_true rfl) ?_
  show VV d mX1_dones 0 [some (vR l0), some (vI l1), some (vI l2)] [] μ r μ'
  refine V_aload_n (q := 1) dX1_dones_0 rfl rfl rfl ?_
  refine V_iload_n (q := 2) dX1_dones_1 rfl rfl rfl ?_
  refine V_iload_n (q := 3) dX1_dones_2 rfl rfl rfl ?_
  obtain ⟨v1, μ2, hc3, h⟩ := bd_i h
  refine V_cV1 (q := 6) (v := vI v1) (kX1_wound (d - 1) (by omega) hk0 hc3) (by omega) mv_X1_76 hk0 rfl rfl rfl rfl rfl dX1_dones_3 rfl ?_
  refine V_aload_n (q := 7) dX1_dones_6 rfl rfl rfl ?_
  refine V_getO (q := 10) (t := _) fl_X1_15 hk0 rfl rfl rfl dX1_dones_7 rfl ?_
  refine V_iload_n (q := 11) dX1_dones_10 rfl rfl rfl ?_
  obtain ⟨hi5, h⟩ := ldA_i h
  refine V_iaload (q := 12) (kdo_1_2 hk0) hi5 dX1_dones_11 rfl ?_
  obtain ⟨v6, μ7, hc8, h⟩ := bd_i h
  refine V_cS1 (q := 15) (v := vI v6) (kJ9_max_7cf53 (d - 1) (by omega) hc8) (by omega) mv_X1_79 rfl rfl rfl rfl dX1_dones_12 rfl ?_
  exact V_iret rfl h dX1_dones_15
abbrev mX4_need : Mth := (yX4_need, cX4_need, 2, none)
theorem mi_X4_need : Cond.instanceMethod yX4_need ∈ tG ∧ Cond.selects yX4_need.cls yX4_need yX4_need ∈ tG ∧ Cond.initialized yX4_need.cls ∈ tG ∧ Cond.code yX4_need cX4_need 2 (none) ∈ tG ∧ (yX4_need.cls ≠ "java/lang/invoke/MethodHandle" ∧ yX4_need.cls ≠ "java/lang/invoke/VarHandle" ∧ (parseMethodDescriptor yX4_need.desc).map (fun d => d.parameters.length) = some 1) ∧ 2 ≤ 60 := ⟨(tG_of (List.mem_of_getElem? (i := 586) (by decide +kernel)) (by decide +kernel)), (tG_of (List.mem_of_getElem? (i := 587) (by decide +kernel)) (by decide +kernel)), (tG_of (List.mem_of_getElem? (i := 103) (by decide +kernel)) (by decide +kernel)), (tG_of (List.mem_of_getElem? (i := 588) (by decide +kernel)) (by decide +kernel)), ⟨by decide, by decide, by decide +kernel⟩, by decide⟩
theorem mv_X2_65 : mV RX2 65 mX4_need 1 := ⟨(tG_of (List.mem_of_getElem? (i := 585) (by decide +kernel)) (by decide +kernel)), mi_X4_need⟩
theorem dX4_need_0 : decode cX4_need 0 = .ok (.aload_n 0, 1) := by decide +kernel
theorem dX4_need_1 : decode cX4_need 1 = .ok (.invokevirtual 31, 3) := by decide +kernel
theorem dX4_need_4 : decode cX4_need 4 = .ok (.iload_n 1, 1) := by decide +kernel
theorem dX4_need_5 : decode cX4_need 5 = .ok (.if_icmp .ne 16, 3) := by decide +kernel
theorem dX4_need_8 : decode cX4_need 8 = .ok (.aload_n 0, 1) := by decide +kernel
theorem dX4_need_9 : decode cX4_need 9 = .ok (.dup, 1) := by decide +kernel
theorem dX4_need_10 : decode cX4_need 10 = .ok (.getfield 19, 3) := by decide +kernel
theorem dX4_need_13 : decode cX4_need 13 = .ok (.iconst 1, 1) := by decide +kernel
theorem dX4_need_14 : decode cX4_need 14 = .ok (.iadd, 1) := by decide +kernel
theorem dX4_need_15 : decode cX4_need 15 = .ok (.putfield 19, 3) := by decide +kernel
theorem dX4_need_18 : decode cX4_need 18 = .ok (.goto 11, 3) := by decide +kernel
theorem dX4_need_21 : decode cX4_need 21 = .ok (.aload_n 0, 1) := by decide +kernel
theorem dX4_need_22 : decode cX4_need 22 = .ok (.aload_n 0, 1) := by decide +kernel
theorem dX4_need_23 : decode cX4_need 23 = .ok (.getfield 19, 3) := by decide +kernel
theorem dX4_need_26 : decode cX4_need 26 = .ok (.invokevirtual 35, 3) := by decide +kernel
theorem dX4_need_29 : decode cX4_need 29 = .ok (.return_, 1) := by decide +kernel
def X4_need (l1 : Int) (μ : Mm) : Rs := bd (X4_peek μ) fun v1 μ2 => if v1 = l1 then (sF μ2 3 1 (iA (μ2 3 1) 1) fun μ8 => some (0, μ8)) else (bd (X4_refuseAt (μ2 3 1) μ2) fun v5 μ6 => some (0, μ6))
set_option maxHeartbeats 4000000 in
set_option maxRecDepth 100000 in
theorem kX4_need (d : Nat) (hd : 2 ≤ d) {l1 : Int} {μ : Mm} {r : Int} {μ' : Mm} (h : X4_need l1 μ = some (r, μ')) : CC d mX4_need [vR 3, vI l1] μ r μ' := by
  unfold X4_need at h
  refine V_enter (by decide) (Nat.le_of_ble_eq_true rfl) ?_
  show VV d mX4_need 0 [some (vR 3), some (vI l1)] [] μ r μ'
  refine V_aload_n (q := 1) dX4_need_0 rfl rfl rfl ?_
  obtain ⟨v1, μ2, hc3, h⟩ := bd_i h
  refine V_cV1 (q := 4) (v := vI v1) (kX4_peek (d - 1) (by omega) hc3) (by omega) mv_X4_31 rfl rfl rfl rfl rfl rfl dX4_need_1 rfl ?_
  refine V_iload_n (q := 5) dX4_need_4 rfl rfl rfl ?_
  refine V_icmpne (q := 21) (q2 := 8) dX4_need_5 (by decide) rfl (fun hc4 => ?_) (fun hc4 => ?_)
  · have h := ifF hc4 h
    refine V_aload_n (q := 22) dX4_need_21 rfl rfl rfl ?_
    refine V_aload_n (q := 23) dX4_need_22 rfl rfl rfl ?_
    refine V_getI (q := 26) fl_X4_19 rfl rfl rfl dX4_need_23 rfl ?_
    obtain ⟨v5, μ6, hc7, h⟩ := bd_i h
    refine V_cV0 (q := 29) (kX4_refuseAt (d - 1) (by omega) hc7) (by omega) mv_X4_35 rfl rfl rfl rfl rfl rfl dX4_need_26 rfl ?_
    exact V_vret rfl h dX4_need_29
  · have h := ifT hc4 h
    refine V_aload_n (q := 9) dX4_need_8 rfl rfl rfl ?_
    refine V_dup (q := 10) dX4_need_9 trivial rfl ?_
    refine V_getI (q := 13) fl_X4_19 rfl rfl rfl dX4_need_10 rfl ?_
    refine V_iconst (q := 14) dX4_need_13 rfl rfl ?_
    refine V_iadd (q := 15) dX4_need_14 rfl ?_
    have h := sF_i h
    refine V_putI (q := 18) fl_X4_19 rfl rfl rfl dX4_need_15 rfl ?_
    refine V_goto (q := 29) dX4_need_18 (by decide) ?_
    exact V_vret rfl h dX4_need_29
abbrev mX4_isDigit : Mth := (yX4_isDigit, cX4_isDigit, 1, some .boolean)
theorem mi_X4_isDigit : Cond.static yX4_isDigit ∈ tG ∧ Cond.initialized yX4_isDigit.cls ∈ tG ∧ Cond.code yX4_isDigit cX4_isDigit 1 (some .boolean) ∈ tG ∧ (yX4_isDigit.cls ≠ "java/lang/invoke/MethodHandle" ∧ yX4_isDigit.cls ≠ "java/lang/invoke/VarHandle" ∧ (parseMethodDescriptor yX4_isDigit.desc).map (fun d => d.parameters.length) = some 1) ∧ 1 ≤ 60 := ⟨(tG_of (List.mem_of_getElem? (i := 573) (by decide +kernel)) (by decide +kernel)), (tG_of (List.mem_of_getElem? (i := 103) (by decide +kernel)) (by decide +kernel)), (tG_of (List.mem_of_getElem? (i := 574) (by decide +kernel)) (by decide +kernel)), ⟨by decide, by decide, by decide +kernel⟩, by decide⟩
theorem mv_X2_136 : mS RX2 136 mX4_isDigit 1 := ⟨(tG_of (List.mem_of_getElem? (i := 606) (by decide +kernel)) (by decide +kernel)), mi_X4_isDigit.1, (tG_of (List.mem_of_getElem? (i := 104) (by decide +kernel)) (by decide +kernel)), mi_X4_isDigit.2⟩
theorem mv_X4_39 : mS RX4 39 mX4_isDigit 1 := ⟨(tG_of (List.mem_of_getElem? (i := 572) (by decide +kernel)) (by decide +kernel)), mi_X4_isDigit.1, (tG_of (List.mem_of_getElem? (i := 103) (by decide +kernel)) (by decide +kernel)), mi_X4_isDigit.2⟩
theorem dX4_isDigit_0 : decode cX4_isDigit 0 = .ok (.iload_n 0, 1) := by decide +kernel
theorem dX4_isDigit_1 : decode cX4_isDigit 1 = .ok (.bipush 48, 2) := by decide +kernel
theorem dX4_isDigit_3 : decode cX4_isDigit 3 = .ok (.if_icmp .lt 13, 3) := by decide +kernel
theorem dX4_isDigit_6 : decode cX4_isDigit 6 = .ok (.iload_n 0, 1) := by decide +kernel
theorem dX4_isDigit_7 : decode cX4_isDigit 7 = .ok (.bipush 57, 2) := by decide +kernel
theorem dX4_isDigit_9 : decode cX4_isDigit 9 = .ok (.if_icmp .gt 7, 3) := by decide +kernel
theorem dX4_isDigit_12 : decode cX4_isDigit 12 = .ok (.iconst 1, 1) := by decide +kernel
theorem dX4_isDigit_13 : decode cX4_isDigit 13 = .ok (.goto 4, 3) := by decide +kernel
theorem dX4_isDigit_16 : decode cX4_isDigit 16 = .ok (.iconst 0, 1) := by decide +kernel
theorem dX4_isDigit_17 : decode cX4_isDigit 17 = .ok (.ireturn, 1) := by decide +kernel
def X4_isDigit (l0 : Int) (μ : Mm) : Rs := if l0 < 48 then (some (0, μ)) else (if 57 < l0 then (some (0, μ)) else (some (1, μ)))
set_option maxHeartbeats 4000000 in
set_option maxRecDepth 100000 in
theorem kX4_isDigit (d : Nat) (hd : 1 ≤ d) {l0 : Int} {μ : Mm} {r : Int} {μ' : Mm} (h : X4_isDigit l0 μ = some (r, μ')) : CC d mX4_isDigit [vI l0] μ r μ' := by
  unfold X4_isDigit at h
  refine V_enter (by decide) (Nat.le_of_ble_eq_true rfl) ?_
  show VV d mX4_isDigit 0 [some (vI l0)] [] μ r μ'
  refine V_iload_n (q := 1) dX4_isDigit_0 rfl rfl rfl ?_
  refine V_bipush (q := 3) dX4_isDigit_1 rfl rfl rfl ?_
  refine V_icmplt (q := 16) (q2 := 6) dX4_isDigit_3 (by decide) rfl (fun hc1 => ?_) (fun hc1 => ?_)
  · have h := ifT hc1 h
    refine V_iconst (q := 17) dX4_isDigit_16 rfl rfl ?_
    exact V_zret rfl (Or.inl rfl) h dX4_isDigit_17
  · have h := ifF hc1 h
    refine V_iload_n (q := 7) dX4_isDigit_6 rfl rfl rfl ?_
    refine V_bipush (q := 9) dX4_isDigit_7 rfl rfl rfl ?_
    refine V_icmpgt (q := 16) (q2 := 12) dX4_isDigit_9 (by decide) rfl (fun hc2 => ?_) (fun hc2 => ?_)
    · have h := ifT hc2 h
      refine V_iconst (q := 17) dX4_isDigit_16 rfl rfl ?_
      exact V_zret rfl (Or.inl rfl) h dX4_isDigit_17
    · have h := ifF hc2 h
      refine V_iconst (q := 13) dX4_isDigit_12 rfl rfl ?_
      refine V_goto (q := 17) dX4_isDigit_13 (by decide) ?_
      exact V_zret rfl (Or.inr rfl) h dX4_isDigit_17
abbrev mX4_number : Mth := (yX4_number, cX4_number, 4, some .int)
theorem mi_X4_number : Cond.instanceMethod yX4_number ∈ tG ∧ Cond.selects yX4_number.cls yX4_number yX4_number ∈ tG ∧ Cond.initialized yX4_number.cls ∈ tG ∧ Cond.code yX4_number cX4_number 4 (some .int) ∈ tG ∧ (yX4_number.cls ≠ "java/lang/invoke/MethodHandle" ∧ yX4_number.cls ≠ "java/lang/invoke/VarHandle" ∧ (parseMethodDescriptor yX4_number.desc).map (fun d => d.parameters.length) = some 1) ∧ 4 ≤ 60 := ⟨(tG_of (List.mem_of_getElem? (i := 569) (by decide +kernel)) (by decide +kernel)), (tG_of (List.mem_of_getElem? (i := 570) (by decide +kernel)) (by decide +kernel)), (tG_of (List.mem_of_getElem? (i := 103) (by decide +kernel)) (by decide +kernel)), (tG_of (List.mem_of_getElem? (i := 571) (by decide +kernel)) (by decide +kernel)), ⟨by decide, by decide, by decide +kernel⟩, by decide⟩
theorem mv_X2_139 : mV RX2 139 mX4_number 1 := ⟨(tG_of (List.mem_of_getElem? (i := 607) (by decide +kernel)) (by decide +kernel)), mi_X4_number⟩
theorem mv_X3_52 : mV RX3 52 mX4_number 1 := ⟨(tG_of (List.mem_of_getElem? (i := 568) (by decide +kernel)) (by decide +kernel)), mi_X4_number⟩
theorem dX4_number_0 : decode cX4_number 0 = .ok (.aload_n 0, 1) := by decide +kernel
theorem dX4_number_1 : decode cX4_number 1 = .ok (.invokevirtual 31, 3) := by decide +kernel
theorem dX4_number_4 : decode cX4_number 4 = .ok (.invokestatic 39, 3) := by decide +kernel
theorem dX4_number_7 : decode cX4_number 7 = .ok (.ifCond .ne 13, 3) := by decide +kernel
theorem dX4_number_10 : decode cX4_number 10 = .ok (.aload_n 0, 1) := by decide +kernel
theorem dX4_number_11 : decode cX4_number 11 = .ok (.aload_n 0, 1) := by decide +kernel
theorem dX4_number_12 : decode cX4_number 12 = .ok (.getfield 19, 3) := by decide +kernel
theorem dX4_number_15 : decode cX4_number 15 = .ok (.invokevirtual 35, 3) := by decide +kernel
theorem dX4_number_18 : decode cX4_number 18 = .ok (.iconst 0, 1) := by decide +kernel
theorem dX4_number_19 : decode cX4_number 19 = .ok (.ireturn, 1) := by decide +kernel
theorem dX4_number_20 : decode cX4_number 20 = .ok (.iconst 0, 1) := by decide +kernel
theorem dX4_number_21 : decode cX4_number 21 = .ok (.istore_n 2, 1) := by decide +kernel
theorem dX4_number_22 : decode cX4_number 22 = .ok (.iconst 0, 1) := by decide +kernel
theorem dX4_number_23 : decode cX4_number 23 = .ok (.istore_n 3, 1) := by decide +kernel
theorem dX4_number_24 : decode cX4_number 24 = .ok (.iload_n 3, 1) := by decide +kernel
theorem dX4_number_25 : decode cX4_number 25 = .ok (.iload_n 1, 1) := by decide +kernel
theorem dX4_number_26 : decode cX4_number 26 = .ok (.if_icmp .ge 72, 3) := by decide +kernel
theorem dX4_number_29 : decode cX4_number 29 = .ok (.aload_n 0, 1) := by decide +kernel
theorem dX4_number_30 : decode cX4_number 30 = .ok (.getfield 19, 3) := by decide +kernel
theorem dX4_number_33 : decode cX4_number 33 = .ok (.aload_n 0, 1) := by decide +kernel
theorem dX4_number_34 : decode cX4_number 34 = .ok (.getfield 9, 3) := by decide +kernel
theorem dX4_number_37 : decode cX4_number 37 = .ok (.getfield 22, 3) := by decide +kernel
theorem dX4_number_40 : decode cX4_number 40 = .ok (.if_icmp .ge 58, 3) := by decide +kernel
theorem dX4_number_43 : decode cX4_number 43 = .ok (.aload_n 0, 1) := by decide +kernel
theorem dX4_number_44 : decode cX4_number 44 = .ok (.getfield 9, 3) := by decide +kernel
theorem dX4_number_47 : decode cX4_number 47 = .ok (.getfield 27, 3) := by decide +kernel
theorem dX4_number_50 : decode cX4_number 50 = .ok (.aload_n 0, 1) := by decide +kernel
theorem dX4_number_51 : decode cX4_number 51 = .ok (.getfield 19, 3) := by decide +kernel
theorem dX4_number_54 : decode cX4_number 54 = .ok (.iaload, 1) := by decide +kernel
theorem dX4_number_55 : decode cX4_number 55 = .ok (.invokestatic 39, 3) := by decide +kernel
theorem dX4_number_58 : decode cX4_number 58 = .ok (.ifCond .eq 40, 3) := by decide +kernel
theorem dX4_number_61 : decode cX4_number 61 = .ok (.bipush 10, 2) := by decide +kernel
theorem dX4_number_63 : decode cX4_number 63 = .ok (.iload_n 2, 1) := by decide +kernel
theorem dX4_number_64 : decode cX4_number 64 = .ok (.imul, 1) := by decide +kernel
theorem dX4_number_65 : decode cX4_number 65 = .ok (.aload_n 0, 1) := by decide +kernel
theorem dX4_number_66 : decode cX4_number 66 = .ok (.getfield 9, 3) := by decide +kernel
theorem dX4_number_69 : decode cX4_number 69 = .ok (.getfield 27, 3) := by decide +kernel
theorem dX4_number_72 : decode cX4_number 72 = .ok (.aload_n 0, 1) := by decide +kernel
theorem dX4_number_73 : decode cX4_number 73 = .ok (.getfield 19, 3) := by decide +kernel
theorem dX4_number_76 : decode cX4_number 76 = .ok (.iaload, 1) := by decide +kernel
theorem dX4_number_77 : decode cX4_number 77 = .ok (.iadd, 1) := by decide +kernel
theorem dX4_number_78 : decode cX4_number 78 = .ok (.bipush 48, 2) := by decide +kernel
theorem dX4_number_80 : decode cX4_number 80 = .ok (.isub, 1) := by decide +kernel
theorem dX4_number_81 : decode cX4_number 81 = .ok (.istore_n 2, 1) := by decide +kernel
theorem dX4_number_82 : decode cX4_number 82 = .ok (.aload_n 0, 1) := by decide +kernel
theorem dX4_number_83 : decode cX4_number 83 = .ok (.dup, 1) := by decide +kernel
theorem dX4_number_84 : decode cX4_number 84 = .ok (.getfield 19, 3) := by decide +kernel
theorem dX4_number_87 : decode cX4_number 87 = .ok (.iconst 1, 1) := by decide +kernel
theorem dX4_number_88 : decode cX4_number 88 = .ok (.iadd, 1) := by decide +kernel
theorem dX4_number_89 : decode cX4_number 89 = .ok (.putfield 19, 3) := by decide +kernel
theorem dX4_number_92 : decode cX4_number 92 = .ok (.iinc 3 1, 3) := by decide +kernel
theorem dX4_number_95 : decode cX4_number 95 = .ok (.goto (-71), 3) := by decide +kernel
theorem dX4_number_98 : decode cX4_number 98 = .ok (.iload_n 2, 1) := by decide +kernel
theorem dX4_number_99 : decode cX4_number 99 = .ok (.ireturn, 1) := by decide +kernel
def X4_number_L24 (l1 : Int) : Nat → Int → Int → Mm → Rs
  | 0, _, _, _ => none
  | n + 1, l2, l3, μ => if l1 ≤ l3 then (some (l2, μ)) else (mR μ 3 0 (17, 2) fun v9 => if (μ v9 1) ≤ (μ 3 1) then (some (l2, μ)) else (mR μ 3 0 (17, 2) fun v12 => ldA μ (v12 + 1) (μ 3 1) fun v14 => bd (X4_isDigit v14 μ) fun v16 μ17 => if v16 = 0 then (some (l2, μ17)) else (mR μ17 3 0 (17, 2) fun v20 => ldA μ17 (v20 + 1) (μ17 3 1) fun v22 => lt_ (iS (iA (iM 10 l2) v22) 48) fun v24 => sF μ17 3 1 (iA (μ17 3 1) 1) fun μ25 => X4_number_L24 l1 n v24 (iA l3 1) μ25)))
def X4_number (l1 : Int) (μ : Mm) : Rs := bd (X4_peek μ) fun v1 μ2 => bd (X4_isDigit v1 μ2) fun v4 μ5 => if v4 = 0 then (bd (X4_refuseAt (μ5 3 1) μ5) fun v26 μ27 => some (0, μ27)) else (X4_number_L24 l1 FU 0 0 μ5)
set_option maxHeartbeats 4000000 in
set_option maxRecDepth 100000 in
theorem kX4_number_L24 (d : Nat) (hd : 2 ≤ d) {l1 : Int} {r : Int} {μ' : Mm} : ∀ (n : Nat) {l2 l3 : Int} {μ : Mm}, X4_number_L24 l1 n l2 l3 μ = some (r, μ') → VV d mX4_number 24 [some (vR 3), some (vI l1), some (vI l2), some (vI l3)] [] μ r μ' := by
  intro n
  induction n with
  | zero => intro l2 l3 μ h; rw [X4_number_L24] at h; cases h
  | succ n ih =>
    intro l2 l3 μ h
    rw [X4_number_L24] at h
    refine V_iload_n (q := 25) dX4_number_24 rfl rfl rfl ?_
    refine V_iload_n (q := 26) dX4_number_25 rfl rfl rfl ?_
    refine V_icmpge (q := 98) (q2 := 29) dX4_number_26 (by decide) rfl (fun hc8 => ?_) (fun hc8 => ?_)
    · have h := ifT hc8 h
      refine V_iload_n (q := 99) dX4_number_98 rfl rfl rfl ?_
      exact V_iret rfl h dX4_number_99
    · have h := ifF hc8 h
      refine V_aload_n (q := 30) dX4_number_29 rfl rfl rfl ?_
      refine V_getI (q := 33) fl_X4_19 rfl rfl rfl dX4_number_30 rfl ?_
      refine V_aload_n (q := 34) dX4_number_33 rfl rfl rfl ?_
      obtain ⟨hm10, h⟩ := mR_i h
      refine V_getM (q := 37) fl_X4_9 rfl rfl rfl dX4_number_34 rfl ?_
      refine V_getI (q := 40) fl_X4_22 hm10 rfl rfl dX4_number_37 rfl ?_
      refine V_icmpge (q := 98) (q2 := 43) dX4_number_40 (by decide) rfl (fun hc11 => ?_) (fun hc11 => ?_)
      · have h := ifT hc11 h
        refine V_iload_n (q := 99) dX4_number_98 rfl rfl rfl ?_
        exact V_iret rfl h dX4_number_99
      · have h := ifF hc11 h
        refine V_aload_n (q := 44) dX4_number_43 rfl rfl rfl ?_
        obtain ⟨hm13, h⟩ := mR_i h
        refine V_getM (q := 47) fl_X4_9 rfl rfl rfl dX4_number_44 rfl ?_
        refine V_getO (q := 50) (t := _) fl_X4_27 hm13 rfl rfl rfl dX4_number_47 rfl ?_
        refine V_aload_n (q := 51) dX4_number_50 rfl rfl rfl ?_
        refine V_getI (q := 54) fl_X4_19 rfl rfl rfl dX4_number_51 rfl ?_
        obtain ⟨hi15, h⟩ := ldA_i h
        refine V_iaload (q := 55) (kdo_7_0 hm13) hi15 dX4_number_54 rfl ?_
        obtain ⟨v16, μ17, hc18, h⟩ := bd_i h
        refine V_cS1 (q := 58) (v := vI v16) (kX4_isDigit (d - 1) (by omega) hc18) (by omega) mv_X4_39 rfl rfl rfl rfl dX4_number_55 rfl ?_
        refine V_ifeq (q := 98) (q2 := 61) dX4_number_58 (by decide) rfl (fun hc19 => ?_) (fun hc19 => ?_)
        · have h := ifT hc19 h
          refine V_iload_n (q := 99) dX4_number_98 rfl rfl rfl ?_
          exact V_iret rfl h dX4_number_99
        · have h := ifF hc19 h
          refine V_bipush (q := 63) dX4_number_61 rfl rfl rfl ?_
          refine V_iload_n (q := 64) dX4_number_63 rfl rfl rfl ?_
          refine V_imul (q := 65) dX4_number_64 rfl ?_
          refine V_aload_n (q := 66) dX4_number_65 rfl rfl rfl ?_
          obtain ⟨hm21, h⟩ := mR_i h
          refine V_getM (q := 69) fl_X4_9 rfl rfl rfl dX4_number_66 rfl ?_
          refine V_getO (q := 72) (t := _) fl_X4_27 hm21 rfl rfl rfl dX4_number_69 rfl ?_
          refine V_aload_n (q := 73) dX4_number_72 rfl rfl rfl ?_
          refine V_getI (q := 76) fl_X4_19 rfl rfl rfl dX4_number_73 rfl ?_
          obtain ⟨hi23, h⟩ := ldA_i h
          refine V_iaload (q := 77) (kdo_7_0 hm21) hi23 dX4_number_76 rfl ?_
          refine V_iadd (q := 78) dX4_number_77 rfl ?_
          refine V_bipush (q := 80) dX4_number_78 rfl rfl rfl ?_
          refine V_isub (q := 81) dX4_number_80 rfl ?_
          have h := lt_i h
          refine V_istore_n (q := 82) dX4_number_81 rfl (Nat.le_of_ble_eq_true rfl) trivial rfl ?_
          refine V_aload_n (q := 83) dX4_number_82 rfl rfl rfl ?_
          refine V_dup (q := 84) dX4_number_83 trivial rfl ?_
          refine V_getI (q := 87) fl_X4_19 rfl rfl rfl dX4_number_84 rfl ?_
          refine V_iconst (q := 88) dX4_number_87 rfl rfl ?_
          refine V_iadd (q := 89) dX4_number_88 rfl ?_
          have h := sF_i h
          refine V_putI (q := 92) fl_X4_19 rfl rfl rfl dX4_number_89 rfl ?_
          refine V_iinc (q := 95) dX4_number_92 rfl (Nat.le_of_ble_eq_true rfl) trivial rfl ?_
          refine V_goto (q := 24) dX4_number_95 (by decide) ?_
          exact V_weak (ih h) (sb_s rfl (sb_s rfl (sb_s rfl (sb_s rfl sb_0))))
set_option maxHeartbeats 4000000 in
set_option maxRecDepth 100000 in
theorem kX4_number (d : Nat) (hd : 2 ≤ d) {l1 : Int} {μ : Mm} {r : Int} {μ' : Mm} (h : X4_number l1 μ = some (r, μ')) : CC d mX4_number [vR 3, vI l1] μ r μ' := by
  unfold X4_number at h
  refine V_enter (by decide) (Nat.le_of_ble_eq_true rfl) ?_
  show VV d mX4_number 0 [some (vR 3), some (vI l1), none, none] [] μ r μ'
  refine V_aload_n (q := 1) dX4_number_0 rfl rfl rfl ?_
  obtain ⟨v1, μ2, hc3, h⟩ := bd_i h
  refine V_cV1 (q := 4) (v := vI v1) (kX4_peek (d - 1) (by omega) hc3) (by omega) mv_X4_31 rfl rfl rfl rfl rfl rfl dX4_number_1 rfl ?_
  obtain ⟨v4, μ5, hc6, h⟩ := bd_i h
  refine V_cS1 (q := 7) (v := vI v4) (kX4_isDigit (d - 1) (by omega) hc6) (by omega) mv_X4_39 rfl rfl rfl rfl dX4_number_4 rfl ?_
  refine V_ifne (q := 20) (q2 := 10) dX4_number_7 (by decide) rfl (fun hc7 => ?_) (fun hc7 => ?_)
  · have h := ifF hc7 h
    refine V_iconst (q := 21) dX4_number_20 rfl rfl ?_
    refine V_istore_n (q := 22) dX4_number_21 rfl (Nat.le_of_ble_eq_true rfl) trivial rfl ?_
    refine V_iconst (q := 23) dX4_number_22 rfl rfl ?_
    refine V_istore_n (q := 24) dX4_number_23 rfl (Nat.le_of_ble_eq_true rfl) trivial rfl ?_
    exact V_weak (kX4_number_L24 d hd  FU h) (sb_s rfl (sb_s rfl (sb_s rfl (sb_s rfl sb_0))))
  · have h := ifT hc7 h
    refine V_aload_n (q := 11) dX4_number_10 rfl rfl rfl ?_
    refine V_aload_n (q := 12) dX4_number_11 rfl rfl rfl ?_
    refine V_getI (q := 15) fl_X4_19 rfl rfl rfl dX4_number_12 rfl ?_
    obtain ⟨v26, μ27, hc28, h⟩ := bd_i h
    refine V_cV0 (q := 18) (kX4_refuseAt (d - 1) (by omega) hc28) (by omega) mv_X4_35 rfl rfl rfl rfl rfl rfl dX4_number_15 rfl ?_
    refine V_iconst (q := 19) dX4_number_18 rfl rfl ?_
    exact V_iret rfl h dX4_number_19
abbrev mX2_letter : Mth := (yX2_letter, cX2_letter, 3, some .int)
theorem mi_X2_letter : Cond.instanceMethod yX2_letter ∈ tG ∧ Cond.selects yX2_letter.cls yX2_letter yX2_letter ∈ tG ∧ Cond.initialized yX2_letter.cls ∈ tG ∧ Cond.code yX2_letter cX2_letter 3 (some .int) ∈ tG ∧ (yX2_letter.cls ≠ "java/lang/invoke/MethodHandle" ∧ yX2_letter.cls ≠ "java/lang/invoke/VarHandle" ∧ (parseMethodDescriptor yX2_letter.desc).map (fun d => d.parameters.length) = some 1) ∧ 3 ≤ 60 := ⟨(tG_of (List.mem_of_getElem? (i := 611) (by decide +kernel)) (by decide +kernel)), (tG_of (List.mem_of_getElem? (i := 9) (by decide +kernel)) (by decide +kernel)), (tG_of (List.mem_of_getElem? (i := 104) (by decide +kernel)) (by decide +kernel)), (tG_of (List.mem_of_getElem? (i := 612) (by decide +kernel)) (by decide +kernel)), ⟨by decide, by decide, by decide +kernel⟩, by decide⟩
theorem mv_X2_141 : mV RX2 141 mX2_letter 1 := ⟨(tG_of (List.mem_of_getElem? (i := 609) (by decide +kernel)) (by decide +kernel)), mi_X2_letter⟩
theorem dX2_letter_0 : decode cX2_letter 0 = .ok (.iconst 0, 1) := by decide +kernel
theorem dX2_letter_1 : decode cX2_letter 1 = .ok (.istore_n 2, 1) := by decide +kernel
theorem dX2_letter_2 : decode cX2_letter 2 = .ok (.iload_n 1, 1) := by decide +kernel
theorem dX2_letter_3 : decode cX2_letter 3 = .ok (.lookupswitch 89 #[(99, 73), (107, 57), (108, 81), (110, 65), (116, 49)], 49) := by decide +kernel
theorem dX2_letter_52 : decode cX2_letter 52 = .ok (.aload_n 0, 1) := by decide +kernel
theorem dX2_letter_53 : decode cX2_letter 53 = .ok (.getfield 40, 3) := by decide +kernel
theorem dX2_letter_56 : decode cX2_letter 56 = .ok (.istore_n 2, 1) := by decide +kernel
theorem dX2_letter_57 : decode cX2_letter 57 = .ok (.goto 51, 3) := by decide +kernel
theorem dX2_letter_60 : decode cX2_letter 60 = .ok (.aload_n 0, 1) := by decide +kernel
theorem dX2_letter_61 : decode cX2_letter 61 = .ok (.getfield 43, 3) := by decide +kernel
theorem dX2_letter_64 : decode cX2_letter 64 = .ok (.istore_n 2, 1) := by decide +kernel
theorem dX2_letter_65 : decode cX2_letter 65 = .ok (.goto 43, 3) := by decide +kernel
theorem dX2_letter_68 : decode cX2_letter 68 = .ok (.aload_n 0, 1) := by decide +kernel
theorem dX2_letter_69 : decode cX2_letter 69 = .ok (.getfield 25, 3) := by decide +kernel
theorem dX2_letter_72 : decode cX2_letter 72 = .ok (.istore_n 2, 1) := by decide +kernel
theorem dX2_letter_73 : decode cX2_letter 73 = .ok (.goto 35, 3) := by decide +kernel
theorem dX2_letter_76 : decode cX2_letter 76 = .ok (.aload_n 0, 1) := by decide +kernel
theorem dX2_letter_77 : decode cX2_letter 77 = .ok (.getfield 49, 3) := by decide +kernel
theorem dX2_letter_80 : decode cX2_letter 80 = .ok (.istore_n 2, 1) := by decide +kernel
theorem dX2_letter_81 : decode cX2_letter 81 = .ok (.goto 27, 3) := by decide +kernel
theorem dX2_letter_84 : decode cX2_letter 84 = .ok (.aload_n 0, 1) := by decide +kernel
theorem dX2_letter_85 : decode cX2_letter 85 = .ok (.getfield 33, 3) := by decide +kernel
theorem dX2_letter_88 : decode cX2_letter 88 = .ok (.istore_n 2, 1) := by decide +kernel
theorem dX2_letter_89 : decode cX2_letter 89 = .ok (.goto 19, 3) := by decide +kernel
theorem dX2_letter_92 : decode cX2_letter 92 = .ok (.aload_n 0, 1) := by decide +kernel
theorem dX2_letter_93 : decode cX2_letter 93 = .ok (.getfield 9, 3) := by decide +kernel
theorem dX2_letter_96 : decode cX2_letter 96 = .ok (.aload_n 0, 1) := by decide +kernel
theorem dX2_letter_97 : decode cX2_letter 97 = .ok (.getfield 9, 3) := by decide +kernel
theorem dX2_letter_100 : decode cX2_letter 100 = .ok (.getfield 90, 3) := by decide +kernel
theorem dX2_letter_103 : decode cX2_letter 103 = .ok (.invokevirtual 105, 3) := by decide +kernel
theorem dX2_letter_106 : decode cX2_letter 106 = .ok (.iconst 0, 1) := by decide +kernel
theorem dX2_letter_107 : decode cX2_letter 107 = .ok (.ireturn, 1) := by decide +kernel
theorem dX2_letter_108 : decode cX2_letter 108 = .ok (.aload_n 0, 1) := by decide +kernel
theorem dX2_letter_109 : decode cX2_letter 109 = .ok (.getfield 9, 3) := by decide +kernel
theorem dX2_letter_112 : decode cX2_letter 112 = .ok (.invokevirtual 108, 3) := by decide +kernel
theorem dX2_letter_115 : decode cX2_letter 115 = .ok (.iload_n 2, 1) := by decide +kernel
theorem dX2_letter_116 : decode cX2_letter 116 = .ok (.ireturn, 1) := by decide +kernel
def X2_letter (l1 : Int) (μ : Mm) : Rs := if l1 = 99 then (bd (X4_pass μ) fun v2 μ3 => some (μ 4 4, μ3)) else (if l1 = 107 then (bd (X4_pass μ) fun v6 μ7 => some (μ 4 2, μ7)) else (if l1 = 108 then (bd (X4_pass μ) fun v10 μ11 => some (μ 4 5, μ11)) else (if l1 = 110 then (bd (X4_pass μ) fun v14 μ15 => some (μ 4 3, μ15)) else (if l1 = 116 then (bd (X4_pass μ) fun v18 μ19 => some (μ 4 1, μ19)) else (bd (X4_refuseAt (μ 3 1) μ) fun v21 μ22 => some (0, μ22))))))
set_option maxHeartbeats 4000000 in
set_option maxRecDepth 100000 in
theorem kX2_letter (d : Nat) (hd : 2 ≤ d) {l1 : Int} {μ : Mm} {r : Int} {μ' : Mm} (h : X2_letter l1 μ = some (r, μ')) : CC d mX2_letter [vR 4, vI l1] μ r μ' := by
  unfold X2_letter at h
  refine V_enter (by decide) (Nat.le_of_ble_eq_true rfl) ?_
  show VV d mX2_letter 0 [some (vR 4), some (vI l1), none] [] μ r μ'
  refine V_iconst (q := 1) dX2_letter_0 rfl rfl ?_
  refine V_istore_n (q := 2) dX2_letter_1 rfl (Nat.le_of_ble_eq_true rfl) trivial rfl ?_
  refine V_iload_n (q := 3) dX2_letter_2 rfl rfl rfl ?_
  refine V_ls1 (q := 76) 99 dX2_letter_3 rfl rfl (by decide) (fun hc1 => ?_) (fun hc1 => ?_)
  · have h := ifT hc1 h
    refine V_aload_n (q := 77) dX2_letter_76 rfl rfl rfl ?_
    refine V_getI (q := 80) fl_X2_49 rfl rfl rfl dX2_letter_77 rfl ?_
    refine V_istore_n (q := 81) dX2_letter_80 rfl (Nat.le_of_ble_eq_true rfl) trivial rfl ?_
    refine V_goto (q := 108) dX2_letter_81 (by decide) ?_
    refine V_aload_n (q := 109) dX2_letter_108 rfl rfl rfl ?_
    refine V_getC (q := 112) fl_X2_9 rfl rfl rfl dX2_letter_109 rfl ?_
    obtain ⟨v2, μ3, hc4, h⟩ := bd_i h
    refine V_cV0 (q := 115) (kX4_pass (d - 1) (by omega) hc4) (by omega) mv_X2_108 rfl rfl rfl rfl rfl rfl dX2_letter_112 rfl ?_
    refine V_iload_n (q := 116) dX2_letter_115 rfl rfl rfl ?_
    exact V_iret rfl h dX2_letter_116
  · have h := ifF hc1 h
    refine V_ls1 (q := 60) 107 dX2_letter_3 rfl rfl (by decide) (fun hc5 => ?_) (fun hc5 => ?_)
    · have h := ifT hc5 h
      refine V_aload_n (q := 61) dX2_letter_60 rfl rfl rfl ?_
      refine V_getI (q := 64) fl_X2_43 rfl rfl rfl dX2_letter_61 rfl ?_
      refine V_istore_n (q := 65) dX2_letter_64 rfl (Nat.le_of_ble_eq_true rfl) trivial rfl ?_
      refine V_goto (q := 108) dX2_letter_65 (by decide) ?_
      refine V_aload_n (q := 109) dX2_letter_108 rfl rfl rfl ?_
      refine V_getC (q := 112) fl_X2_9 rfl rfl rfl dX2_letter_109 rfl ?_
      obtain ⟨v6, μ7, hc8, h⟩ := bd_i h
      refine V_cV0 (q := 115) (kX4_pass (d - 1) (by omega) hc8) (by omega) mv_X2_108 rfl rfl rfl rfl rfl rfl dX2_letter_112 rfl ?_
      refine V_iload_n (q := 116) dX2_letter_115 rfl rfl rfl ?_
      exact V_iret rfl h dX2_letter_116
    · have h := ifF hc5 h
      refine V_ls1 (q := 84) 108 dX2_letter_3 rfl rfl (by decide) (fun hc9 => ?_) (fun hc9 => ?_)
      · have h := ifT hc9 h
        refine V_aload_n (q := 85) dX2_letter_84 rfl rfl rfl ?_
        refine V_getI (q := 88) fl_X2_33 rfl rfl rfl dX2_letter_85 rfl ?_
        refine V_istore_n (q := 89) dX2_letter_88 rfl (Nat.le_of_ble_eq_true rfl) trivial rfl ?_
        refine V_goto (q := 108) dX2_letter_89 (by decide) ?_
        refine V_aload_n (q := 109) dX2_letter_108 rfl rfl rfl ?_
        refine V_getC (q := 112) fl_X2_9 rfl rfl rfl dX2_letter_109 rfl ?_
        obtain ⟨v10, μ11, hc12, h⟩ := bd_i h
        refine V_cV0 (q := 115) (kX4_pass (d - 1) (by omega) hc12) (by omega) mv_X2_108 rfl rfl rfl rfl rfl rfl dX2_letter_112 rfl ?_
        refine V_iload_n (q := 116) dX2_letter_115 rfl rfl rfl ?_
        exact V_iret rfl h dX2_letter_116
      · have h := ifF hc9 h
        refine V_ls1 (q := 68) 110 dX2_letter_3 rfl rfl (by decide) (fun hc13 => ?_) (fun hc13 => ?_)
        · have h := ifT hc13 h
          refine V_aload_n (q := 69) dX2_letter_68 rfl rfl rfl ?_
          refine V_getI (q := 72) fl_X2_25 rfl rfl rfl dX2_letter_69 rfl ?_
          refine V_istore_n (q := 73) dX2_letter_72 rfl (Nat.le_of_ble_eq_true rfl) trivial rfl ?_
          refine V_goto (q := 108) dX2_letter_73 (by decide) ?_
          refine V_aload_n (q := 109) dX2_letter_108 rfl rfl rfl ?_
          refine V_getC (q := 112) fl_X2_9 rfl rfl rfl dX2_letter_109 rfl ?_
          obtain ⟨v14, μ15, hc16, h⟩ := bd_i h
          refine V_cV0 (q := 115) (kX4_pass (d - 1) (by omega) hc16) (by omega) mv_X2_108 rfl rfl rfl rfl rfl rfl dX2_letter_112 rfl ?_
          refine V_iload_n (q := 116) dX2_letter_115 rfl rfl rfl ?_
          exact V_iret rfl h dX2_letter_116
        · have h := ifF hc13 h
          refine V_ls1 (q := 52) 116 dX2_letter_3 rfl rfl (by decide) (fun hc17 => ?_) (fun hc17 => ?_)
          · have h := ifT hc17 h
            refine V_aload_n (q := 53) dX2_letter_52 rfl rfl rfl ?_
            refine V_getI (q := 56) fl_X2_40 rfl rfl rfl dX2_letter_53 rfl ?_
            refine V_istore_n (q := 57) dX2_letter_56 rfl (Nat.le_of_ble_eq_true rfl) trivial rfl ?_
            refine V_goto (q := 108) dX2_letter_57 (by decide) ?_
            refine V_aload_n (q := 109) dX2_letter_108 rfl rfl rfl ?_
            refine V_getC (q := 112) fl_X2_9 rfl rfl rfl dX2_letter_109 rfl ?_
            obtain ⟨v18, μ19, hc20, h⟩ := bd_i h
            refine V_cV0 (q := 115) (kX4_pass (d - 1) (by omega) hc20) (by omega) mv_X2_108 rfl rfl rfl rfl rfl rfl dX2_letter_112 rfl ?_
            refine V_iload_n (q := 116) dX2_letter_115 rfl rfl rfl ?_
            exact V_iret rfl h dX2_letter_116
          · have h := ifF hc17 h
            refine V_ls (q := 92) (off := 89) dX2_letter_3 rfl (by simp [Op.lookupswitch.offset, Ne.symm hc1, Ne.symm hc5, Ne.symm hc9, Ne.symm hc13, Ne.symm hc17]) (by decide) ?_
            refine V_aload_n (q := 93) dX2_letter_92 rfl rfl rfl ?_
            refine V_getC (q := 96) fl_X2_9 rfl rfl rfl dX2_letter_93 rfl ?_
            refine V_aload_n (q := 97) dX2_letter_96 rfl rfl rfl ?_
            refine V_getC (q := 100) fl_X2_9 rfl rfl rfl dX2_letter_97 rfl ?_
            refine V_getI (q := 103) fl_X2_90 rfl rfl rfl dX2_letter_100 rfl ?_
            obtain ⟨v21, μ22, hc23, h⟩ := bd_i h
            refine V_cV0 (q := 106) (kX4_refuseAt (d - 1) (by omega) hc23) (by omega) mv_X2_105 rfl rfl rfl rfl rfl rfl dX2_letter_103 rfl ?_
            refine V_iconst (q := 107) dX2_letter_106 rfl rfl ?_
            exact V_iret rfl h dX2_letter_107
abbrev mJ9_min_f86c9 : Mth := (yJ9_min_f86c9, cJ9_min_f86c9, 4, some .long)
theorem mi_J9_min_f86c9 : Cond.static yJ9_min_f86c9 ∈ tG ∧ Cond.initialized yJ9_min_f86c9.cls ∈ tG ∧ Cond.code yJ9_min_f86c9 cJ9_min_f86c9 4 (some .long) ∈ tG ∧ (yJ9_min_f86c9.cls ≠ "java/lang/invoke/MethodHandle" ∧ yJ9_min_f86c9.cls ≠ "java/lang/invoke/VarHandle" ∧ (parseMethodDescriptor yJ9_min_f86c9.desc).map (fun d => d.parameters.length) = some 2) ∧ 4 ≤ 60 := ⟨(tG_of (List.mem_of_getElem? (i := 621) (by decide +kernel)) (by decide +kernel)), (tG_of (List.mem_of_getElem? (i := 113) (by decide +kernel)) (by decide +kernel)), (tG_of (List.mem_of_getElem? (i := 622) (by decide +kernel)) (by decide +kernel)), ⟨by decide, by decide, by decide +kernel⟩, by decide⟩
theorem mv_X2_131 : mS RX2 131 mJ9_min_f86c9 2 := ⟨(tG_of (List.mem_of_getElem? (i := 620) (by decide +kernel)) (by decide +kernel)), mi_J9_min_f86c9.1, (tG_of (List.mem_of_getElem? (i := 104) (by decide +kernel)) (by decide +kernel)), mi_J9_min_f86c9.2⟩
theorem mv_X11_192 : mS RX11 192 mJ9_min_f86c9 2 := ⟨(tG_of (List.mem_of_getElem? (i := 1533) (by decide +kernel)) (by decide +kernel)), mi_J9_min_f86c9.1, (tG_of (List.mem_of_getElem? (i := 112) (by decide +kernel)) (by decide +kernel)), mi_J9_min_f86c9.2⟩
theorem dJ9_min_f86c9_0 : decode cJ9_min_f86c9 0 = .ok (.lload_n 0, 1) := by decide +kernel
theorem dJ9_min_f86c9_1 : decode cJ9_min_f86c9 1 = .ok (.lload_n 2, 1) := by decide +kernel
theorem dJ9_min_f86c9_2 : decode cJ9_min_f86c9 2 = .ok (.lcmp, 1) := by decide +kernel
theorem dJ9_min_f86c9_3 : decode cJ9_min_f86c9 3 = .ok (.ifCond .gt 7, 3) := by decide +kernel
theorem dJ9_min_f86c9_6 : decode cJ9_min_f86c9 6 = .ok (.lload_n 0, 1) := by decide +kernel
theorem dJ9_min_f86c9_7 : decode cJ9_min_f86c9 7 = .ok (.goto 4, 3) := by decide +kernel
theorem dJ9_min_f86c9_10 : decode cJ9_min_f86c9 10 = .ok (.lload_n 2, 1) := by decide +kernel
theorem dJ9_min_f86c9_11 : decode cJ9_min_f86c9 11 = .ok (.lreturn, 1) := by decide +kernel
def J9_min_f86c9 (l0 : Int) (l2 : Int) (μ : Mm) : Rs := if 0 < (lC l0 l2) then (some (l2, μ)) else (some (l0, μ))
set_option maxHeartbeats 4000000 in
set_option maxRecDepth 100000 in
theorem kJ9_min_f86c9 (d : Nat) (hd : 1 ≤ d) {l0 : Int} {l2 : Int} {μ : Mm} {r : Int} {μ' : Mm} (h : J9_min_f86c9 l0 l2 μ = some (r, μ')) : CC d mJ9_min_f86c9 [vL l0, vL l2] μ r μ' := by
  unfold J9_min_f86c9 at h
  refine V_enter (by decide) (Nat.le_of_ble_eq_true rfl) ?_
  show VV d mJ9_min_f86c9 0 [some (vL l0), none, some (vL l2), none] [] μ r μ'
  refine V_lload_n (q := 1) dJ9_min_f86c9_0 rfl rfl rfl ?_
  refine V_lload_n (q := 2) dJ9_min_f86c9_1 rfl rfl rfl ?_
  refine V_lcmp (q := 3) dJ9_min_f86c9_2 rfl ?_
  refine V_ifgt (q := 10) (q2 := 6) dJ9_min_f86c9_3 (by decide) rfl (fun hc1 => ?_) (fun hc1 => ?_)
  · have h := ifT hc1 h
    refine V_lload_n (q := 11) dJ9_min_f86c9_10 rfl rfl rfl ?_
    exact V_lret rfl h dJ9_min_f86c9_11
  · have h := ifF hc1 h
    refine V_lload_n (q := 7) dJ9_min_f86c9_6 rfl rfl rfl ?_
    refine V_goto (q := 11) dJ9_min_f86c9_7 (by decide) ?_
    exact V_lret rfl h dJ9_min_f86c9_11
abbrev mJ9_max_f86c9 : Mth := (yJ9_max_f86c9, cJ9_max_f86c9, 4, some .long)
theorem mi_J9_max_f86c9 : Cond.static yJ9_max_f86c9 ∈ tG ∧ Cond.initialized yJ9_max_f86c9.cls ∈ tG ∧ Cond.code yJ9_max_f86c9 cJ9_max_f86c9 4 (some .long) ∈ tG ∧ (yJ9_max_f86c9.cls ≠ "java/lang/invoke/MethodHandle" ∧ yJ9_max_f86c9.cls ≠ "java/lang/invoke/VarHandle" ∧ (parseMethodDescriptor yJ9_max_f86c9.desc).map (fun d => d.parameters.length) = some 2) ∧ 4 ≤ 60 := ⟨(tG_of (List.mem_of_getElem? (i := 624) (by decide +kernel)) (by decide +kernel)), (tG_of (List.mem_of_getElem? (i := 113) (by decide +kernel)) (by decide +kernel)), (tG_of (List.mem_of_getElem? (i := 625) (by decide +kernel)) (by decide +kernel)), ⟨by decide, by decide, by decide +kernel⟩, by decide⟩
theorem mv_X2_134 : mS RX2 134 mJ9_max_f86c9 2 := ⟨(tG_of (List.mem_of_getElem? (i := 623) (by decide +kernel)) (by decide +kernel)), mi_J9_max_f86c9.1, (tG_of (List.mem_of_getElem? (i := 104) (by decide +kernel)) (by decide +kernel)), mi_J9_max_f86c9.2⟩
theorem mv_X11_198 : mS RX11 198 mJ9_max_f86c9 2 := ⟨(tG_of (List.mem_of_getElem? (i := 1534) (by decide +kernel)) (by decide +kernel)), mi_J9_max_f86c9.1, (tG_of (List.mem_of_getElem? (i := 112) (by decide +kernel)) (by decide +kernel)), mi_J9_max_f86c9.2⟩
theorem dJ9_max_f86c9_0 : decode cJ9_max_f86c9 0 = .ok (.lload_n 0, 1) := by decide +kernel
theorem dJ9_max_f86c9_1 : decode cJ9_max_f86c9 1 = .ok (.lload_n 2, 1) := by decide +kernel
theorem dJ9_max_f86c9_2 : decode cJ9_max_f86c9 2 = .ok (.lcmp, 1) := by decide +kernel
theorem dJ9_max_f86c9_3 : decode cJ9_max_f86c9 3 = .ok (.ifCond .lt 7, 3) := by decide +kernel
theorem dJ9_max_f86c9_6 : decode cJ9_max_f86c9 6 = .ok (.lload_n 0, 1) := by decide +kernel
theorem dJ9_max_f86c9_7 : decode cJ9_max_f86c9 7 = .ok (.goto 4, 3) := by decide +kernel
theorem dJ9_max_f86c9_10 : decode cJ9_max_f86c9 10 = .ok (.lload_n 2, 1) := by decide +kernel
theorem dJ9_max_f86c9_11 : decode cJ9_max_f86c9 11 = .ok (.lreturn, 1) := by decide +kernel
def J9_max_f86c9 (l0 : Int) (l2 : Int) (μ : Mm) : Rs := if (lC l0 l2) < 0 then (some (l2, μ)) else (some (l0, μ))
set_option maxHeartbeats 4000000 in
set_option maxRecDepth 100000 in
theorem kJ9_max_f86c9 (d : Nat) (hd : 1 ≤ d) {l0 : Int} {l2 : Int} {μ : Mm} {r : Int} {μ' : Mm} (h : J9_max_f86c9 l0 l2 μ = some (r, μ')) : CC d mJ9_max_f86c9 [vL l0, vL l2] μ r μ' := by
  unfold J9_max_f86c9 at h
  refine V_enter (by decide) (Nat.le_of_ble_eq_true rfl) ?_
  show VV d mJ9_max_f86c9 0 [some (vL l0), none, some (vL l2), none] [] μ r μ'
  refine V_lload_n (q := 1) dJ9_max_f86c9_0 rfl rfl rfl ?_
  refine V_lload_n (q := 2) dJ9_max_f86c9_1 rfl rfl rfl ?_
  refine V_lcmp (q := 3) dJ9_max_f86c9_2 rfl ?_
  refine V_iflt (q := 10) (q2 := 6) dJ9_max_f86c9_3 (by decide) rfl (fun hc1 => ?_) (fun hc1 => ?_)
  · have h := ifT hc1 h
    refine V_lload_n (q := 11) dJ9_max_f86c9_10 rfl rfl rfl ?_
    exact V_lret rfl h dJ9_max_f86c9_11
  · have h := ifF hc1 h
    refine V_lload_n (q := 7) dJ9_max_f86c9_6 rfl rfl rfl ?_
    refine V_goto (q := 11) dJ9_max_f86c9_7 (by decide) ?_
    exact V_lret rfl h dJ9_max_f86c9_11
abbrev mX2_held : Mth := (yX2_held, cX2_held, 2, some .long)
theorem mi_X2_held : Cond.static yX2_held ∈ tG ∧ Cond.initialized yX2_held.cls ∈ tG ∧ Cond.code yX2_held cX2_held 2 (some .long) ∈ tG ∧ (yX2_held.cls ≠ "java/lang/invoke/MethodHandle" ∧ yX2_held.cls ≠ "java/lang/invoke/VarHandle" ∧ (parseMethodDescriptor yX2_held.desc).map (fun d => d.parameters.length) = some 1) ∧ 2 ≤ 60 := ⟨(tG_of (List.mem_of_getElem? (i := 616) (by decide +kernel)) (by decide +kernel)), (tG_of (List.mem_of_getElem? (i := 104) (by decide +kernel)) (by decide +kernel)), (tG_of (List.mem_of_getElem? (i := 617) (by decide +kernel)) (by decide +kernel)), ⟨by decide, by decide, by decide +kernel⟩, by decide⟩
theorem mv_X2_120 : mS RX2 120 mX2_held 1 := ⟨(tG_of (List.mem_of_getElem? (i := 615) (by decide +kernel)) (by decide +kernel)), mi_X2_held.1, (tG_of (List.mem_of_getElem? (i := 104) (by decide +kernel)) (by decide +kernel)), mi_X2_held.2⟩
theorem dX2_held_0 : decode cX2_held 0 = .ok (.ldc2_w 127, 3) := by decide +kernel
theorem dX2_held_3 : decode cX2_held 3 = .ok (.ldc2_w 129, 3) := by decide +kernel
theorem dX2_held_6 : decode cX2_held 6 = .ok (.lload_n 0, 1) := by decide +kernel
theorem dX2_held_7 : decode cX2_held 7 = .ok (.invokestatic 131, 3) := by decide +kernel
theorem dX2_held_10 : decode cX2_held 10 = .ok (.invokestatic 134, 3) := by decide +kernel
theorem dX2_held_13 : decode cX2_held 13 = .ok (.lreturn, 1) := by decide +kernel
def X2_held (l0 : Int) (μ : Mm) : Rs := bd (J9_min_f86c9 1000000 l0 μ) fun v1 μ2 => bd (J9_max_f86c9 (-1000000) v1 μ2) fun v4 μ5 => some (v4, μ5)
set_option maxHeartbeats 4000000 in
set_option maxRecDepth 100000 in
theorem kX2_held (d : Nat) (hd : 2 ≤ d) {l0 : Int} {μ : Mm} {r : Int} {μ' : Mm} (h : X2_held l0 μ = some (r, μ')) : CC d mX2_held [vL l0] μ r μ' := by
  unfold X2_held at h
  refine V_enter (by decide) (Nat.le_of_ble_eq_true rfl) ?_
  show VV d mX2_held 0 [some (vL l0), none] [] μ r μ'
  refine V_ldc2 (q := 3) (n := -1000000) dX2_held_0 (by decide) kc_X2_127 rfl ?_
  refine V_ldc2 (q := 6) (n := 1000000) dX2_held_3 (by decide) kc_X2_129 rfl ?_
  refine V_lload_n (q := 7) dX2_held_6 rfl rfl rfl ?_
  obtain ⟨v1, μ2, hc3, h⟩ := bd_i h
  refine V_cS1 (q := 10) (v := vL v1) (kJ9_min_f86c9 (d - 1) (by omega) hc3) (by omega) mv_X2_131 rfl rfl rfl rfl dX2_held_7 rfl ?_
  obtain ⟨v4, μ5, hc6, h⟩ := bd_i h
  refine V_cS1 (q := 13) (v := vL v4) (kJ9_max_f86c9 (d - 1) (by omega) hc6) (by omega) mv_X2_134 rfl rfl rfl rfl dX2_held_10 rfl ?_
  exact V_lret rfl h dX2_held_13
abbrev mX2_atom : Mth := (yX2_atom, cX2_atom, 4, some .int)
theorem mi_X2_atom : Cond.instanceMethod yX2_atom ∈ tG ∧ Cond.selects yX2_atom.cls yX2_atom yX2_atom ∈ tG ∧ Cond.initialized yX2_atom.cls ∈ tG ∧ Cond.code yX2_atom cX2_atom 4 (some .int) ∈ tG ∧ (yX2_atom.cls ≠ "java/lang/invoke/MethodHandle" ∧ yX2_atom.cls ≠ "java/lang/invoke/VarHandle" ∧ (parseMethodDescriptor yX2_atom.desc).map (fun d => d.parameters.length) = some 1) ∧ 4 ≤ 60 := ⟨(tG_of (List.mem_of_getElem? (i := 604) (by decide +kernel)) (by decide +kernel)), (tG_of (List.mem_of_getElem? (i := 8) (by decide +kernel)) (by decide +kernel)), (tG_of (List.mem_of_getElem? (i := 104) (by decide +kernel)) (by decide +kernel)), (tG_of (List.mem_of_getElem? (i := 605) (by decide +kernel)) (by decide +kernel)), ⟨by decide, by decide, by decide +kernel⟩, by decide⟩
theorem mv_X2_124 : mV RX2 124 mX2_atom 1 := ⟨(tG_of (List.mem_of_getElem? (i := 602) (by decide +kernel)) (by decide +kernel)), mi_X2_atom⟩
theorem dX2_atom_0 : decode cX2_atom 0 = .ok (.aload_n 0, 1) := by decide +kernel
theorem dX2_atom_1 : decode cX2_atom 1 = .ok (.getfield 9, 3) := by decide +kernel
theorem dX2_atom_4 : decode cX2_atom 4 = .ok (.invokevirtual 87, 3) := by decide +kernel
theorem dX2_atom_7 : decode cX2_atom 7 = .ok (.istore_n 2, 1) := by decide +kernel
theorem dX2_atom_8 : decode cX2_atom 8 = .ok (.iload_n 2, 1) := by decide +kernel
theorem dX2_atom_9 : decode cX2_atom 9 = .ok (.invokestatic 136, 3) := by decide +kernel
theorem dX2_atom_12 : decode cX2_atom 12 = .ok (.ifCond .eq 12, 3) := by decide +kernel
theorem dX2_atom_15 : decode cX2_atom 15 = .ok (.aload_n 0, 1) := by decide +kernel
theorem dX2_atom_16 : decode cX2_atom 16 = .ok (.getfield 9, 3) := by decide +kernel
theorem dX2_atom_19 : decode cX2_atom 19 = .ok (.iconst 4, 1) := by decide +kernel
theorem dX2_atom_20 : decode cX2_atom 20 = .ok (.invokevirtual 139, 3) := by decide +kernel
theorem dX2_atom_23 : decode cX2_atom 23 = .ok (.ireturn, 1) := by decide +kernel
theorem dX2_atom_24 : decode cX2_atom 24 = .ok (.iload_n 2, 1) := by decide +kernel
theorem dX2_atom_25 : decode cX2_atom 25 = .ok (.bipush 91, 2) := by decide +kernel
theorem dX2_atom_27 : decode cX2_atom 27 = .ok (.if_icmp .ne 35, 3) := by decide +kernel
theorem dX2_atom_30 : decode cX2_atom 30 = .ok (.iload_n 1, 1) := by decide +kernel
theorem dX2_atom_31 : decode cX2_atom 31 = .ok (.bipush 6, 2) := by decide +kernel
theorem dX2_atom_33 : decode cX2_atom 33 = .ok (.if_icmp .ge 29, 3) := by decide +kernel
theorem dX2_atom_36 : decode cX2_atom 36 = .ok (.aload_n 0, 1) := by decide +kernel
theorem dX2_atom_37 : decode cX2_atom 37 = .ok (.getfield 9, 3) := by decide +kernel
theorem dX2_atom_40 : decode cX2_atom 40 = .ok (.invokevirtual 108, 3) := by decide +kernel
theorem dX2_atom_43 : decode cX2_atom 43 = .ok (.aload_n 0, 1) := by decide +kernel
theorem dX2_atom_44 : decode cX2_atom 44 = .ok (.iload_n 1, 1) := by decide +kernel
theorem dX2_atom_45 : decode cX2_atom 45 = .ok (.iconst 1, 1) := by decide +kernel
theorem dX2_atom_46 : decode cX2_atom 46 = .ok (.iadd, 1) := by decide +kernel
theorem dX2_atom_47 : decode cX2_atom 47 = .ok (.invokevirtual 77, 3) := by decide +kernel
theorem dX2_atom_50 : decode cX2_atom 50 = .ok (.istore_n 3, 1) := by decide +kernel
theorem dX2_atom_51 : decode cX2_atom 51 = .ok (.aload_n 0, 1) := by decide +kernel
theorem dX2_atom_52 : decode cX2_atom 52 = .ok (.getfield 9, 3) := by decide +kernel
theorem dX2_atom_55 : decode cX2_atom 55 = .ok (.bipush 93, 2) := by decide +kernel
theorem dX2_atom_57 : decode cX2_atom 57 = .ok (.invokevirtual 65, 3) := by decide +kernel
theorem dX2_atom_60 : decode cX2_atom 60 = .ok (.iload_n 3, 1) := by decide +kernel
theorem dX2_atom_61 : decode cX2_atom 61 = .ok (.ireturn, 1) := by decide +kernel
theorem dX2_atom_62 : decode cX2_atom 62 = .ok (.aload_n 0, 1) := by decide +kernel
theorem dX2_atom_63 : decode cX2_atom 63 = .ok (.iload_n 2, 1) := by decide +kernel
theorem dX2_atom_64 : decode cX2_atom 64 = .ok (.invokevirtual 141, 3) := by decide +kernel
theorem dX2_atom_67 : decode cX2_atom 67 = .ok (.ireturn, 1) := by decide +kernel
def X2_atom_o (rec : Int → Mm → Rs) (l1 : Int) (μ : Mm) : Rs := bd (X4_peek μ) fun v1 μ2 => bd (X4_isDigit v1 μ2) fun v4 μ5 => if v4 = 0 then (if v1 = 91 then (if 6 ≤ l1 then (bd (X2_letter v1 μ5) fun v13 μ14 => some (v13, μ14)) else (bd (X4_pass μ5) fun v16 μ17 => bd (rec (iA l1 1) μ17) fun v19 μ20 => bd (X4_need 93 μ20) fun v22 μ23 => some (v19, μ23))) else (bd (X2_letter v1 μ5) fun v9 μ10 => some (v9, μ10))) else (bd (X4_number 4 μ5) fun v25 μ26 => some (v25, μ26))
set_option maxHeartbeats 4000000 in
set_option maxRecDepth 100000 in
theorem kX2_atom (d : Nat) (hd : d0 + 2 ≤ d) {rec : Int → Mm → Rs} (hrec : ∀ {q1 : Int} {μ1 : Mm} {r1 : Int} {μ2 : Mm}, rec q1 μ1 = some (r1, μ2) → CC d0 mX2_sum [vR 4, vI q1] μ1 r1 μ2) (hb : 5 ≤ d) {l1 : Int} {μ : Mm} {r : Int} {μ' : Mm} (h : X2_atom_o rec l1 μ = some (r, μ')) : CC d mX2_atom [vR 4, vI l1] μ r μ' := by
  unfold X2_atom_o at h
  refine V_enter (by decide) (Nat.le_of_ble_eq_true rfl) ?_
  show VV d mX2_atom 0 [some (vR 4), some (vI l1), none, none] [] μ r μ'
  refine V_aload_n (q := 1) dX2_atom_0 rfl rfl rfl ?_
  refine V_getC (q := 4) fl_X2_9 rfl rfl rfl dX2_atom_1 rfl ?_
  obtain ⟨v1, μ2, hc3, h⟩ := bd_i h
  refine V_cV1 (q := 7) (v := vI v1) (kX4_peek (d - 1) (by omega) hc3) (by omega) mv_X2_87 rfl rfl rfl rfl rfl rfl dX2_atom_4 rfl ?_
  refine V_istore_n (q := 8) dX2_atom_7 rfl (Nat.le_of_ble_eq_true rfl) trivial rfl ?_
  refine V_iload_n (q := 9) dX2_atom_8 rfl rfl rfl ?_
  obtain ⟨v4, μ5, hc6, h⟩ := bd_i h
  refine V_cS1 (q := 12) (v := vI v4) (kX4_isDigit (d - 1) (by omega) hc6) (by omega) mv_X2_136 rfl rfl rfl rfl dX2_atom_9 rfl ?_
  refine V_ifeq (q := 24) (q2 := 15) dX2_atom_12 (by decide) rfl (fun hc7 => ?_) (fun hc7 => ?_)
  · have h := ifT hc7 h
    refine V_iload_n (q := 25) dX2_atom_24 rfl rfl rfl ?_
    refine V_bipush (q := 27) dX2_atom_25 rfl rfl rfl ?_
    refine V_icmpne (q := 62) (q2 := 30) dX2_atom_27 (by decide) rfl (fun hc8 => ?_) (fun hc8 => ?_)
    · have h := ifF hc8 h
      refine V_aload_n (q := 63) dX2_atom_62 rfl rfl rfl ?_
      refine V_iload_n (q := 64) dX2_atom_63 rfl rfl rfl ?_
      obtain ⟨v9, μ10, hc11, h⟩ := bd_i h
      refine V_cV1 (q := 67) (v := vI v9) (kX2_letter (d - 1) (by omega) hc11) (by omega) mv_X2_141 rfl rfl rfl rfl rfl rfl dX2_atom_64 rfl ?_
      exact V_iret rfl h dX2_atom_67
    · have h := ifT hc8 h
      refine V_iload_n (q := 31) dX2_atom_30 rfl rfl rfl ?_
      refine V_bipush (q := 33) dX2_atom_31 rfl rfl rfl ?_
      refine V_icmpge (q := 62) (q2 := 36) dX2_atom_33 (by decide) rfl (fun hc12 => ?_) (fun hc12 => ?_)
      · have h := ifT hc12 h
        refine V_aload_n (q := 63) dX2_atom_62 rfl rfl rfl ?_
        refine V_iload_n (q := 64) dX2_atom_63 rfl rfl rfl ?_
        obtain ⟨v13, μ14, hc15, h⟩ := bd_i h
        refine V_cV1 (q := 67) (v := vI v13) (kX2_letter (d - 1) (by omega) hc15) (by omega) mv_X2_141 rfl rfl rfl rfl rfl rfl dX2_atom_64 rfl ?_
        exact V_iret rfl h dX2_atom_67
      · have h := ifF hc12 h
        refine V_aload_n (q := 37) dX2_atom_36 rfl rfl rfl ?_
        refine V_getC (q := 40) fl_X2_9 rfl rfl rfl dX2_atom_37 rfl ?_
        obtain ⟨v16, μ17, hc18, h⟩ := bd_i h
        refine V_cV0 (q := 43) (kX4_pass (d - 1) (by omega) hc18) (by omega) mv_X2_108 rfl rfl rfl rfl rfl rfl dX2_atom_40 rfl ?_
        refine V_aload_n (q := 44) dX2_atom_43 rfl rfl rfl ?_
        refine V_iload_n (q := 45) dX2_atom_44 rfl rfl rfl ?_
        refine V_iconst (q := 46) dX2_atom_45 rfl rfl ?_
        refine V_iadd (q := 47) dX2_atom_46 rfl ?_
        obtain ⟨v19, μ20, hc21, h⟩ := bd_i h
        refine V_cV1 (q := 50) (v := vI v19) (hrec hc21) (by omega) mv_X2_77 rfl rfl rfl rfl rfl rfl dX2_atom_47 rfl ?_
        refine V_istore_n (q := 51) dX2_atom_50 rfl (Nat.le_of_ble_eq_true rfl) trivial rfl ?_
        refine V_aload_n (q := 52) dX2_atom_51 rfl rfl rfl ?_
        refine V_getC (q := 55) fl_X2_9 rfl rfl rfl dX2_atom_52 rfl ?_
        refine V_bipush (q := 57) dX2_atom_55 rfl rfl rfl ?_
        obtain ⟨v22, μ23, hc24, h⟩ := bd_i h
        refine V_cV0 (q := 60) (kX4_need (d - 1) (by omega) hc24) (by omega) mv_X2_65 rfl rfl rfl rfl rfl rfl dX2_atom_57 rfl ?_
        refine V_iload_n (q := 61) dX2_atom_60 rfl rfl rfl ?_
        exact V_iret rfl h dX2_atom_61
  · have h := ifF hc7 h
    refine V_aload_n (q := 16) dX2_atom_15 rfl rfl rfl ?_
    refine V_getC (q := 19) fl_X2_9 rfl rfl rfl dX2_atom_16 rfl ?_
    refine V_iconst (q := 20) dX2_atom_19 rfl rfl ?_
    obtain ⟨v25, μ26, hc27, h⟩ := bd_i h
    refine V_cV1 (q := 23) (v := vI v25) (kX4_number (d - 1) (by omega) hc27) (by omega) mv_X2_139 rfl rfl rfl rfl rfl rfl dX2_atom_20 rfl ?_
    exact V_iret rfl h dX2_atom_23
abbrev mX2_term : Mth := (yX2_term, cX2_term, 6, some .int)
theorem mi_X2_term : Cond.instanceMethod yX2_term ∈ tG ∧ Cond.selects yX2_term.cls yX2_term yX2_term ∈ tG ∧ Cond.initialized yX2_term.cls ∈ tG ∧ Cond.code yX2_term cX2_term 6 (some .int) ∈ tG ∧ (yX2_term.cls ≠ "java/lang/invoke/MethodHandle" ∧ yX2_term.cls ≠ "java/lang/invoke/VarHandle" ∧ (parseMethodDescriptor yX2_term.desc).map (fun d => d.parameters.length) = some 1) ∧ 6 ≤ 60 := ⟨(tG_of (List.mem_of_getElem? (i := 600) (by decide +kernel)) (by decide +kernel)), (tG_of (List.mem_of_getElem? (i := 7) (by decide +kernel)) (by decide +kernel)), (tG_of (List.mem_of_getElem? (i := 104) (by decide +kernel)) (by decide +kernel)), (tG_of (List.mem_of_getElem? (i := 601) (by decide +kernel)) (by decide +kernel)), ⟨by decide, by decide, by decide +kernel⟩, by decide⟩
theorem mv_X2_117 : mV RX2 117 mX2_term 1 := ⟨(tG_of (List.mem_of_getElem? (i := 598) (by decide +kernel)) (by decide +kernel)), mi_X2_term⟩
theorem dX2_term_0 : decode cX2_term 0 = .ok (.aload_n 0, 1) := by decide +kernel
theorem dX2_term_1 : decode cX2_term 1 = .ok (.iload_n 1, 1) := by decide +kernel
theorem dX2_term_2 : decode cX2_term 2 = .ok (.invokevirtual 124, 3) := by decide +kernel
theorem dX2_term_5 : decode cX2_term 5 = .ok (.i2l, 1) := by decide +kernel
theorem dX2_term_6 : decode cX2_term 6 = .ok (.lstore_n 2, 1) := by decide +kernel
theorem dX2_term_7 : decode cX2_term 7 = .ok (.iconst 0, 1) := by decide +kernel
theorem dX2_term_8 : decode cX2_term 8 = .ok (.istore 4, 2) := by decide +kernel
theorem dX2_term_10 : decode cX2_term 10 = .ok (.iload 4, 2) := by decide +kernel
theorem dX2_term_12 : decode cX2_term 12 = .ok (.sipush 160, 3) := by decide +kernel
theorem dX2_term_15 : decode cX2_term 15 = .ok (.if_icmp .ge 73, 3) := by decide +kernel
theorem dX2_term_18 : decode cX2_term 18 = .ok (.aload_n 0, 1) := by decide +kernel
theorem dX2_term_19 : decode cX2_term 19 = .ok (.getfield 9, 3) := by decide +kernel
theorem dX2_term_22 : decode cX2_term 22 = .ok (.bipush 42, 2) := by decide +kernel
theorem dX2_term_24 : decode cX2_term 24 = .ok (.invokevirtual 81, 3) := by decide +kernel
theorem dX2_term_27 : decode cX2_term 27 = .ok (.ifCond .eq 18, 3) := by decide +kernel
theorem dX2_term_30 : decode cX2_term 30 = .ok (.lload_n 2, 1) := by decide +kernel
theorem dX2_term_31 : decode cX2_term 31 = .ok (.aload_n 0, 1) := by decide +kernel
theorem dX2_term_32 : decode cX2_term 32 = .ok (.iload_n 1, 1) := by decide +kernel
theorem dX2_term_33 : decode cX2_term 33 = .ok (.invokevirtual 124, 3) := by decide +kernel
theorem dX2_term_36 : decode cX2_term 36 = .ok (.i2l, 1) := by decide +kernel
theorem dX2_term_37 : decode cX2_term 37 = .ok (.lmul, 1) := by decide +kernel
theorem dX2_term_38 : decode cX2_term 38 = .ok (.invokestatic 120, 3) := by decide +kernel
theorem dX2_term_41 : decode cX2_term 41 = .ok (.lstore_n 2, 1) := by decide +kernel
theorem dX2_term_42 : decode cX2_term 42 = .ok (.goto 40, 3) := by decide +kernel
theorem dX2_term_45 : decode cX2_term 45 = .ok (.aload_n 0, 1) := by decide +kernel
theorem dX2_term_46 : decode cX2_term 46 = .ok (.getfield 9, 3) := by decide +kernel
theorem dX2_term_49 : decode cX2_term 49 = .ok (.bipush 47, 2) := by decide +kernel
theorem dX2_term_51 : decode cX2_term 51 = .ok (.invokevirtual 81, 3) := by decide +kernel
theorem dX2_term_54 : decode cX2_term 54 = .ok (.ifCond .eq 34, 3) := by decide +kernel
theorem dX2_term_57 : decode cX2_term 57 = .ok (.aload_n 0, 1) := by decide +kernel
theorem dX2_term_58 : decode cX2_term 58 = .ok (.iload_n 1, 1) := by decide +kernel
theorem dX2_term_59 : decode cX2_term 59 = .ok (.invokevirtual 124, 3) := by decide +kernel
theorem dX2_term_62 : decode cX2_term 62 = .ok (.istore 5, 2) := by decide +kernel
theorem dX2_term_64 : decode cX2_term 64 = .ok (.iload 5, 2) := by decide +kernel
theorem dX2_term_66 : decode cX2_term 66 = .ok (.ifCond .ne 7, 3) := by decide +kernel
theorem dX2_term_69 : decode cX2_term 69 = .ok (.lconst 0, 1) := by decide +kernel
theorem dX2_term_70 : decode cX2_term 70 = .ok (.goto 11, 3) := by decide +kernel
theorem dX2_term_73 : decode cX2_term 73 = .ok (.lload_n 2, 1) := by decide +kernel
theorem dX2_term_74 : decode cX2_term 74 = .ok (.iload 5, 2) := by decide +kernel
theorem dX2_term_76 : decode cX2_term 76 = .ok (.i2l, 1) := by decide +kernel
theorem dX2_term_77 : decode cX2_term 77 = .ok (.ldiv, 1) := by decide +kernel
theorem dX2_term_78 : decode cX2_term 78 = .ok (.invokestatic 120, 3) := by decide +kernel
theorem dX2_term_81 : decode cX2_term 81 = .ok (.lstore_n 2, 1) := by decide +kernel
theorem dX2_term_82 : decode cX2_term 82 = .ok (.iinc 4 1, 3) := by decide +kernel
theorem dX2_term_85 : decode cX2_term 85 = .ok (.goto (-75), 3) := by decide +kernel
theorem dX2_term_88 : decode cX2_term 88 = .ok (.lload_n 2, 1) := by decide +kernel
theorem dX2_term_89 : decode cX2_term 89 = .ok (.l2i, 1) := by decide +kernel
theorem dX2_term_90 : decode cX2_term 90 = .ok (.ireturn, 1) := by decide +kernel
def X2_term_L10 (rec : Int → Mm → Rs) (l1 : Int) : Nat → Int → Int → Mm → Rs
  | 0, _, _, _ => none
  | n + 1, l2, l4, μ => if 160 ≤ l4 then (some (wI l2, μ)) else (bd (X4_take 42 μ) fun v5 μ6 => if v5 = 0 then (bd (X4_take 47 μ6) fun v9 μ10 => if v9 = 0 then (some (wI l2, μ10)) else (bd (X2_atom_o rec l1 μ10) fun v13 μ14 => if v13 = 0 then (X2_term_L10 rec l1 n 0 (iA l4 1) μ14) else (dZ v13 (bd (X2_held (lD l2 v13) μ14) fun v18 μ19 => X2_term_L10 rec l1 n v18 (iA l4 1) μ19))) else (bd (X2_atom_o rec l1 μ6) fun v21 μ22 => bd (X2_held (lM l2 v21) μ22) fun v24 μ25 => X2_term_L10 rec l1 n v24 (iA l4 1) μ25))
def X2_term_o (rec : Int → Mm → Rs) (l1 : Int) (μ : Mm) : Rs := bd (X2_atom_o rec l1 μ) fun v1 μ2 => X2_term_L10 rec l1 FU v1 0 μ2
set_option maxHeartbeats 4000000 in
set_option maxRecDepth 100000 in
theorem kX2_term_L10 (d : Nat) (hd : d0 + 3 ≤ d) {rec : Int → Mm → Rs} (hrec : ∀ {q1 : Int} {μ1 : Mm} {r1 : Int} {μ2 : Mm}, rec q1 μ1 = some (r1, μ2) → CC d0 mX2_sum [vR 4, vI q1] μ1 r1 μ2) (hb : 6 ≤ d) {l1 : Int} {r : Int} {μ' : Mm} : ∀ (n : Nat) {l2 l4 : Int} {μ : Mm}, X2_term_L10 rec l1 n l2 l4 μ = some (r, μ') → VV d mX2_term 10 [some (vR 4), some (vI l1), some (vL l2), none, some (vI l4), none] [] μ r μ' := by
  intro n
  induction n with
  | zero => intro l2 l4 μ h; rw [X2_term_L10] at h; cases h
  | succ n ih =>
    intro l2 l4 μ h
    rw [X2_term_L10] at h
    refine V_iload (q := 12) dX2_term_10 rfl rfl ?_
    refine V_sipush (q := 15) dX2_term_12 rfl rfl rfl ?_
    refine V_icmpge (q := 88) (q2 := 18) dX2_term_15 (by decide) rfl (fun hc4 => ?_) (fun hc4 => ?_)
    · have h := ifT hc4 h
      refine V_lload_n (q := 89) dX2_term_88 rfl rfl rfl ?_
      refine V_l2i (q := 90) dX2_term_89 rfl ?_
      exact V_iret rfl h dX2_term_90
    · have h := ifF hc4 h
      refine V_aload_n (q := 19) dX2_term_18 rfl rfl rfl ?_
      refine V_getC (q := 22) fl_X2_9 rfl rfl rfl dX2_term_19 rfl ?_
      refine V_bipush (q := 24) dX2_term_22 rfl rfl rfl ?_
      obtain ⟨v5, μ6, hc7, h⟩ := bd_i h
      refine V_cV1 (q := 27) (v := vI v5) (kX4_take (d - 1) (by omega) hc7) (by omega) mv_X2_81 rfl rfl rfl rfl rfl rfl dX2_term_24 rfl ?_
      refine V_ifeq (q := 45) (q2 := 30) dX2_term_27 (by decide) rfl (fun hc8 => ?_) (fun hc8 => ?_)
      · have h := ifT hc8 h
        refine V_aload_n (q := 46) dX2_term_45 rfl rfl rfl ?_
        refine V_getC (q := 49) fl_X2_9 rfl rfl rfl dX2_term_46 rfl ?_
        refine V_bipush (q := 51) dX2_term_49 rfl rfl rfl ?_
        obtain ⟨v9, μ10, hc11, h⟩ := bd_i h
        refine V_cV1 (q := 54) (v := vI v9) (kX4_take (d - 1) (by omega) hc11) (by omega) mv_X2_81 rfl rfl rfl rfl rfl rfl dX2_term_51 rfl ?_
        refine V_ifeq (q := 88) (q2 := 57) dX2_term_54 (by decide) rfl (fun hc12 => ?_) (fun hc12 => ?_)
        · have h := ifT hc12 h
          refine V_lload_n (q := 89) dX2_term_88 rfl rfl rfl ?_
          refine V_l2i (q := 90) dX2_term_89 rfl ?_
          exact V_iret rfl h dX2_term_90
        · have h := ifF hc12 h
          refine V_aload_n (q := 58) dX2_term_57 rfl rfl rfl ?_
          refine V_iload_n (q := 59) dX2_term_58 rfl rfl rfl ?_
          obtain ⟨v13, μ14, hc15, h⟩ := bd_i h
          refine V_cV1 (q := 62) (v := vI v13) (kX2_atom (d - 1) (by omega) hrec (by omega) hc15) (by omega) mv_X2_124 rfl rfl rfl rfl rfl rfl dX2_term_59 rfl ?_
          refine V_istore (q := 64) dX2_term_62 (Nat.le_of_ble_eq_true rfl) trivial rfl ?_
          refine V_iload (q := 66) dX2_term_64 rfl rfl ?_
          refine V_ifne (q := 73) (q2 := 69) dX2_term_66 (by decide) rfl (fun hc16 => ?_) (fun hc16 => ?_)
          · have h := ifF hc16 h
            refine V_lload_n (q := 74) dX2_term_73 rfl rfl rfl ?_
            refine V_iload (q := 76) dX2_term_74 rfl rfl ?_
            refine V_i2l (q := 77) dX2_term_76 rfl ?_
            obtain ⟨hz17, h⟩ := dZ_i h
            refine V_ldiv (q := 78) dX2_term_77 hz17 rfl ?_
            obtain ⟨v18, μ19, hc20, h⟩ := bd_i h
            refine V_cS1 (q := 81) (v := vL v18) (kX2_held (d - 1) (by omega) hc20) (by omega) mv_X2_120 rfl rfl rfl rfl dX2_term_78 rfl ?_
            refine V_lstore_n (q := 82) dX2_term_81 rfl (Nat.le_of_ble_eq_true rfl) trivial rfl ?_
            refine V_iinc (q := 85) dX2_term_82 rfl (Nat.le_of_ble_eq_true rfl) trivial rfl ?_
            refine V_goto (q := 10) dX2_term_85 (by decide) ?_
            exact V_weak (ih h) (sb_s rfl (sb_s rfl (sb_s rfl (sb_n (sb_s rfl (sb_n sb_0))))))
          · have h := ifT hc16 h
            refine V_lconst (q := 70) dX2_term_69 rfl ?_
            refine V_goto (q := 81) dX2_term_70 (by decide) ?_
            refine V_lstore_n (q := 82) dX2_term_81 rfl (Nat.le_of_ble_eq_true rfl) trivial rfl ?_
            refine V_iinc (q := 85) dX2_term_82 rfl (Nat.le_of_ble_eq_true rfl) trivial rfl ?_
            refine V_goto (q := 10) dX2_term_85 (by decide) ?_
            exact V_weak (ih h) (sb_s rfl (sb_s rfl (sb_s rfl (sb_n (sb_s rfl (sb_n sb_0))))))
      · have h := ifF hc8 h
        refine V_lload_n (q := 31) dX2_term_30 rfl rfl rfl ?_
        refine V_aload_n (q := 32) dX2_term_31 rfl rfl rfl ?_
        refine V_iload_n (q := 33) dX2_term_32 rfl rfl rfl ?_
        obtain ⟨v21, μ22, hc23, h⟩ := bd_i h
        refine V_cV1 (q := 36) (v := vI v21) (kX2_atom (d - 1) (by omega) hrec (by omega) hc23) (by omega) mv_X2_124 rfl rfl rfl rfl rfl rfl dX2_term_33 rfl ?_
        refine V_i2l (q := 37) dX2_term_36 rfl ?_
        refine V_lmul (q := 38) dX2_term_37 rfl ?_
        obtain ⟨v24, μ25, hc26, h⟩ := bd_i h
        refine V_cS1 (q := 41) (v := vL v24) (kX2_held (d - 1) (by omega) hc26) (by omega) mv_X2_120 rfl rfl rfl rfl dX2_term_38 rfl ?_
        refine V_lstore_n (q := 42) dX2_term_41 rfl (Nat.le_of_ble_eq_true rfl) trivial rfl ?_
        refine V_goto (q := 82) dX2_term_42 (by decide) ?_
        refine V_iinc (q := 85) dX2_term_82 rfl (Nat.le_of_ble_eq_true rfl) trivial rfl ?_
        refine V_goto (q := 10) dX2_term_85 (by decide) ?_
        exact V_weak (ih h) (sb_s rfl (sb_s rfl (sb_s rfl (sb_n (sb_s rfl (sb_n sb_0))))))
set_option maxHeartbeats 4000000 in
set_option maxRecDepth 100000 in
theorem kX2_term (d : Nat) (hd : d0 + 3 ≤ d) {rec : Int → Mm → Rs} (hrec : ∀ {q1 : Int} {μ1 : Mm} {r1 : Int} {μ2 : Mm}, rec q1 μ1 = some (r1, μ2) → CC d0 mX2_sum [vR 4, vI q1] μ1 r1 μ2) (hb : 6 ≤ d) {l1 : Int} {μ : Mm} {r : Int} {μ' : Mm} (h : X2_term_o rec l1 μ = some (r, μ')) : CC d mX2_term [vR 4, vI l1] μ r μ' := by
  unfold X2_term_o at h
  refine V_enter (by decide) (Nat.le_of_ble_eq_true rfl) ?_
  show VV d mX2_term 0 [some (vR 4), some (vI l1), none, none, none, none] [] μ r μ'
  refine V_aload_n (q := 1) dX2_term_0 rfl rfl rfl ?_
  refine V_iload_n (q := 2) dX2_term_1 rfl rfl rfl ?_
  obtain ⟨v1, μ2, hc3, h⟩ := bd_i h
  refine V_cV1 (q := 5) (v := vI v1) (kX2_atom (d - 1) (by omega) hrec (by omega) hc3) (by omega) mv_X2_124 rfl rfl rfl rfl rfl rfl dX2_term_2 rfl ?_
  refine V_i2l (q := 6) dX2_term_5 rfl ?_
  refine V_lstore_n (q := 7) dX2_term_6 rfl (Nat.le_of_ble_eq_true rfl) trivial rfl ?_
  refine V_iconst (q := 8) dX2_term_7 rfl rfl ?_
  refine V_istore (q := 10) dX2_term_8 (Nat.le_of_ble_eq_true rfl) trivial rfl ?_
  exact V_weak (kX2_term_L10 d hd hrec hb  FU h) (sb_s rfl (sb_s rfl (sb_s rfl (sb_n (sb_s rfl (sb_n sb_0))))))
abbrev mX2_sum : Mth := (yX2_sum, cX2_sum, 5, some .int)
theorem mi_X2_sum : Cond.instanceMethod yX2_sum ∈ tG ∧ Cond.selects yX2_sum.cls yX2_sum yX2_sum ∈ tG ∧ Cond.initialized yX2_sum.cls ∈ tG ∧ Cond.code yX2_sum cX2_sum 5 (some .int) ∈ tG ∧ (yX2_sum.cls ≠ "java/lang/invoke/MethodHandle" ∧ yX2_sum.cls ≠ "java/lang/invoke/VarHandle" ∧ (parseMethodDescriptor yX2_sum.desc).map (fun d => d.parameters.length) = some 1) ∧ 5 ≤ 60 := ⟨(tG_of (List.mem_of_getElem? (i := 596) (by decide +kernel)) (by decide +kernel)), (tG_of (List.mem_of_getElem? (i := 6) (by decide +kernel)) (by decide +kernel)), (tG_of (List.mem_of_getElem? (i := 104) (by decide +kernel)) (by decide +kernel)), (tG_of (List.mem_of_getElem? (i := 597) (by decide +kernel)) (by decide +kernel)), ⟨by decide, by decide, by decide +kernel⟩, by decide⟩
theorem mv_X2_77 : mV RX2 77 mX2_sum 1 := ⟨(tG_of (List.mem_of_getElem? (i := 594) (by decide +kernel)) (by decide +kernel)), mi_X2_sum⟩
theorem dX2_sum_0 : decode cX2_sum 0 = .ok (.aload_n 0, 1) := by decide +kernel
theorem dX2_sum_1 : decode cX2_sum 1 = .ok (.iload_n 1, 1) := by decide +kernel
theorem dX2_sum_2 : decode cX2_sum 2 = .ok (.invokevirtual 117, 3) := by decide +kernel
theorem dX2_sum_5 : decode cX2_sum 5 = .ok (.i2l, 1) := by decide +kernel
theorem dX2_sum_6 : decode cX2_sum 6 = .ok (.lstore_n 2, 1) := by decide +kernel
theorem dX2_sum_7 : decode cX2_sum 7 = .ok (.iconst 0, 1) := by decide +kernel
theorem dX2_sum_8 : decode cX2_sum 8 = .ok (.istore 4, 2) := by decide +kernel
theorem dX2_sum_10 : decode cX2_sum 10 = .ok (.iload 4, 2) := by decide +kernel
theorem dX2_sum_12 : decode cX2_sum 12 = .ok (.sipush 160, 3) := by decide +kernel
theorem dX2_sum_15 : decode cX2_sum 15 = .ok (.if_icmp .ge 60, 3) := by decide +kernel
theorem dX2_sum_18 : decode cX2_sum 18 = .ok (.aload_n 0, 1) := by decide +kernel
theorem dX2_sum_19 : decode cX2_sum 19 = .ok (.getfield 9, 3) := by decide +kernel
theorem dX2_sum_22 : decode cX2_sum 22 = .ok (.bipush 43, 2) := by decide +kernel
theorem dX2_sum_24 : decode cX2_sum 24 = .ok (.invokevirtual 81, 3) := by decide +kernel
theorem dX2_sum_27 : decode cX2_sum 27 = .ok (.ifCond .eq 18, 3) := by decide +kernel
theorem dX2_sum_30 : decode cX2_sum 30 = .ok (.lload_n 2, 1) := by decide +kernel
theorem dX2_sum_31 : decode cX2_sum 31 = .ok (.aload_n 0, 1) := by decide +kernel
theorem dX2_sum_32 : decode cX2_sum 32 = .ok (.iload_n 1, 1) := by decide +kernel
theorem dX2_sum_33 : decode cX2_sum 33 = .ok (.invokevirtual 117, 3) := by decide +kernel
theorem dX2_sum_36 : decode cX2_sum 36 = .ok (.i2l, 1) := by decide +kernel
theorem dX2_sum_37 : decode cX2_sum 37 = .ok (.ladd, 1) := by decide +kernel
theorem dX2_sum_38 : decode cX2_sum 38 = .ok (.invokestatic 120, 3) := by decide +kernel
theorem dX2_sum_41 : decode cX2_sum 41 = .ok (.lstore_n 2, 1) := by decide +kernel
theorem dX2_sum_42 : decode cX2_sum 42 = .ok (.goto 27, 3) := by decide +kernel
theorem dX2_sum_45 : decode cX2_sum 45 = .ok (.aload_n 0, 1) := by decide +kernel
theorem dX2_sum_46 : decode cX2_sum 46 = .ok (.getfield 9, 3) := by decide +kernel
theorem dX2_sum_49 : decode cX2_sum 49 = .ok (.bipush 45, 2) := by decide +kernel
theorem dX2_sum_51 : decode cX2_sum 51 = .ok (.invokevirtual 81, 3) := by decide +kernel
theorem dX2_sum_54 : decode cX2_sum 54 = .ok (.ifCond .eq 21, 3) := by decide +kernel
theorem dX2_sum_57 : decode cX2_sum 57 = .ok (.lload_n 2, 1) := by decide +kernel
theorem dX2_sum_58 : decode cX2_sum 58 = .ok (.aload_n 0, 1) := by decide +kernel
theorem dX2_sum_59 : decode cX2_sum 59 = .ok (.iload_n 1, 1) := by decide +kernel
theorem dX2_sum_60 : decode cX2_sum 60 = .ok (.invokevirtual 117, 3) := by decide +kernel
theorem dX2_sum_63 : decode cX2_sum 63 = .ok (.i2l, 1) := by decide +kernel
theorem dX2_sum_64 : decode cX2_sum 64 = .ok (.lsub, 1) := by decide +kernel
theorem dX2_sum_65 : decode cX2_sum 65 = .ok (.invokestatic 120, 3) := by decide +kernel
theorem dX2_sum_68 : decode cX2_sum 68 = .ok (.lstore_n 2, 1) := by decide +kernel
theorem dX2_sum_69 : decode cX2_sum 69 = .ok (.iinc 4 1, 3) := by decide +kernel
theorem dX2_sum_72 : decode cX2_sum 72 = .ok (.goto (-62), 3) := by decide +kernel
theorem dX2_sum_75 : decode cX2_sum 75 = .ok (.lload_n 2, 1) := by decide +kernel
theorem dX2_sum_76 : decode cX2_sum 76 = .ok (.l2i, 1) := by decide +kernel
theorem dX2_sum_77 : decode cX2_sum 77 = .ok (.ireturn, 1) := by decide +kernel
def X2_sum_L10 (rec : Int → Mm → Rs) (l1 : Int) : Nat → Int → Int → Mm → Rs
  | 0, _, _, _ => none
  | n + 1, l2, l4, μ => if 160 ≤ l4 then (some (wI l2, μ)) else (bd (X4_take 43 μ) fun v5 μ6 => if v5 = 0 then (bd (X4_take 45 μ6) fun v9 μ10 => if v9 = 0 then (some (wI l2, μ10)) else (bd (X2_term_o rec l1 μ10) fun v13 μ14 => bd (X2_held (lS l2 v13) μ14) fun v16 μ17 => X2_sum_L10 rec l1 n v16 (iA l4 1) μ17)) else (bd (X2_term_o rec l1 μ6) fun v19 μ20 => bd (X2_held (lA l2 v19) μ20) fun v22 μ23 => X2_sum_L10 rec l1 n v22 (iA l4 1) μ23))
def X2_sum : Nat → Int → Mm → Rs
  | 0, _, _ => none
  | n + 1, l1, μ => bd (X2_term_o (fun w0 μq => X2_sum n w0 μq) l1 μ) fun v1 μ2 => X2_sum_L10 (fun w0 μq => X2_sum n w0 μq) l1 FU v1 0 μ2
set_option maxHeartbeats 4000000 in
set_option maxRecDepth 100000 in
theorem kX2_sum_L10 (d : Nat) (hd : d0 + 1 ≤ d) (hb : 4 ≤ d) {rec : Int → Mm → Rs} (hrec : ∀ {q1 : Int} {μ1 : Mm} {r1 : Int} {μ2 : Mm}, rec q1 μ1 = some (r1, μ2) → CC d0 mX2_sum [vR 4, vI q1] μ1 r1 μ2) {l1 : Int} {r : Int} {μ' : Mm} : ∀ (n : Nat) {l2 l4 : Int} {μ : Mm}, X2_sum_L10 rec l1 n l2 l4 μ = some (r, μ') → VV d mX2_sum 10 [some (vR 4), some (vI l1), some (vL l2), none, some (vI l4)] [] μ r μ' := by
  intro n
  induction n with
  | zero => intro l2 l4 μ h; rw [X2_sum_L10] at h; cases h
  | succ n ih =>
    intro l2 l4 μ h
    rw [X2_sum_L10] at h
    refine V_iload (q := 12) dX2_sum_10 rfl rfl ?_
    refine V_sipush (q := 15) dX2_sum_12 rfl rfl rfl ?_
    refine V_icmpge (q := 75) (q2 := 18) dX2_sum_15 (by decide) rfl (fun hc4 => ?_) (fun hc4 => ?_)
    · have h := ifT hc4 h
      refine V_lload_n (q := 76) dX2_sum_75 rfl rfl rfl ?_
      refine V_l2i (q := 77) dX2_sum_76 rfl ?_
      exact V_iret rfl h dX2_sum_77
    · have h := ifF hc4 h
      refine V_aload_n (q := 19) dX2_sum_18 rfl rfl rfl ?_
      refine V_getC (q := 22) fl_X2_9 rfl rfl rfl dX2_sum_19 rfl ?_
      refine V_bipush (q := 24) dX2_sum_22 rfl rfl rfl ?_
      obtain ⟨v5, μ6, hc7, h⟩ := bd_i h
      refine V_cV1 (q := 27) (v := vI v5) (kX4_take (d - 1) (by omega) hc7) (by omega) mv_X2_81 rfl rfl rfl rfl rfl rfl dX2_sum_24 rfl ?_
      refine V_ifeq (q := 45) (q2 := 30) dX2_sum_27 (by decide) rfl (fun hc8 => ?_) (fun hc8 => ?_)
      · have h := ifT hc8 h
        refine V_aload_n (q := 46) dX2_sum_45 rfl rfl rfl ?_
        refine V_getC (q := 49) fl_X2_9 rfl rfl rfl dX2_sum_46 rfl ?_
        refine V_bipush (q := 51) dX2_sum_49 rfl rfl rfl ?_
        obtain ⟨v9, μ10, hc11, h⟩ := bd_i h
        refine V_cV1 (q := 54) (v := vI v9) (kX4_take (d - 1) (by omega) hc11) (by omega) mv_X2_81 rfl rfl rfl rfl rfl rfl dX2_sum_51 rfl ?_
        refine V_ifeq (q := 75) (q2 := 57) dX2_sum_54 (by decide) rfl (fun hc12 => ?_) (fun hc12 => ?_)
        · have h := ifT hc12 h
          refine V_lload_n (q := 76) dX2_sum_75 rfl rfl rfl ?_
          refine V_l2i (q := 77) dX2_sum_76 rfl ?_
          exact V_iret rfl h dX2_sum_77
        · have h := ifF hc12 h
          refine V_lload_n (q := 58) dX2_sum_57 rfl rfl rfl ?_
          refine V_aload_n (q := 59) dX2_sum_58 rfl rfl rfl ?_
          refine V_iload_n (q := 60) dX2_sum_59 rfl rfl rfl ?_
          obtain ⟨v13, μ14, hc15, h⟩ := bd_i h
          refine V_cV1 (q := 63) (v := vI v13) (kX2_term (d - 1) (by omega) hrec (by omega) hc15) (by omega) mv_X2_117 rfl rfl rfl rfl rfl rfl dX2_sum_60 rfl ?_
          refine V_i2l (q := 64) dX2_sum_63 rfl ?_
          refine V_lsub (q := 65) dX2_sum_64 rfl ?_
          obtain ⟨v16, μ17, hc18, h⟩ := bd_i h
          refine V_cS1 (q := 68) (v := vL v16) (kX2_held (d - 1) (by omega) hc18) (by omega) mv_X2_120 rfl rfl rfl rfl dX2_sum_65 rfl ?_
          refine V_lstore_n (q := 69) dX2_sum_68 rfl (Nat.le_of_ble_eq_true rfl) trivial rfl ?_
          refine V_iinc (q := 72) dX2_sum_69 rfl (Nat.le_of_ble_eq_true rfl) trivial rfl ?_
          refine V_goto (q := 10) dX2_sum_72 (by decide) ?_
          exact V_weak (ih h) (sb_s rfl (sb_s rfl (sb_s rfl (sb_n (sb_s rfl sb_0)))))
      · have h := ifF hc8 h
        refine V_lload_n (q := 31) dX2_sum_30 rfl rfl rfl ?_
        refine V_aload_n (q := 32) dX2_sum_31 rfl rfl rfl ?_
        refine V_iload_n (q := 33) dX2_sum_32 rfl rfl rfl ?_
        obtain ⟨v19, μ20, hc21, h⟩ := bd_i h
        refine V_cV1 (q := 36) (v := vI v19) (kX2_term (d - 1) (by omega) hrec (by omega) hc21) (by omega) mv_X2_117 rfl rfl rfl rfl rfl rfl dX2_sum_33 rfl ?_
        refine V_i2l (q := 37) dX2_sum_36 rfl ?_
        refine V_ladd (q := 38) dX2_sum_37 rfl ?_
        obtain ⟨v22, μ23, hc24, h⟩ := bd_i h
        refine V_cS1 (q := 41) (v := vL v22) (kX2_held (d - 1) (by omega) hc24) (by omega) mv_X2_120 rfl rfl rfl rfl dX2_sum_38 rfl ?_
        refine V_lstore_n (q := 42) dX2_sum_41 rfl (Nat.le_of_ble_eq_true rfl) trivial rfl ?_
        refine V_goto (q := 69) dX2_sum_42 (by decide) ?_
        refine V_iinc (q := 72) dX2_sum_69 rfl (Nat.le_of_ble_eq_true rfl) trivial rfl ?_
        refine V_goto (q := 10) dX2_sum_72 (by decide) ?_
        exact V_weak (ih h) (sb_s rfl (sb_s rfl (sb_s rfl (sb_n (sb_s rfl sb_0)))))
set_option maxHeartbeats 4000000 in
set_option maxRecDepth 100000 in
theorem kX2_sum : ∀ (n d : Nat) (hd : 10 * n + 13 ≤ d) {l1 : Int} {μ : Mm} {r : Int} {μ' : Mm} (h : X2_sum n l1 μ = some (r, μ')), CC d mX2_sum [vR 4, vI l1] μ r μ' := by
  intro n
  induction n with
  | zero => intro d hd l1   μ r μ' h; rw [X2_sum] at h; cases h
  | succ n ih =>
    intro d hd l1   μ r μ' h
    have hb : 4 ≤ d := by omega
    obtain ⟨d0, hd0⟩ : ∃ z, z = 10 * n + 13 := ⟨_, rfl⟩
    have hd : d0 + 10 ≤ d := by omega
    have hrec : ∀ {q1 : Int} {μ1 : Mm} {r1 : Int} {μ2 : Mm}, ((fun w0 μq => X2_sum n w0 μq)) q1 μ1 = some (r1, μ2) → CC d0 mX2_sum [vR 4, vI q1] μ1 r1 μ2 := fun h1 => ih d0 (by omega) h1
    rw [X2_sum] at h
    refine V_enter (by decide) (Nat.le_of_ble_eq_true rfl) ?_
    show VV d mX2_sum 0 [some (vR 4), some (vI l1), none, none, none] [] μ r μ'
    refine V_aload_n (q := 1) dX2_sum_0 rfl rfl rfl ?_
    refine V_iload_n (q := 2) dX2_sum_1 rfl rfl rfl ?_
    obtain ⟨v1, μ2, hc3, h⟩ := bd_i h
    refine V_cV1 (q := 5) (v := vI v1) (kX2_term (d - 1) (by omega) hrec (by omega) hc3) (by omega) mv_X2_117 rfl rfl rfl rfl rfl rfl dX2_sum_2 rfl ?_
    refine V_i2l (q := 6) dX2_sum_5 rfl ?_
    refine V_lstore_n (q := 7) dX2_sum_6 rfl (Nat.le_of_ble_eq_true rfl) trivial rfl ?_
    refine V_iconst (q := 8) dX2_sum_7 rfl rfl ?_
    refine V_istore (q := 10) dX2_sum_8 (Nat.le_of_ble_eq_true rfl) trivial rfl ?_
    exact V_weak (kX2_sum_L10 d (by omega) hb hrec  FU h) (sb_s rfl (sb_s rfl (sb_s rfl (sb_n (sb_s rfl sb_0)))))
theorem kX2_atom_c (d : Nat) (hd : 135 ≤ d) {l1 : Int} {μ : Mm} {r : Int} {μ' : Mm} (h : X2_atom_o (X2_sum RD) l1 μ = some (r, μ')) : CC d mX2_atom [vR 4, vI l1] μ r μ' := kX2_atom (d0 := 10 * RD + 13) d (by unfold RD; omega) (fun h1 => kX2_sum RD _ (Nat.le_refl _) h1) (by omega) h
theorem kX2_term_c (d : Nat) (hd : 136 ≤ d) {l1 : Int} {μ : Mm} {r : Int} {μ' : Mm} (h : X2_term_o (X2_sum RD) l1 μ = some (r, μ')) : CC d mX2_term [vR 4, vI l1] μ r μ' := kX2_term (d0 := 10 * RD + 13) d (by unfold RD; omega) (fun h1 => kX2_sum RD _ (Nat.le_refl _) h1) (by omega) h
abbrev mX2_isComparison : Mth := (yX2_isComparison, cX2_isComparison, 1, some .boolean)
theorem mi_X2_isComparison : Cond.static yX2_isComparison ∈ tG ∧ Cond.initialized yX2_isComparison.cls ∈ tG ∧ Cond.code yX2_isComparison cX2_isComparison 1 (some .boolean) ∈ tG ∧ (yX2_isComparison.cls ≠ "java/lang/invoke/MethodHandle" ∧ yX2_isComparison.cls ≠ "java/lang/invoke/VarHandle" ∧ (parseMethodDescriptor yX2_isComparison.desc).map (fun d => d.parameters.length) = some 1) ∧ 1 ≤ 60 := ⟨(tG_of (List.mem_of_getElem? (i := 627) (by decide +kernel)) (by decide +kernel)), (tG_of (List.mem_of_getElem? (i := 104) (by decide +kernel)) (by decide +kernel)), (tG_of (List.mem_of_getElem? (i := 628) (by decide +kernel)) (by decide +kernel)), ⟨by decide, by decide, by decide +kernel⟩, by decide⟩
theorem mv_X2_93 : mS RX2 93 mX2_isComparison 1 := ⟨(tG_of (List.mem_of_getElem? (i := 626) (by decide +kernel)) (by decide +kernel)), mi_X2_isComparison.1, (tG_of (List.mem_of_getElem? (i := 104) (by decide +kernel)) (by decide +kernel)), mi_X2_isComparison.2⟩
theorem dX2_isComparison_0 : decode cX2_isComparison 0 = .ok (.iload_n 0, 1) := by decide +kernel
theorem dX2_isComparison_1 : decode cX2_isComparison 1 = .ok (.bipush 61, 2) := by decide +kernel
theorem dX2_isComparison_3 : decode cX2_isComparison 3 = .ok (.if_icmp .eq 15, 3) := by decide +kernel
theorem dX2_isComparison_6 : decode cX2_isComparison 6 = .ok (.iload_n 0, 1) := by decide +kernel
theorem dX2_isComparison_7 : decode cX2_isComparison 7 = .ok (.bipush 60, 2) := by decide +kernel
theorem dX2_isComparison_9 : decode cX2_isComparison 9 = .ok (.if_icmp .eq 9, 3) := by decide +kernel
theorem dX2_isComparison_12 : decode cX2_isComparison 12 = .ok (.iload_n 0, 1) := by decide +kernel
theorem dX2_isComparison_13 : decode cX2_isComparison 13 = .ok (.bipush 62, 2) := by decide +kernel
theorem dX2_isComparison_15 : decode cX2_isComparison 15 = .ok (.if_icmp .ne 7, 3) := by decide +kernel
theorem dX2_isComparison_18 : decode cX2_isComparison 18 = .ok (.iconst 1, 1) := by decide +kernel
theorem dX2_isComparison_19 : decode cX2_isComparison 19 = .ok (.goto 4, 3) := by decide +kernel
theorem dX2_isComparison_22 : decode cX2_isComparison 22 = .ok (.iconst 0, 1) := by decide +kernel
theorem dX2_isComparison_23 : decode cX2_isComparison 23 = .ok (.ireturn, 1) := by decide +kernel
def X2_isComparison (l0 : Int) (μ : Mm) : Rs := if l0 = 61 then (some (1, μ)) else (if l0 = 60 then (some (1, μ)) else (if l0 = 62 then (some (1, μ)) else (some (0, μ))))
set_option maxHeartbeats 4000000 in
set_option maxRecDepth 100000 in
theorem kX2_isComparison (d : Nat) (hd : 1 ≤ d) {l0 : Int} {μ : Mm} {r : Int} {μ' : Mm} (h : X2_isComparison l0 μ = some (r, μ')) : CC d mX2_isComparison [vI l0] μ r μ' := by
  unfold X2_isComparison at h
  refine V_enter (by decide) (Nat.le_of_ble_eq_true rfl) ?_
  show VV d mX2_isComparison 0 [some (vI l0)] [] μ r μ'
  refine V_iload_n (q := 1) dX2_isComparison_0 rfl rfl rfl ?_
  refine V_bipush (q := 3) dX2_isComparison_1 rfl rfl rfl ?_
  refine V_icmpeq (q := 18) (q2 := 6) dX2_isComparison_3 (by decide) rfl (fun hc1 => ?_) (fun hc1 => ?_)
  · have h := ifT hc1 h
    refine V_iconst (q := 19) dX2_isComparison_18 rfl rfl ?_
    refine V_goto (q := 23) dX2_isComparison_19 (by decide) ?_
    exact V_zret rfl (Or.inr rfl) h dX2_isComparison_23
  · have h := ifF hc1 h
    refine V_iload_n (q := 7) dX2_isComparison_6 rfl rfl rfl ?_
    refine V_bipush (q := 9) dX2_isComparison_7 rfl rfl rfl ?_
    refine V_icmpeq (q := 18) (q2 := 12) dX2_isComparison_9 (by decide) rfl (fun hc2 => ?_) (fun hc2 => ?_)
    · have h := ifT hc2 h
      refine V_iconst (q := 19) dX2_isComparison_18 rfl rfl ?_
      refine V_goto (q := 23) dX2_isComparison_19 (by decide) ?_
      exact V_zret rfl (Or.inr rfl) h dX2_isComparison_23
    · have h := ifF hc2 h
      refine V_iload_n (q := 13) dX2_isComparison_12 rfl rfl rfl ?_
      refine V_bipush (q := 15) dX2_isComparison_13 rfl rfl rfl ?_
      refine V_icmpne (q := 22) (q2 := 18) dX2_isComparison_15 (by decide) rfl (fun hc3 => ?_) (fun hc3 => ?_)
      · have h := ifF hc3 h
        refine V_iconst (q := 23) dX2_isComparison_22 rfl rfl ?_
        exact V_zret rfl (Or.inl rfl) h dX2_isComparison_23
      · have h := ifT hc3 h
        refine V_iconst (q := 19) dX2_isComparison_18 rfl rfl ?_
        refine V_goto (q := 23) dX2_isComparison_19 (by decide) ?_
        exact V_zret rfl (Or.inr rfl) h dX2_isComparison_23
abbrev mX2_startsCondition : Mth := (yX2_startsCondition, cX2_startsCondition, 4, some .boolean)
theorem mi_X2_startsCondition : Cond.instanceMethod yX2_startsCondition ∈ tG ∧ Cond.selects yX2_startsCondition.cls yX2_startsCondition yX2_startsCondition ∈ tG ∧ Cond.initialized yX2_startsCondition.cls ∈ tG ∧ Cond.code yX2_startsCondition cX2_startsCondition 4 (some .boolean) ∈ tG ∧ (yX2_startsCondition.cls ≠ "java/lang/invoke/MethodHandle" ∧ yX2_startsCondition.cls ≠ "java/lang/invoke/VarHandle" ∧ (parseMethodDescriptor yX2_startsCondition.desc).map (fun d => d.parameters.length) = some 0) ∧ 4 ≤ 60 := ⟨(tG_of (List.mem_of_getElem? (i := 591) (by decide +kernel)) (by decide +kernel)), (tG_of (List.mem_of_getElem? (i := 5) (by decide +kernel)) (by decide +kernel)), (tG_of (List.mem_of_getElem? (i := 104) (by decide +kernel)) (by decide +kernel)), (tG_of (List.mem_of_getElem? (i := 592) (by decide +kernel)) (by decide +kernel)), ⟨by decide, by decide, by decide +kernel⟩, by decide⟩
theorem mv_X2_69 : mV RX2 69 mX2_startsCondition 0 := ⟨(tG_of (List.mem_of_getElem? (i := 589) (by decide +kernel)) (by decide +kernel)), mi_X2_startsCondition⟩
theorem dX2_startsCondition_0 : decode cX2_startsCondition 0 = .ok (.aload_n 0, 1) := by decide +kernel
theorem dX2_startsCondition_1 : decode cX2_startsCondition 1 = .ok (.getfield 9, 3) := by decide +kernel
theorem dX2_startsCondition_4 : decode cX2_startsCondition 4 = .ok (.invokevirtual 87, 3) := by decide +kernel
theorem dX2_startsCondition_7 : decode cX2_startsCondition 7 = .ok (.istore_n 1, 1) := by decide +kernel
theorem dX2_startsCondition_8 : decode cX2_startsCondition 8 = .ok (.iload_n 1, 1) := by decide +kernel
theorem dX2_startsCondition_9 : decode cX2_startsCondition 9 = .ok (.bipush 33, 2) := by decide +kernel
theorem dX2_startsCondition_11 : decode cX2_startsCondition 11 = .ok (.if_icmp .eq 9, 3) := by decide +kernel
theorem dX2_startsCondition_14 : decode cX2_startsCondition 14 = .ok (.iload_n 1, 1) := by decide +kernel
theorem dX2_startsCondition_15 : decode cX2_startsCondition 15 = .ok (.bipush 40, 2) := by decide +kernel
theorem dX2_startsCondition_17 : decode cX2_startsCondition 17 = .ok (.if_icmp .ne 5, 3) := by decide +kernel
theorem dX2_startsCondition_20 : decode cX2_startsCondition 20 = .ok (.iconst 1, 1) := by decide +kernel
theorem dX2_startsCondition_21 : decode cX2_startsCondition 21 = .ok (.ireturn, 1) := by decide +kernel
theorem dX2_startsCondition_22 : decode cX2_startsCondition 22 = .ok (.aload_n 0, 1) := by decide +kernel
theorem dX2_startsCondition_23 : decode cX2_startsCondition 23 = .ok (.getfield 9, 3) := by decide +kernel
theorem dX2_startsCondition_26 : decode cX2_startsCondition 26 = .ok (.getfield 90, 3) := by decide +kernel
theorem dX2_startsCondition_29 : decode cX2_startsCondition 29 = .ok (.istore_n 2, 1) := by decide +kernel
theorem dX2_startsCondition_30 : decode cX2_startsCondition 30 = .ok (.aload_n 0, 1) := by decide +kernel
theorem dX2_startsCondition_31 : decode cX2_startsCondition 31 = .ok (.iconst 0, 1) := by decide +kernel
theorem dX2_startsCondition_32 : decode cX2_startsCondition 32 = .ok (.invokevirtual 77, 3) := by decide +kernel
theorem dX2_startsCondition_35 : decode cX2_startsCondition 35 = .ok (.pop, 1) := by decide +kernel
theorem dX2_startsCondition_36 : decode cX2_startsCondition 36 = .ok (.aload_n 0, 1) := by decide +kernel
theorem dX2_startsCondition_37 : decode cX2_startsCondition 37 = .ok (.getfield 9, 3) := by decide +kernel
theorem dX2_startsCondition_40 : decode cX2_startsCondition 40 = .ok (.invokevirtual 87, 3) := by decide +kernel
theorem dX2_startsCondition_43 : decode cX2_startsCondition 43 = .ok (.invokestatic 93, 3) := by decide +kernel
theorem dX2_startsCondition_46 : decode cX2_startsCondition 46 = .ok (.istore_n 3, 1) := by decide +kernel
theorem dX2_startsCondition_47 : decode cX2_startsCondition 47 = .ok (.aload_n 0, 1) := by decide +kernel
theorem dX2_startsCondition_48 : decode cX2_startsCondition 48 = .ok (.getfield 9, 3) := by decide +kernel
theorem dX2_startsCondition_51 : decode cX2_startsCondition 51 = .ok (.iload_n 2, 1) := by decide +kernel
theorem dX2_startsCondition_52 : decode cX2_startsCondition 52 = .ok (.putfield 90, 3) := by decide +kernel
theorem dX2_startsCondition_55 : decode cX2_startsCondition 55 = .ok (.iload_n 3, 1) := by decide +kernel
theorem dX2_startsCondition_56 : decode cX2_startsCondition 56 = .ok (.ireturn, 1) := by decide +kernel
def X2_startsCondition (μ : Mm) : Rs := bd (X4_peek μ) fun v1 μ2 => if v1 = 33 then (some (1, μ2)) else (if v1 = 40 then (some (1, μ2)) else (bd (X2_sum RD 0 μ2) fun v6 μ7 => bd (X4_peek μ7) fun v9 μ10 => bd (X2_isComparison v9 μ10) fun v12 μ13 => sF μ13 3 1 (μ2 3 1) fun μ15 => rZ v12 μ15))
set_option maxHeartbeats 4000000 in
set_option maxRecDepth 100000 in
theorem kX2_startsCondition (d : Nat) (hd : 134 ≤ d) {μ : Mm} {r : Int} {μ' : Mm} (h : X2_startsCondition μ = some (r, μ')) : CC d mX2_startsCondition [vR 4] μ r μ' := by
  unfold X2_startsCondition at h
  refine V_enter (by decide) (Nat.le_of_ble_eq_true rfl) ?_
  show VV d mX2_startsCondition 0 [some (vR 4), none, none, none] [] μ r μ'
  refine V_aload_n (q := 1) dX2_startsCondition_0 rfl rfl rfl ?_
  refine V_getC (q := 4) fl_X2_9 rfl rfl rfl dX2_startsCondition_1 rfl ?_
  obtain ⟨v1, μ2, hc3, h⟩ := bd_i h
  refine V_cV1 (q := 7) (v := vI v1) (kX4_peek (d - 1) (by omega) hc3) (by omega) mv_X2_87 rfl rfl rfl rfl rfl rfl dX2_startsCondition_4 rfl ?_
  refine V_istore_n (q := 8) dX2_startsCondition_7 rfl (Nat.le_of_ble_eq_true rfl) trivial rfl ?_
  refine V_iload_n (q := 9) dX2_startsCondition_8 rfl rfl rfl ?_
  refine V_bipush (q := 11) dX2_startsCondition_9 rfl rfl rfl ?_
  refine V_icmpeq (q := 20) (q2 := 14) dX2_startsCondition_11 (by decide) rfl (fun hc4 => ?_) (fun hc4 => ?_)
  · have h := ifT hc4 h
    refine V_iconst (q := 21) dX2_startsCondition_20 rfl rfl ?_
    exact V_zret rfl (Or.inr rfl) h dX2_startsCondition_21
  · have h := ifF hc4 h
    refine V_iload_n (q := 15) dX2_startsCondition_14 rfl rfl rfl ?_
    refine V_bipush (q := 17) dX2_startsCondition_15 rfl rfl rfl ?_
    refine V_icmpne (q := 22) (q2 := 20) dX2_startsCondition_17 (by decide) rfl (fun hc5 => ?_) (fun hc5 => ?_)
    · have h := ifF hc5 h
      refine V_aload_n (q := 23) dX2_startsCondition_22 rfl rfl rfl ?_
      refine V_getC (q := 26) fl_X2_9 rfl rfl rfl dX2_startsCondition_23 rfl ?_
      refine V_getI (q := 29) fl_X2_90 rfl rfl rfl dX2_startsCondition_26 rfl ?_
      refine V_istore_n (q := 30) dX2_startsCondition_29 rfl (Nat.le_of_ble_eq_true rfl) trivial rfl ?_
      refine V_aload_n (q := 31) dX2_startsCondition_30 rfl rfl rfl ?_
      refine V_iconst (q := 32) dX2_startsCondition_31 rfl rfl ?_
      obtain ⟨v6, μ7, hc8, h⟩ := bd_i h
      refine V_cV1 (q := 35) (v := vI v6) (kX2_sum RD (d - 1) (by unfold RD; omega) hc8) (by omega) mv_X2_77 rfl rfl rfl rfl rfl rfl dX2_startsCondition_32 rfl ?_
      refine V_pop (q := 36) dX2_startsCondition_35 trivial rfl ?_
      refine V_aload_n (q := 37) dX2_startsCondition_36 rfl rfl rfl ?_
      refine V_getC (q := 40) fl_X2_9 rfl rfl rfl dX2_startsCondition_37 rfl ?_
      obtain ⟨v9, μ10, hc11, h⟩ := bd_i h
      refine V_cV1 (q := 43) (v := vI v9) (kX4_peek (d - 1) (by omega) hc11) (by omega) mv_X2_87 rfl rfl rfl rfl rfl rfl dX2_startsCondition_40 rfl ?_
      obtain ⟨v12, μ13, hc14, h⟩ := bd_i h
      refine V_cS1 (q := 46) (v := vI v12) (kX2_isComparison (d - 1) (by omega) hc14) (by omega) mv_X2_93 rfl rfl rfl rfl dX2_startsCondition_43 rfl ?_
      refine V_istore_n (q := 47) dX2_startsCondition_46 rfl (Nat.le_of_ble_eq_true rfl) trivial rfl ?_
      refine V_aload_n (q := 48) dX2_startsCondition_47 rfl rfl rfl ?_
      refine V_getC (q := 51) fl_X2_9 rfl rfl rfl dX2_startsCondition_48 rfl ?_
      refine V_iload_n (q := 52) dX2_startsCondition_51 rfl rfl rfl ?_
      have h := sF_i h
      refine V_putI (q := 55) fl_X2_90 rfl rfl rfl dX2_startsCondition_52 rfl ?_
      refine V_iload_n (q := 56) dX2_startsCondition_55 rfl rfl rfl ?_
      obtain ⟨hz16, h⟩ := rZ_i h
      exact V_zret rfl hz16 h dX2_startsCondition_56
    · have h := ifT hc5 h
      refine V_iconst (q := 21) dX2_startsCondition_20 rfl rfl ?_
      exact V_zret rfl (Or.inr rfl) h dX2_startsCondition_21
abbrev mX2_comparison : Mth := (yX2_comparison, cX2_comparison, 5, some .boolean)
theorem mi_X2_comparison : Cond.instanceMethod yX2_comparison ∈ tG ∧ Cond.selects yX2_comparison.cls yX2_comparison yX2_comparison ∈ tG ∧ Cond.initialized yX2_comparison.cls ∈ tG ∧ Cond.code yX2_comparison cX2_comparison 5 (some .boolean) ∈ tG ∧ (yX2_comparison.cls ≠ "java/lang/invoke/MethodHandle" ∧ yX2_comparison.cls ≠ "java/lang/invoke/VarHandle" ∧ (parseMethodDescriptor yX2_comparison.desc).map (fun d => d.parameters.length) = some 1) ∧ 5 ≤ 60 := ⟨(tG_of (List.mem_of_getElem? (i := 643) (by decide +kernel)) (by decide +kernel)), (tG_of (List.mem_of_getElem? (i := 13) (by decide +kernel)) (by decide +kernel)), (tG_of (List.mem_of_getElem? (i := 104) (by decide +kernel)) (by decide +kernel)), (tG_of (List.mem_of_getElem? (i := 644) (by decide +kernel)) (by decide +kernel)), ⟨by decide, by decide, by decide +kernel⟩, by decide⟩
theorem mv_X2_102 : mV RX2 102 mX2_comparison 1 := ⟨(tG_of (List.mem_of_getElem? (i := 641) (by decide +kernel)) (by decide +kernel)), mi_X2_comparison⟩
theorem dX2_comparison_0 : decode cX2_comparison 0 = .ok (.aload_n 0, 1) := by decide +kernel
theorem dX2_comparison_1 : decode cX2_comparison 1 = .ok (.iload_n 1, 1) := by decide +kernel
theorem dX2_comparison_2 : decode cX2_comparison 2 = .ok (.invokevirtual 77, 3) := by decide +kernel
theorem dX2_comparison_5 : decode cX2_comparison 5 = .ok (.istore_n 2, 1) := by decide +kernel
theorem dX2_comparison_6 : decode cX2_comparison 6 = .ok (.aload_n 0, 1) := by decide +kernel
theorem dX2_comparison_7 : decode cX2_comparison 7 = .ok (.getfield 9, 3) := by decide +kernel
theorem dX2_comparison_10 : decode cX2_comparison 10 = .ok (.invokevirtual 87, 3) := by decide +kernel
theorem dX2_comparison_13 : decode cX2_comparison 13 = .ok (.istore_n 3, 1) := by decide +kernel
theorem dX2_comparison_14 : decode cX2_comparison 14 = .ok (.iload_n 3, 1) := by decide +kernel
theorem dX2_comparison_15 : decode cX2_comparison 15 = .ok (.invokestatic 93, 3) := by decide +kernel
theorem dX2_comparison_18 : decode cX2_comparison 18 = .ok (.ifCond .ne 19, 3) := by decide +kernel
theorem dX2_comparison_21 : decode cX2_comparison 21 = .ok (.aload_n 0, 1) := by decide +kernel
theorem dX2_comparison_22 : decode cX2_comparison 22 = .ok (.getfield 9, 3) := by decide +kernel
theorem dX2_comparison_25 : decode cX2_comparison 25 = .ok (.aload_n 0, 1) := by decide +kernel
theorem dX2_comparison_26 : decode cX2_comparison 26 = .ok (.getfield 9, 3) := by decide +kernel
theorem dX2_comparison_29 : decode cX2_comparison 29 = .ok (.getfield 90, 3) := by decide +kernel
theorem dX2_comparison_32 : decode cX2_comparison 32 = .ok (.invokevirtual 105, 3) := by decide +kernel
theorem dX2_comparison_35 : decode cX2_comparison 35 = .ok (.iconst 0, 1) := by decide +kernel
theorem dX2_comparison_36 : decode cX2_comparison 36 = .ok (.ireturn, 1) := by decide +kernel
theorem dX2_comparison_37 : decode cX2_comparison 37 = .ok (.aload_n 0, 1) := by decide +kernel
theorem dX2_comparison_38 : decode cX2_comparison 38 = .ok (.getfield 9, 3) := by decide +kernel
theorem dX2_comparison_41 : decode cX2_comparison 41 = .ok (.invokevirtual 108, 3) := by decide +kernel
theorem dX2_comparison_44 : decode cX2_comparison 44 = .ok (.aload_n 0, 1) := by decide +kernel
theorem dX2_comparison_45 : decode cX2_comparison 45 = .ok (.iload_n 1, 1) := by decide +kernel
theorem dX2_comparison_46 : decode cX2_comparison 46 = .ok (.invokevirtual 77, 3) := by decide +kernel
theorem dX2_comparison_49 : decode cX2_comparison 49 = .ok (.istore 4, 2) := by decide +kernel
theorem dX2_comparison_51 : decode cX2_comparison 51 = .ok (.iload_n 3, 1) := by decide +kernel
theorem dX2_comparison_52 : decode cX2_comparison 52 = .ok (.bipush 61, 2) := by decide +kernel
theorem dX2_comparison_54 : decode cX2_comparison 54 = .ok (.if_icmp .ne 15, 3) := by decide +kernel
theorem dX2_comparison_57 : decode cX2_comparison 57 = .ok (.iload_n 2, 1) := by decide +kernel
theorem dX2_comparison_58 : decode cX2_comparison 58 = .ok (.iload 4, 2) := by decide +kernel
theorem dX2_comparison_60 : decode cX2_comparison 60 = .ok (.if_icmp .ne 7, 3) := by decide +kernel
theorem dX2_comparison_63 : decode cX2_comparison 63 = .ok (.iconst 1, 1) := by decide +kernel
theorem dX2_comparison_64 : decode cX2_comparison 64 = .ok (.goto 4, 3) := by decide +kernel
theorem dX2_comparison_67 : decode cX2_comparison 67 = .ok (.iconst 0, 1) := by decide +kernel
theorem dX2_comparison_68 : decode cX2_comparison 68 = .ok (.ireturn, 1) := by decide +kernel
theorem dX2_comparison_69 : decode cX2_comparison 69 = .ok (.iload_n 3, 1) := by decide +kernel
theorem dX2_comparison_70 : decode cX2_comparison 70 = .ok (.bipush 60, 2) := by decide +kernel
theorem dX2_comparison_72 : decode cX2_comparison 72 = .ok (.if_icmp .ne 17, 3) := by decide +kernel
theorem dX2_comparison_75 : decode cX2_comparison 75 = .ok (.iload_n 2, 1) := by decide +kernel
theorem dX2_comparison_76 : decode cX2_comparison 76 = .ok (.iload 4, 2) := by decide +kernel
theorem dX2_comparison_78 : decode cX2_comparison 78 = .ok (.if_icmp .ge 7, 3) := by decide +kernel
theorem dX2_comparison_81 : decode cX2_comparison 81 = .ok (.iconst 1, 1) := by decide +kernel
theorem dX2_comparison_82 : decode cX2_comparison 82 = .ok (.goto 18, 3) := by decide +kernel
theorem dX2_comparison_85 : decode cX2_comparison 85 = .ok (.iconst 0, 1) := by decide +kernel
theorem dX2_comparison_86 : decode cX2_comparison 86 = .ok (.goto 14, 3) := by decide +kernel
theorem dX2_comparison_89 : decode cX2_comparison 89 = .ok (.iload_n 2, 1) := by decide +kernel
theorem dX2_comparison_90 : decode cX2_comparison 90 = .ok (.iload 4, 2) := by decide +kernel
theorem dX2_comparison_92 : decode cX2_comparison 92 = .ok (.if_icmp .le 7, 3) := by decide +kernel
theorem dX2_comparison_95 : decode cX2_comparison 95 = .ok (.iconst 1, 1) := by decide +kernel
theorem dX2_comparison_96 : decode cX2_comparison 96 = .ok (.goto 4, 3) := by decide +kernel
theorem dX2_comparison_99 : decode cX2_comparison 99 = .ok (.iconst 0, 1) := by decide +kernel
theorem dX2_comparison_100 : decode cX2_comparison 100 = .ok (.ireturn, 1) := by decide +kernel
def X2_comparison (l1 : Int) (μ : Mm) : Rs := bd (X2_sum RD l1 μ) fun v1 μ2 => bd (X4_peek μ2) fun v4 μ5 => bd (X2_isComparison v4 μ5) fun v7 μ8 => if v7 = 0 then (bd (X4_refuseAt (μ8 3 1) μ8) fun v22 μ23 => some (0, μ23)) else (bd (X4_pass μ8) fun v11 μ12 => bd (X2_sum RD l1 μ12) fun v14 μ15 => if v4 = 61 then (if v1 = v14 then (some (1, μ15)) else (some (0, μ15))) else (if v4 = 60 then (if v14 ≤ v1 then (some (0, μ15)) else (some (1, μ15))) else (if v1 ≤ v14 then (some (0, μ15)) else (some (1, μ15)))))
set_option maxHeartbeats 4000000 in
set_option maxRecDepth 100000 in
theorem kX2_comparison (d : Nat) (hd : 134 ≤ d) {l1 : Int} {μ : Mm} {r : Int} {μ' : Mm} (h : X2_comparison l1 μ = some (r, μ')) : CC d mX2_comparison [vR 4, vI l1] μ r μ' := by
  unfold X2_comparison at h
  refine V_enter (by decide) (Nat.le_of_ble_eq_true rfl) ?_
  show VV d mX2_comparison 0 [some (vR 4), some (vI l1), none, none, none] [] μ r μ'
  refine V_aload_n (q := 1) dX2_comparison_0 rfl rfl rfl ?_
  refine V_iload_n (q := 2) dX2_comparison_1 rfl rfl rfl ?_
  obtain ⟨v1, μ2, hc3, h⟩ := bd_i h
  refine V_cV1 (q := 5) (v := vI v1) (kX2_sum RD (d - 1) (by unfold RD; omega) hc3) (by omega) mv_X2_77 rfl rfl rfl rfl rfl rfl dX2_comparison_2 rfl ?_
  refine V_istore_n (q := 6) dX2_comparison_5 rfl (Nat.le_of_ble_eq_true rfl) trivial rfl ?_
  refine V_aload_n (q := 7) dX2_comparison_6 rfl rfl rfl ?_
  refine V_getC (q := 10) fl_X2_9 rfl rfl rfl dX2_comparison_7 rfl ?_
  obtain ⟨v4, μ5, hc6, h⟩ := bd_i h
  refine V_cV1 (q := 13) (v := vI v4) (kX4_peek (d - 1) (by omega) hc6) (by omega) mv_X2_87 rfl rfl rfl rfl rfl rfl dX2_comparison_10 rfl ?_
  refine V_istore_n (q := 14) dX2_comparison_13 rfl (Nat.le_of_ble_eq_true rfl) trivial rfl ?_
  refine V_iload_n (q := 15) dX2_comparison_14 rfl rfl rfl ?_
  obtain ⟨v7, μ8, hc9, h⟩ := bd_i h
  refine V_cS1 (q := 18) (v := vI v7) (kX2_isComparison (d - 1) (by omega) hc9) (by omega) mv_X2_93 rfl rfl rfl rfl dX2_comparison_15 rfl ?_
  refine V_ifne (q := 37) (q2 := 21) dX2_comparison_18 (by decide) rfl (fun hc10 => ?_) (fun hc10 => ?_)
  · have h := ifF hc10 h
    refine V_aload_n (q := 38) dX2_comparison_37 rfl rfl rfl ?_
    refine V_getC (q := 41) fl_X2_9 rfl rfl rfl dX2_comparison_38 rfl ?_
    obtain ⟨v11, μ12, hc13, h⟩ := bd_i h
    refine V_cV0 (q := 44) (kX4_pass (d - 1) (by omega) hc13) (by omega) mv_X2_108 rfl rfl rfl rfl rfl rfl dX2_comparison_41 rfl ?_
    refine V_aload_n (q := 45) dX2_comparison_44 rfl rfl rfl ?_
    refine V_iload_n (q := 46) dX2_comparison_45 rfl rfl rfl ?_
    obtain ⟨v14, μ15, hc16, h⟩ := bd_i h
    refine V_cV1 (q := 49) (v := vI v14) (kX2_sum RD (d - 1) (by unfold RD; omega) hc16) (by omega) mv_X2_77 rfl rfl rfl rfl rfl rfl dX2_comparison_46 rfl ?_
    refine V_istore (q := 51) dX2_comparison_49 (Nat.le_of_ble_eq_true rfl) trivial rfl ?_
    refine V_iload_n (q := 52) dX2_comparison_51 rfl rfl rfl ?_
    refine V_bipush (q := 54) dX2_comparison_52 rfl rfl rfl ?_
    refine V_icmpne (q := 69) (q2 := 57) dX2_comparison_54 (by decide) rfl (fun hc17 => ?_) (fun hc17 => ?_)
    · have h := ifF hc17 h
      refine V_iload_n (q := 70) dX2_comparison_69 rfl rfl rfl ?_
      refine V_bipush (q := 72) dX2_comparison_70 rfl rfl rfl ?_
      refine V_icmpne (q := 89) (q2 := 75) dX2_comparison_72 (by decide) rfl (fun hc18 => ?_) (fun hc18 => ?_)
      · have h := ifF hc18 h
        refine V_iload_n (q := 90) dX2_comparison_89 rfl rfl rfl ?_
        refine V_iload (q := 92) dX2_comparison_90 rfl rfl ?_
        refine V_icmple (q := 99) (q2 := 95) dX2_comparison_92 (by decide) rfl (fun hc19 => ?_) (fun hc19 => ?_)
        · have h := ifT hc19 h
          refine V_iconst (q := 100) dX2_comparison_99 rfl rfl ?_
          exact V_zret rfl (Or.inl rfl) h dX2_comparison_100
        · have h := ifF hc19 h
          refine V_iconst (q := 96) dX2_comparison_95 rfl rfl ?_
          refine V_goto (q := 100) dX2_comparison_96 (by decide) ?_
          exact V_zret rfl (Or.inr rfl) h dX2_comparison_100
      · have h := ifT hc18 h
        refine V_iload_n (q := 76) dX2_comparison_75 rfl rfl rfl ?_
        refine V_iload (q := 78) dX2_comparison_76 rfl rfl ?_
        refine V_icmpge (q := 85) (q2 := 81) dX2_comparison_78 (by decide) rfl (fun hc20 => ?_) (fun hc20 => ?_)
        · have h := ifT hc20 h
          refine V_iconst (q := 86) dX2_comparison_85 rfl rfl ?_
          refine V_goto (q := 100) dX2_comparison_86 (by decide) ?_
          exact V_zret rfl (Or.inl rfl) h dX2_comparison_100
        · have h := ifF hc20 h
          refine V_iconst (q := 82) dX2_comparison_81 rfl rfl ?_
          refine V_goto (q := 100) dX2_comparison_82 (by decide) ?_
          exact V_zret rfl (Or.inr rfl) h dX2_comparison_100
    · have h := ifT hc17 h
      refine V_iload_n (q := 58) dX2_comparison_57 rfl rfl rfl ?_
      refine V_iload (q := 60) dX2_comparison_58 rfl rfl ?_
      refine V_icmpne (q := 67) (q2 := 63) dX2_comparison_60 (by decide) rfl (fun hc21 => ?_) (fun hc21 => ?_)
      · have h := ifF hc21 h
        refine V_iconst (q := 68) dX2_comparison_67 rfl rfl ?_
        exact V_zret rfl (Or.inl rfl) h dX2_comparison_68
      · have h := ifT hc21 h
        refine V_iconst (q := 64) dX2_comparison_63 rfl rfl ?_
        refine V_goto (q := 68) dX2_comparison_64 (by decide) ?_
        exact V_zret rfl (Or.inr rfl) h dX2_comparison_68
  · have h := ifT hc10 h
    refine V_aload_n (q := 22) dX2_comparison_21 rfl rfl rfl ?_
    refine V_getC (q := 25) fl_X2_9 rfl rfl rfl dX2_comparison_22 rfl ?_
    refine V_aload_n (q := 26) dX2_comparison_25 rfl rfl rfl ?_
    refine V_getC (q := 29) fl_X2_9 rfl rfl rfl dX2_comparison_26 rfl ?_
    refine V_getI (q := 32) fl_X2_90 rfl rfl rfl dX2_comparison_29 rfl ?_
    obtain ⟨v22, μ23, hc24, h⟩ := bd_i h
    refine V_cV0 (q := 35) (kX4_refuseAt (d - 1) (by omega) hc24) (by omega) mv_X2_105 rfl rfl rfl rfl rfl rfl dX2_comparison_32 rfl ?_
    refine V_iconst (q := 36) dX2_comparison_35 rfl rfl ?_
    exact V_zret rfl (Or.inl rfl) h dX2_comparison_36
abbrev mX2_truth : Mth := (yX2_truth, cX2_truth, 4, some .boolean)
theorem mi_X2_truth : Cond.instanceMethod yX2_truth ∈ tG ∧ Cond.selects yX2_truth.cls yX2_truth yX2_truth ∈ tG ∧ Cond.initialized yX2_truth.cls ∈ tG ∧ Cond.code yX2_truth cX2_truth 4 (some .boolean) ∈ tG ∧ (yX2_truth.cls ≠ "java/lang/invoke/MethodHandle" ∧ yX2_truth.cls ≠ "java/lang/invoke/VarHandle" ∧ (parseMethodDescriptor yX2_truth.desc).map (fun d => d.parameters.length) = some 1) ∧ 4 ≤ 60 := ⟨(tG_of (List.mem_of_getElem? (i := 635) (by decide +kernel)) (by decide +kernel)), (tG_of (List.mem_of_getElem? (i := 11) (by decide +kernel)) (by decide +kernel)), (tG_of (List.mem_of_getElem? (i := 104) (by decide +kernel)) (by decide +kernel)), (tG_of (List.mem_of_getElem? (i := 636) (by decide +kernel)) (by decide +kernel)), ⟨by decide, by decide, by decide +kernel⟩, by decide⟩
theorem mv_X2_96 : mV RX2 96 mX2_truth 1 := ⟨(tG_of (List.mem_of_getElem? (i := 633) (by decide +kernel)) (by decide +kernel)), mi_X2_truth⟩
theorem dX2_truth_0 : decode cX2_truth 0 = .ok (.aload_n 0, 1) := by decide +kernel
theorem dX2_truth_1 : decode cX2_truth 1 = .ok (.iload_n 1, 1) := by decide +kernel
theorem dX2_truth_2 : decode cX2_truth 2 = .ok (.invokevirtual 99, 3) := by decide +kernel
theorem dX2_truth_5 : decode cX2_truth 5 = .ok (.istore_n 2, 1) := by decide +kernel
theorem dX2_truth_6 : decode cX2_truth 6 = .ok (.iconst 0, 1) := by decide +kernel
theorem dX2_truth_7 : decode cX2_truth 7 = .ok (.istore_n 3, 1) := by decide +kernel
theorem dX2_truth_8 : decode cX2_truth 8 = .ok (.iload_n 3, 1) := by decide +kernel
theorem dX2_truth_9 : decode cX2_truth 9 = .ok (.sipush 160, 3) := by decide +kernel
theorem dX2_truth_12 : decode cX2_truth 12 = .ok (.if_icmp .ge 39, 3) := by decide +kernel
theorem dX2_truth_15 : decode cX2_truth 15 = .ok (.aload_n 0, 1) := by decide +kernel
theorem dX2_truth_16 : decode cX2_truth 16 = .ok (.getfield 9, 3) := by decide +kernel
theorem dX2_truth_19 : decode cX2_truth 19 = .ok (.bipush 38, 2) := by decide +kernel
theorem dX2_truth_21 : decode cX2_truth 21 = .ok (.invokevirtual 81, 3) := by decide +kernel
theorem dX2_truth_24 : decode cX2_truth 24 = .ok (.ifCond .eq 27, 3) := by decide +kernel
theorem dX2_truth_27 : decode cX2_truth 27 = .ok (.aload_n 0, 1) := by decide +kernel
theorem dX2_truth_28 : decode cX2_truth 28 = .ok (.iload_n 1, 1) := by decide +kernel
theorem dX2_truth_29 : decode cX2_truth 29 = .ok (.invokevirtual 99, 3) := by decide +kernel
theorem dX2_truth_32 : decode cX2_truth 32 = .ok (.ifCond .eq 11, 3) := by decide +kernel
theorem dX2_truth_35 : decode cX2_truth 35 = .ok (.iload_n 2, 1) := by decide +kernel
theorem dX2_truth_36 : decode cX2_truth 36 = .ok (.ifCond .eq 7, 3) := by decide +kernel
theorem dX2_truth_39 : decode cX2_truth 39 = .ok (.iconst 1, 1) := by decide +kernel
theorem dX2_truth_40 : decode cX2_truth 40 = .ok (.goto 4, 3) := by decide +kernel
theorem dX2_truth_43 : decode cX2_truth 43 = .ok (.iconst 0, 1) := by decide +kernel
theorem dX2_truth_44 : decode cX2_truth 44 = .ok (.istore_n 2, 1) := by decide +kernel
theorem dX2_truth_45 : decode cX2_truth 45 = .ok (.iinc 3 1, 3) := by decide +kernel
theorem dX2_truth_48 : decode cX2_truth 48 = .ok (.goto (-40), 3) := by decide +kernel
theorem dX2_truth_51 : decode cX2_truth 51 = .ok (.iload_n 2, 1) := by decide +kernel
theorem dX2_truth_52 : decode cX2_truth 52 = .ok (.ireturn, 1) := by decide +kernel
def X2_truth_L8 (rec : Int → Mm → Rs) (l1 : Int) : Nat → Int → Int → Mm → Rs
  | 0, _, _, _ => none
  | n + 1, l2, l3, μ => if 160 ≤ l3 then (rZ l2 μ) else (bd (X4_take 38 μ) fun v6 μ7 => if v6 = 0 then (rZ l2 μ7) else (bd (rec l1 μ7) fun v11 μ12 => if v11 = 0 then (X2_truth_L8 rec l1 n 0 (iA l3 1) μ12) else (if l2 = 0 then (X2_truth_L8 rec l1 n 0 (iA l3 1) μ12) else (X2_truth_L8 rec l1 n 1 (iA l3 1) μ12))))
def X2_truth_o (rec : Int → Mm → Rs) (l1 : Int) (μ : Mm) : Rs := bd (rec l1 μ) fun v1 μ2 => X2_truth_L8 rec l1 FU v1 0 μ2
set_option maxHeartbeats 4000000 in
set_option maxRecDepth 100000 in
theorem kX2_truth_L8 (d : Nat) (hd : d0 + 2 ≤ d) {rec : Int → Mm → Rs} (hrec : ∀ {q1 : Int} {μ1 : Mm} {r1 : Int} {μ2 : Mm}, rec q1 μ1 = some (r1, μ2) → CC d0 mX2_unit [vR 4, vI q1] μ1 r1 μ2) (hb : 137 ≤ d) {l1 : Int} {r : Int} {μ' : Mm} : ∀ (n : Nat) {l2 l3 : Int} {μ : Mm}, X2_truth_L8 rec l1 n l2 l3 μ = some (r, μ') → VV d mX2_truth 8 [some (vR 4), some (vI l1), some (vI l2), some (vI l3)] [] μ r μ' := by
  intro n
  induction n with
  | zero => intro l2 l3 μ h; rw [X2_truth_L8] at h; cases h
  | succ n ih =>
    intro l2 l3 μ h
    rw [X2_truth_L8] at h
    refine V_iload_n (q := 9) dX2_truth_8 rfl rfl rfl ?_
    refine V_sipush (q := 12) dX2_truth_9 rfl rfl rfl ?_
    refine V_icmpge (q := 51) (q2 := 15) dX2_truth_12 (by decide) rfl (fun hc4 => ?_) (fun hc4 => ?_)
    · have h := ifT hc4 h
      refine V_iload_n (q := 52) dX2_truth_51 rfl rfl rfl ?_
      obtain ⟨hz5, h⟩ := rZ_i h
      exact V_zret rfl hz5 h dX2_truth_52
    · have h := ifF hc4 h
      refine V_aload_n (q := 16) dX2_truth_15 rfl rfl rfl ?_
      refine V_getC (q := 19) fl_X2_9 rfl rfl rfl dX2_truth_16 rfl ?_
      refine V_bipush (q := 21) dX2_truth_19 rfl rfl rfl ?_
      obtain ⟨v6, μ7, hc8, h⟩ := bd_i h
      refine V_cV1 (q := 24) (v := vI v6) (kX4_take (d - 1) (by omega) hc8) (by omega) mv_X2_81 rfl rfl rfl rfl rfl rfl dX2_truth_21 rfl ?_
      refine V_ifeq (q := 51) (q2 := 27) dX2_truth_24 (by decide) rfl (fun hc9 => ?_) (fun hc9 => ?_)
      · have h := ifT hc9 h
        refine V_iload_n (q := 52) dX2_truth_51 rfl rfl rfl ?_
        obtain ⟨hz10, h⟩ := rZ_i h
        exact V_zret rfl hz10 h dX2_truth_52
      · have h := ifF hc9 h
        refine V_aload_n (q := 28) dX2_truth_27 rfl rfl rfl ?_
        refine V_iload_n (q := 29) dX2_truth_28 rfl rfl rfl ?_
        obtain ⟨v11, μ12, hc13, h⟩ := bd_i h
        refine V_cV1 (q := 32) (v := vI v11) (hrec hc13) (by omega) mv_X2_99 rfl rfl rfl rfl rfl rfl dX2_truth_29 rfl ?_
        refine V_ifeq (q := 43) (q2 := 35) dX2_truth_32 (by decide) rfl (fun hc14 => ?_) (fun hc14 => ?_)
        · have h := ifT hc14 h
          refine V_iconst (q := 44) dX2_truth_43 rfl rfl ?_
          refine V_istore_n (q := 45) dX2_truth_44 rfl (Nat.le_of_ble_eq_true rfl) trivial rfl ?_
          refine V_iinc (q := 48) dX2_truth_45 rfl (Nat.le_of_ble_eq_true rfl) trivial rfl ?_
          refine V_goto (q := 8) dX2_truth_48 (by decide) ?_
          exact V_weak (ih h) (sb_s rfl (sb_s rfl (sb_s rfl (sb_s rfl sb_0))))
        · have h := ifF hc14 h
          refine V_iload_n (q := 36) dX2_truth_35 rfl rfl rfl ?_
          refine V_ifeq (q := 43) (q2 := 39) dX2_truth_36 (by decide) rfl (fun hc15 => ?_) (fun hc15 => ?_)
          · have h := ifT hc15 h
            refine V_iconst (q := 44) dX2_truth_43 rfl rfl ?_
            refine V_istore_n (q := 45) dX2_truth_44 rfl (Nat.le_of_ble_eq_true rfl) trivial rfl ?_
            refine V_iinc (q := 48) dX2_truth_45 rfl (Nat.le_of_ble_eq_true rfl) trivial rfl ?_
            refine V_goto (q := 8) dX2_truth_48 (by decide) ?_
            exact V_weak (ih h) (sb_s rfl (sb_s rfl (sb_s rfl (sb_s rfl sb_0))))
          · have h := ifF hc15 h
            refine V_iconst (q := 40) dX2_truth_39 rfl rfl ?_
            refine V_goto (q := 44) dX2_truth_40 (by decide) ?_
            refine V_istore_n (q := 45) dX2_truth_44 rfl (Nat.le_of_ble_eq_true rfl) trivial rfl ?_
            refine V_iinc (q := 48) dX2_truth_45 rfl (Nat.le_of_ble_eq_true rfl) trivial rfl ?_
            refine V_goto (q := 8) dX2_truth_48 (by decide) ?_
            exact V_weak (ih h) (sb_s rfl (sb_s rfl (sb_s rfl (sb_s rfl sb_0))))
set_option maxHeartbeats 4000000 in
set_option maxRecDepth 100000 in
theorem kX2_truth (d : Nat) (hd : d0 + 2 ≤ d) {rec : Int → Mm → Rs} (hrec : ∀ {q1 : Int} {μ1 : Mm} {r1 : Int} {μ2 : Mm}, rec q1 μ1 = some (r1, μ2) → CC d0 mX2_unit [vR 4, vI q1] μ1 r1 μ2) (hb : 137 ≤ d) {l1 : Int} {μ : Mm} {r : Int} {μ' : Mm} (h : X2_truth_o rec l1 μ = some (r, μ')) : CC d mX2_truth [vR 4, vI l1] μ r μ' := by
  unfold X2_truth_o at h
  refine V_enter (by decide) (Nat.le_of_ble_eq_true rfl) ?_
  show VV d mX2_truth 0 [some (vR 4), some (vI l1), none, none] [] μ r μ'
  refine V_aload_n (q := 1) dX2_truth_0 rfl rfl rfl ?_
  refine V_iload_n (q := 2) dX2_truth_1 rfl rfl rfl ?_
  obtain ⟨v1, μ2, hc3, h⟩ := bd_i h
  refine V_cV1 (q := 5) (v := vI v1) (hrec hc3) (by omega) mv_X2_99 rfl rfl rfl rfl rfl rfl dX2_truth_2 rfl ?_
  refine V_istore_n (q := 6) dX2_truth_5 rfl (Nat.le_of_ble_eq_true rfl) trivial rfl ?_
  refine V_iconst (q := 7) dX2_truth_6 rfl rfl ?_
  refine V_istore_n (q := 8) dX2_truth_7 rfl (Nat.le_of_ble_eq_true rfl) trivial rfl ?_
  exact V_weak (kX2_truth_L8 d hd hrec hb  FU h) (sb_s rfl (sb_s rfl (sb_s rfl (sb_s rfl sb_0))))
abbrev mX2_condition : Mth := (yX2_condition, cX2_condition, 4, some .boolean)
theorem mi_X2_condition : Cond.instanceMethod yX2_condition ∈ tG ∧ Cond.selects yX2_condition.cls yX2_condition yX2_condition ∈ tG ∧ Cond.initialized yX2_condition.cls ∈ tG ∧ Cond.code yX2_condition cX2_condition 4 (some .boolean) ∈ tG ∧ (yX2_condition.cls ≠ "java/lang/invoke/MethodHandle" ∧ yX2_condition.cls ≠ "java/lang/invoke/VarHandle" ∧ (parseMethodDescriptor yX2_condition.desc).map (fun d => d.parameters.length) = some 1) ∧ 4 ≤ 60 := ⟨(tG_of (List.mem_of_getElem? (i := 631) (by decide +kernel)) (by decide +kernel)), (tG_of (List.mem_of_getElem? (i := 10) (by decide +kernel)) (by decide +kernel)), (tG_of (List.mem_of_getElem? (i := 104) (by decide +kernel)) (by decide +kernel)), (tG_of (List.mem_of_getElem? (i := 632) (by decide +kernel)) (by decide +kernel)), ⟨by decide, by decide, by decide +kernel⟩, by decide⟩
theorem mv_X2_73 : mV RX2 73 mX2_condition 1 := ⟨(tG_of (List.mem_of_getElem? (i := 629) (by decide +kernel)) (by decide +kernel)), mi_X2_condition⟩
theorem dX2_condition_0 : decode cX2_condition 0 = .ok (.aload_n 0, 1) := by decide +kernel
theorem dX2_condition_1 : decode cX2_condition 1 = .ok (.iload_n 1, 1) := by decide +kernel
theorem dX2_condition_2 : decode cX2_condition 2 = .ok (.invokevirtual 96, 3) := by decide +kernel
theorem dX2_condition_5 : decode cX2_condition 5 = .ok (.istore_n 2, 1) := by decide +kernel
theorem dX2_condition_6 : decode cX2_condition 6 = .ok (.iconst 0, 1) := by decide +kernel
theorem dX2_condition_7 : decode cX2_condition 7 = .ok (.istore_n 3, 1) := by decide +kernel
theorem dX2_condition_8 : decode cX2_condition 8 = .ok (.iload_n 3, 1) := by decide +kernel
theorem dX2_condition_9 : decode cX2_condition 9 = .ok (.sipush 160, 3) := by decide +kernel
theorem dX2_condition_12 : decode cX2_condition 12 = .ok (.if_icmp .ge 39, 3) := by decide +kernel
theorem dX2_condition_15 : decode cX2_condition 15 = .ok (.aload_n 0, 1) := by decide +kernel
theorem dX2_condition_16 : decode cX2_condition 16 = .ok (.getfield 9, 3) := by decide +kernel
theorem dX2_condition_19 : decode cX2_condition 19 = .ok (.bipush 124, 2) := by decide +kernel
theorem dX2_condition_21 : decode cX2_condition 21 = .ok (.invokevirtual 81, 3) := by decide +kernel
theorem dX2_condition_24 : decode cX2_condition 24 = .ok (.ifCond .eq 27, 3) := by decide +kernel
theorem dX2_condition_27 : decode cX2_condition 27 = .ok (.aload_n 0, 1) := by decide +kernel
theorem dX2_condition_28 : decode cX2_condition 28 = .ok (.iload_n 1, 1) := by decide +kernel
theorem dX2_condition_29 : decode cX2_condition 29 = .ok (.invokevirtual 96, 3) := by decide +kernel
theorem dX2_condition_32 : decode cX2_condition 32 = .ok (.ifCond .ne 7, 3) := by decide +kernel
theorem dX2_condition_35 : decode cX2_condition 35 = .ok (.iload_n 2, 1) := by decide +kernel
theorem dX2_condition_36 : decode cX2_condition 36 = .ok (.ifCond .eq 7, 3) := by decide +kernel
theorem dX2_condition_39 : decode cX2_condition 39 = .ok (.iconst 1, 1) := by decide +kernel
theorem dX2_condition_40 : decode cX2_condition 40 = .ok (.goto 4, 3) := by decide +kernel
theorem dX2_condition_43 : decode cX2_condition 43 = .ok (.iconst 0, 1) := by decide +kernel
theorem dX2_condition_44 : decode cX2_condition 44 = .ok (.istore_n 2, 1) := by decide +kernel
theorem dX2_condition_45 : decode cX2_condition 45 = .ok (.iinc 3 1, 3) := by decide +kernel
theorem dX2_condition_48 : decode cX2_condition 48 = .ok (.goto (-40), 3) := by decide +kernel
theorem dX2_condition_51 : decode cX2_condition 51 = .ok (.iload_n 2, 1) := by decide +kernel
theorem dX2_condition_52 : decode cX2_condition 52 = .ok (.ireturn, 1) := by decide +kernel
def X2_condition_L8 (rec : Int → Mm → Rs) (l1 : Int) : Nat → Int → Int → Mm → Rs
  | 0, _, _, _ => none
  | n + 1, l2, l3, μ => if 160 ≤ l3 then (rZ l2 μ) else (bd (X4_take 124 μ) fun v6 μ7 => if v6 = 0 then (rZ l2 μ7) else (bd (X2_truth_o rec l1 μ7) fun v11 μ12 => if v11 = 0 then (if l2 = 0 then (X2_condition_L8 rec l1 n 0 (iA l3 1) μ12) else (X2_condition_L8 rec l1 n 1 (iA l3 1) μ12)) else (X2_condition_L8 rec l1 n 1 (iA l3 1) μ12)))
def X2_condition_o (rec : Int → Mm → Rs) (l1 : Int) (μ : Mm) : Rs := bd (X2_truth_o rec l1 μ) fun v1 μ2 => X2_condition_L8 rec l1 FU v1 0 μ2
set_option maxHeartbeats 4000000 in
set_option maxRecDepth 100000 in
theorem kX2_condition_L8 (d : Nat) (hd : d0 + 3 ≤ d) {rec : Int → Mm → Rs} (hrec : ∀ {q1 : Int} {μ1 : Mm} {r1 : Int} {μ2 : Mm}, rec q1 μ1 = some (r1, μ2) → CC d0 mX2_unit [vR 4, vI q1] μ1 r1 μ2) (hb : 138 ≤ d) {l1 : Int} {r : Int} {μ' : Mm} : ∀ (n : Nat) {l2 l3 : Int} {μ : Mm}, X2_condition_L8 rec l1 n l2 l3 μ = some (r, μ') → VV d mX2_condition 8 [some (vR 4), some (vI l1), some (vI l2), some (vI l3)] [] μ r μ' := by
  intro n
  induction n with
  | zero => intro l2 l3 μ h; rw [X2_condition_L8] at h; cases h
  | succ n ih =>
    intro l2 l3 μ h
    rw [X2_condition_L8] at h
    refine V_iload_n (q := 9) dX2_condition_8 rfl rfl rfl ?_
    refine V_sipush (q := 12) dX2_condition_9 rfl rfl rfl ?_
    refine V_icmpge (q := 51) (q2 := 15) dX2_condition_12 (by decide) rfl (fun hc4 => ?_) (fun hc4 => ?_)
    · have h := ifT hc4 h
      refine V_iload_n (q := 52) dX2_condition_51 rfl rfl rfl ?_
      obtain ⟨hz5, h⟩ := rZ_i h
      exact V_zret rfl hz5 h dX2_condition_52
    · have h := ifF hc4 h
      refine V_aload_n (q := 16) dX2_condition_15 rfl rfl rfl ?_
      refine V_getC (q := 19) fl_X2_9 rfl rfl rfl dX2_condition_16 rfl ?_
      refine V_bipush (q := 21) dX2_condition_19 rfl rfl rfl ?_
      obtain ⟨v6, μ7, hc8, h⟩ := bd_i h
      refine V_cV1 (q := 24) (v := vI v6) (kX4_take (d - 1) (by omega) hc8) (by omega) mv_X2_81 rfl rfl rfl rfl rfl rfl dX2_condition_21 rfl ?_
      refine V_ifeq (q := 51) (q2 := 27) dX2_condition_24 (by decide) rfl (fun hc9 => ?_) (fun hc9 => ?_)
      · have h := ifT hc9 h
        refine V_iload_n (q := 52) dX2_condition_51 rfl rfl rfl ?_
        obtain ⟨hz10, h⟩ := rZ_i h
        exact V_zret rfl hz10 h dX2_condition_52
      · have h := ifF hc9 h
        refine V_aload_n (q := 28) dX2_condition_27 rfl rfl rfl ?_
        refine V_iload_n (q := 29) dX2_condition_28 rfl rfl rfl ?_
        obtain ⟨v11, μ12, hc13, h⟩ := bd_i h
        refine V_cV1 (q := 32) (v := vI v11) (kX2_truth (d - 1) (by omega) hrec (by omega) hc13) (by omega) mv_X2_96 rfl rfl rfl rfl rfl rfl dX2_condition_29 rfl ?_
        refine V_ifne (q := 39) (q2 := 35) dX2_condition_32 (by decide) rfl (fun hc14 => ?_) (fun hc14 => ?_)
        · have h := ifF hc14 h
          refine V_iconst (q := 40) dX2_condition_39 rfl rfl ?_
          refine V_goto (q := 44) dX2_condition_40 (by decide) ?_
          refine V_istore_n (q := 45) dX2_condition_44 rfl (Nat.le_of_ble_eq_true rfl) trivial rfl ?_
          refine V_iinc (q := 48) dX2_condition_45 rfl (Nat.le_of_ble_eq_true rfl) trivial rfl ?_
          refine V_goto (q := 8) dX2_condition_48 (by decide) ?_
          exact V_weak (ih h) (sb_s rfl (sb_s rfl (sb_s rfl (sb_s rfl sb_0))))
        · have h := ifT hc14 h
          refine V_iload_n (q := 36) dX2_condition_35 rfl rfl rfl ?_
          refine V_ifeq (q := 43) (q2 := 39) dX2_condition_36 (by decide) rfl (fun hc15 => ?_) (fun hc15 => ?_)
          · have h := ifT hc15 h
            refine V_iconst (q := 44) dX2_condition_43 rfl rfl ?_
            refine V_istore_n (q := 45) dX2_condition_44 rfl (Nat.le_of_ble_eq_true rfl) trivial rfl ?_
            refine V_iinc (q := 48) dX2_condition_45 rfl (Nat.le_of_ble_eq_true rfl) trivial rfl ?_
            refine V_goto (q := 8) dX2_condition_48 (by decide) ?_
            exact V_weak (ih h) (sb_s rfl (sb_s rfl (sb_s rfl (sb_s rfl sb_0))))
          · have h := ifF hc15 h
            refine V_iconst (q := 40) dX2_condition_39 rfl rfl ?_
            refine V_goto (q := 44) dX2_condition_40 (by decide) ?_
            refine V_istore_n (q := 45) dX2_condition_44 rfl (Nat.le_of_ble_eq_true rfl) trivial rfl ?_
            refine V_iinc (q := 48) dX2_condition_45 rfl (Nat.le_of_ble_eq_true rfl) trivial rfl ?_
            refine V_goto (q := 8) dX2_condition_48 (by decide) ?_
            exact V_weak (ih h) (sb_s rfl (sb_s rfl (sb_s rfl (sb_s rfl sb_0))))
set_option maxHeartbeats 4000000 in
set_option maxRecDepth 100000 in
theorem kX2_condition (d : Nat) (hd : d0 + 3 ≤ d) {rec : Int → Mm → Rs} (hrec : ∀ {q1 : Int} {μ1 : Mm} {r1 : Int} {μ2 : Mm}, rec q1 μ1 = some (r1, μ2) → CC d0 mX2_unit [vR 4, vI q1] μ1 r1 μ2) (hb : 138 ≤ d) {l1 : Int} {μ : Mm} {r : Int} {μ' : Mm} (h : X2_condition_o rec l1 μ = some (r, μ')) : CC d mX2_condition [vR 4, vI l1] μ r μ' := by
  unfold X2_condition_o at h
  refine V_enter (by decide) (Nat.le_of_ble_eq_true rfl) ?_
  show VV d mX2_condition 0 [some (vR 4), some (vI l1), none, none] [] μ r μ'
  refine V_aload_n (q := 1) dX2_condition_0 rfl rfl rfl ?_
  refine V_iload_n (q := 2) dX2_condition_1 rfl rfl rfl ?_
  obtain ⟨v1, μ2, hc3, h⟩ := bd_i h
  refine V_cV1 (q := 5) (v := vI v1) (kX2_truth (d - 1) (by omega) hrec (by omega) hc3) (by omega) mv_X2_96 rfl rfl rfl rfl rfl rfl dX2_condition_2 rfl ?_
  refine V_istore_n (q := 6) dX2_condition_5 rfl (Nat.le_of_ble_eq_true rfl) trivial rfl ?_
  refine V_iconst (q := 7) dX2_condition_6 rfl rfl ?_
  refine V_istore_n (q := 8) dX2_condition_7 rfl (Nat.le_of_ble_eq_true rfl) trivial rfl ?_
  exact V_weak (kX2_condition_L8 d hd hrec hb  FU h) (sb_s rfl (sb_s rfl (sb_s rfl (sb_s rfl sb_0))))
abbrev mX2_enclosed : Mth := (yX2_enclosed, cX2_enclosed, 3, some .boolean)
theorem mi_X2_enclosed : Cond.instanceMethod yX2_enclosed ∈ tG ∧ Cond.selects yX2_enclosed.cls yX2_enclosed yX2_enclosed ∈ tG ∧ Cond.initialized yX2_enclosed.cls ∈ tG ∧ Cond.code yX2_enclosed cX2_enclosed 3 (some .boolean) ∈ tG ∧ (yX2_enclosed.cls ≠ "java/lang/invoke/MethodHandle" ∧ yX2_enclosed.cls ≠ "java/lang/invoke/VarHandle" ∧ (parseMethodDescriptor yX2_enclosed.desc).map (fun d => d.parameters.length) = some 1) ∧ 3 ≤ 60 := ⟨(tG_of (List.mem_of_getElem? (i := 651) (by decide +kernel)) (by decide +kernel)), (tG_of (List.mem_of_getElem? (i := 15) (by decide +kernel)) (by decide +kernel)), (tG_of (List.mem_of_getElem? (i := 104) (by decide +kernel)) (by decide +kernel)), (tG_of (List.mem_of_getElem? (i := 652) (by decide +kernel)) (by decide +kernel)), ⟨by decide, by decide, by decide +kernel⟩, by decide⟩
theorem mv_X2_114 : mV RX2 114 mX2_enclosed 1 := ⟨(tG_of (List.mem_of_getElem? (i := 649) (by decide +kernel)) (by decide +kernel)), mi_X2_enclosed⟩
theorem dX2_enclosed_0 : decode cX2_enclosed 0 = .ok (.aload_n 0, 1) := by decide +kernel
theorem dX2_enclosed_1 : decode cX2_enclosed 1 = .ok (.iload_n 1, 1) := by decide +kernel
theorem dX2_enclosed_2 : decode cX2_enclosed 2 = .ok (.invokevirtual 73, 3) := by decide +kernel
theorem dX2_enclosed_5 : decode cX2_enclosed 5 = .ok (.istore_n 2, 1) := by decide +kernel
theorem dX2_enclosed_6 : decode cX2_enclosed 6 = .ok (.aload_n 0, 1) := by decide +kernel
theorem dX2_enclosed_7 : decode cX2_enclosed 7 = .ok (.getfield 9, 3) := by decide +kernel
theorem dX2_enclosed_10 : decode cX2_enclosed 10 = .ok (.bipush 41, 2) := by decide +kernel
theorem dX2_enclosed_12 : decode cX2_enclosed 12 = .ok (.invokevirtual 65, 3) := by decide +kernel
theorem dX2_enclosed_15 : decode cX2_enclosed 15 = .ok (.iload_n 2, 1) := by decide +kernel
theorem dX2_enclosed_16 : decode cX2_enclosed 16 = .ok (.ireturn, 1) := by decide +kernel
def X2_enclosed_o (rec : Int → Mm → Rs) (l1 : Int) (μ : Mm) : Rs := bd (X2_condition_o rec l1 μ) fun v1 μ2 => bd (X4_need 41 μ2) fun v4 μ5 => rZ v1 μ5
set_option maxHeartbeats 4000000 in
set_option maxRecDepth 100000 in
theorem kX2_enclosed (d : Nat) (hd : d0 + 4 ≤ d) {rec : Int → Mm → Rs} (hrec : ∀ {q1 : Int} {μ1 : Mm} {r1 : Int} {μ2 : Mm}, rec q1 μ1 = some (r1, μ2) → CC d0 mX2_unit [vR 4, vI q1] μ1 r1 μ2) (hb : 139 ≤ d) {l1 : Int} {μ : Mm} {r : Int} {μ' : Mm} (h : X2_enclosed_o rec l1 μ = some (r, μ')) : CC d mX2_enclosed [vR 4, vI l1] μ r μ' := by
  unfold X2_enclosed_o at h
  refine V_enter (by decide) (Nat.le_of_ble_eq_true rfl) ?_
  show VV d mX2_enclosed 0 [some (vR 4), some (vI l1), none] [] μ r μ'
  refine V_aload_n (q := 1) dX2_enclosed_0 rfl rfl rfl ?_
  refine V_iload_n (q := 2) dX2_enclosed_1 rfl rfl rfl ?_
  obtain ⟨v1, μ2, hc3, h⟩ := bd_i h
  refine V_cV1 (q := 5) (v := vI v1) (kX2_condition (d - 1) (by omega) hrec (by omega) hc3) (by omega) mv_X2_73 rfl rfl rfl rfl rfl rfl dX2_enclosed_2 rfl ?_
  refine V_istore_n (q := 6) dX2_enclosed_5 rfl (Nat.le_of_ble_eq_true rfl) trivial rfl ?_
  refine V_aload_n (q := 7) dX2_enclosed_6 rfl rfl rfl ?_
  refine V_getC (q := 10) fl_X2_9 rfl rfl rfl dX2_enclosed_7 rfl ?_
  refine V_bipush (q := 12) dX2_enclosed_10 rfl rfl rfl ?_
  obtain ⟨v4, μ5, hc6, h⟩ := bd_i h
  refine V_cV0 (q := 15) (kX4_need (d - 1) (by omega) hc6) (by omega) mv_X2_65 rfl rfl rfl rfl rfl rfl dX2_enclosed_12 rfl ?_
  refine V_iload_n (q := 16) dX2_enclosed_15 rfl rfl rfl ?_
  obtain ⟨hz7, h⟩ := rZ_i h
  exact V_zret rfl hz7 h dX2_enclosed_16
abbrev mX2_denied : Mth := (yX2_denied, cX2_denied, 2, some .boolean)
theorem mi_X2_denied : Cond.instanceMethod yX2_denied ∈ tG ∧ Cond.selects yX2_denied.cls yX2_denied yX2_denied ∈ tG ∧ Cond.initialized yX2_denied.cls ∈ tG ∧ Cond.code yX2_denied cX2_denied 2 (some .boolean) ∈ tG ∧ (yX2_denied.cls ≠ "java/lang/invoke/MethodHandle" ∧ yX2_denied.cls ≠ "java/lang/invoke/VarHandle" ∧ (parseMethodDescriptor yX2_denied.desc).map (fun d => d.parameters.length) = some 1) ∧ 2 ≤ 60 := ⟨(tG_of (List.mem_of_getElem? (i := 647) (by decide +kernel)) (by decide +kernel)), (tG_of (List.mem_of_getElem? (i := 14) (by decide +kernel)) (by decide +kernel)), (tG_of (List.mem_of_getElem? (i := 104) (by decide +kernel)) (by decide +kernel)), (tG_of (List.mem_of_getElem? (i := 648) (by decide +kernel)) (by decide +kernel)), ⟨by decide, by decide, by decide +kernel⟩, by decide⟩
theorem mv_X2_111 : mV RX2 111 mX2_denied 1 := ⟨(tG_of (List.mem_of_getElem? (i := 645) (by decide +kernel)) (by decide +kernel)), mi_X2_denied⟩
theorem dX2_denied_0 : decode cX2_denied 0 = .ok (.aload_n 0, 1) := by decide +kernel
theorem dX2_denied_1 : decode cX2_denied 1 = .ok (.iload_n 1, 1) := by decide +kernel
theorem dX2_denied_2 : decode cX2_denied 2 = .ok (.invokevirtual 99, 3) := by decide +kernel
theorem dX2_denied_5 : decode cX2_denied 5 = .ok (.ifCond .ne 7, 3) := by decide +kernel
theorem dX2_denied_8 : decode cX2_denied 8 = .ok (.iconst 1, 1) := by decide +kernel
theorem dX2_denied_9 : decode cX2_denied 9 = .ok (.goto 4, 3) := by decide +kernel
theorem dX2_denied_12 : decode cX2_denied 12 = .ok (.iconst 0, 1) := by decide +kernel
theorem dX2_denied_13 : decode cX2_denied 13 = .ok (.ireturn, 1) := by decide +kernel
def X2_denied_o (rec : Int → Mm → Rs) (l1 : Int) (μ : Mm) : Rs := bd (rec l1 μ) fun v1 μ2 => if v1 = 0 then (some (1, μ2)) else (some (0, μ2))
set_option maxHeartbeats 4000000 in
set_option maxRecDepth 100000 in
theorem kX2_denied (d : Nat) (hd : d0 + 2 ≤ d) {rec : Int → Mm → Rs} (hrec : ∀ {q1 : Int} {μ1 : Mm} {r1 : Int} {μ2 : Mm}, rec q1 μ1 = some (r1, μ2) → CC d0 mX2_unit [vR 4, vI q1] μ1 r1 μ2) (hb : 137 ≤ d) {l1 : Int} {μ : Mm} {r : Int} {μ' : Mm} (h : X2_denied_o rec l1 μ = some (r, μ')) : CC d mX2_denied [vR 4, vI l1] μ r μ' := by
  unfold X2_denied_o at h
  refine V_enter (by decide) (Nat.le_of_ble_eq_true rfl) ?_
  show VV d mX2_denied 0 [some (vR 4), some (vI l1)] [] μ r μ'
  refine V_aload_n (q := 1) dX2_denied_0 rfl rfl rfl ?_
  refine V_iload_n (q := 2) dX2_denied_1 rfl rfl rfl ?_
  obtain ⟨v1, μ2, hc3, h⟩ := bd_i h
  refine V_cV1 (q := 5) (v := vI v1) (hrec hc3) (by omega) mv_X2_99 rfl rfl rfl rfl rfl rfl dX2_denied_2 rfl ?_
  refine V_ifne (q := 12) (q2 := 8) dX2_denied_5 (by decide) rfl (fun hc4 => ?_) (fun hc4 => ?_)
  · have h := ifF hc4 h
    refine V_iconst (q := 13) dX2_denied_12 rfl rfl ?_
    exact V_zret rfl (Or.inl rfl) h dX2_denied_13
  · have h := ifT hc4 h
    refine V_iconst (q := 9) dX2_denied_8 rfl rfl ?_
    refine V_goto (q := 13) dX2_denied_9 (by decide) ?_
    exact V_zret rfl (Or.inr rfl) h dX2_denied_13
abbrev mX2_unit : Mth := (yX2_unit, cX2_unit, 3, some .boolean)
theorem mi_X2_unit : Cond.instanceMethod yX2_unit ∈ tG ∧ Cond.selects yX2_unit.cls yX2_unit yX2_unit ∈ tG ∧ Cond.initialized yX2_unit.cls ∈ tG ∧ Cond.code yX2_unit cX2_unit 3 (some .boolean) ∈ tG ∧ (yX2_unit.cls ≠ "java/lang/invoke/MethodHandle" ∧ yX2_unit.cls ≠ "java/lang/invoke/VarHandle" ∧ (parseMethodDescriptor yX2_unit.desc).map (fun d => d.parameters.length) = some 1) ∧ 3 ≤ 60 := ⟨(tG_of (List.mem_of_getElem? (i := 639) (by decide +kernel)) (by decide +kernel)), (tG_of (List.mem_of_getElem? (i := 12) (by decide +kernel)) (by decide +kernel)), (tG_of (List.mem_of_getElem? (i := 104) (by decide +kernel)) (by decide +kernel)), (tG_of (List.mem_of_getElem? (i := 640) (by decide +kernel)) (by decide +kernel)), ⟨by decide, by decide, by decide +kernel⟩, by decide⟩
theorem mv_X2_99 : mV RX2 99 mX2_unit 1 := ⟨(tG_of (List.mem_of_getElem? (i := 637) (by decide +kernel)) (by decide +kernel)), mi_X2_unit⟩
theorem dX2_unit_0 : decode cX2_unit 0 = .ok (.aload_n 0, 1) := by decide +kernel
theorem dX2_unit_1 : decode cX2_unit 1 = .ok (.getfield 9, 3) := by decide +kernel
theorem dX2_unit_4 : decode cX2_unit 4 = .ok (.invokevirtual 87, 3) := by decide +kernel
theorem dX2_unit_7 : decode cX2_unit 7 = .ok (.istore_n 2, 1) := by decide +kernel
theorem dX2_unit_8 : decode cX2_unit 8 = .ok (.iload_n 2, 1) := by decide +kernel
theorem dX2_unit_9 : decode cX2_unit 9 = .ok (.bipush 33, 2) := by decide +kernel
theorem dX2_unit_11 : decode cX2_unit 11 = .ok (.if_icmp .eq 15, 3) := by decide +kernel
theorem dX2_unit_14 : decode cX2_unit 14 = .ok (.iload_n 2, 1) := by decide +kernel
theorem dX2_unit_15 : decode cX2_unit 15 = .ok (.bipush 40, 2) := by decide +kernel
theorem dX2_unit_17 : decode cX2_unit 17 = .ok (.if_icmp .eq 9, 3) := by decide +kernel
theorem dX2_unit_20 : decode cX2_unit 20 = .ok (.aload_n 0, 1) := by decide +kernel
theorem dX2_unit_21 : decode cX2_unit 21 = .ok (.iload_n 1, 1) := by decide +kernel
theorem dX2_unit_22 : decode cX2_unit 22 = .ok (.invokevirtual 102, 3) := by decide +kernel
theorem dX2_unit_25 : decode cX2_unit 25 = .ok (.ireturn, 1) := by decide +kernel
theorem dX2_unit_26 : decode cX2_unit 26 = .ok (.iload_n 1, 1) := by decide +kernel
theorem dX2_unit_27 : decode cX2_unit 27 = .ok (.bipush 6, 2) := by decide +kernel
theorem dX2_unit_29 : decode cX2_unit 29 = .ok (.if_icmp .lt 19, 3) := by decide +kernel
theorem dX2_unit_32 : decode cX2_unit 32 = .ok (.aload_n 0, 1) := by decide +kernel
theorem dX2_unit_33 : decode cX2_unit 33 = .ok (.getfield 9, 3) := by decide +kernel
theorem dX2_unit_36 : decode cX2_unit 36 = .ok (.aload_n 0, 1) := by decide +kernel
theorem dX2_unit_37 : decode cX2_unit 37 = .ok (.getfield 9, 3) := by decide +kernel
theorem dX2_unit_40 : decode cX2_unit 40 = .ok (.getfield 90, 3) := by decide +kernel
theorem dX2_unit_43 : decode cX2_unit 43 = .ok (.invokevirtual 105, 3) := by decide +kernel
theorem dX2_unit_46 : decode cX2_unit 46 = .ok (.iconst 0, 1) := by decide +kernel
theorem dX2_unit_47 : decode cX2_unit 47 = .ok (.ireturn, 1) := by decide +kernel
theorem dX2_unit_48 : decode cX2_unit 48 = .ok (.aload_n 0, 1) := by decide +kernel
theorem dX2_unit_49 : decode cX2_unit 49 = .ok (.getfield 9, 3) := by decide +kernel
theorem dX2_unit_52 : decode cX2_unit 52 = .ok (.invokevirtual 108, 3) := by decide +kernel
theorem dX2_unit_55 : decode cX2_unit 55 = .ok (.iload_n 2, 1) := by decide +kernel
theorem dX2_unit_56 : decode cX2_unit 56 = .ok (.bipush 33, 2) := by decide +kernel
theorem dX2_unit_58 : decode cX2_unit 58 = .ok (.if_icmp .ne 13, 3) := by decide +kernel
theorem dX2_unit_61 : decode cX2_unit 61 = .ok (.aload_n 0, 1) := by decide +kernel
theorem dX2_unit_62 : decode cX2_unit 62 = .ok (.iload_n 1, 1) := by decide +kernel
theorem dX2_unit_63 : decode cX2_unit 63 = .ok (.iconst 1, 1) := by decide +kernel
theorem dX2_unit_64 : decode cX2_unit 64 = .ok (.iadd, 1) := by decide +kernel
theorem dX2_unit_65 : decode cX2_unit 65 = .ok (.invokevirtual 111, 3) := by decide +kernel
theorem dX2_unit_68 : decode cX2_unit 68 = .ok (.goto 10, 3) := by decide +kernel
theorem dX2_unit_71 : decode cX2_unit 71 = .ok (.aload_n 0, 1) := by decide +kernel
theorem dX2_unit_72 : decode cX2_unit 72 = .ok (.iload_n 1, 1) := by decide +kernel
theorem dX2_unit_73 : decode cX2_unit 73 = .ok (.iconst 1, 1) := by decide +kernel
theorem dX2_unit_74 : decode cX2_unit 74 = .ok (.iadd, 1) := by decide +kernel
theorem dX2_unit_75 : decode cX2_unit 75 = .ok (.invokevirtual 114, 3) := by decide +kernel
theorem dX2_unit_78 : decode cX2_unit 78 = .ok (.ireturn, 1) := by decide +kernel
def X2_unit_J26 (rec : Int → Mm → Rs) (l1 : Int) (l2 : Int) (μ : Mm) : Rs := if l1 < 6 then (bd (X4_pass μ) fun v6 μ7 => if l2 = 33 then (bd (X2_denied_o rec (iA l1 1) μ7) fun v14 μ15 => rZ v14 μ15) else (bd (X2_enclosed_o rec (iA l1 1) μ7) fun v10 μ11 => rZ v10 μ11)) else (bd (X4_refuseAt (μ 3 1) μ) fun v18 μ19 => some (0, μ19))
def X2_unit : Nat → Int → Mm → Rs
  | 0, _, _ => none
  | n + 1, l1, μ => bd (X4_peek μ) fun v1 μ2 => if v1 = 33 then (X2_unit_J26 (fun w0 μq => X2_unit n w0 μq) l1 v1 μ2) else (if v1 = 40 then (X2_unit_J26 (fun w0 μq => X2_unit n w0 μq) l1 v1 μ2) else (bd (X2_comparison l1 μ2) fun v22 μ23 => rZ v22 μ23))
set_option maxHeartbeats 4000000 in
set_option maxRecDepth 100000 in
theorem kX2_unit_J26 (d : Nat) (hd : d0 + 1 ≤ d) (hb : 136 ≤ d) {rec : Int → Mm → Rs} (hrec : ∀ {q1 : Int} {μ1 : Mm} {r1 : Int} {μ2 : Mm}, rec q1 μ1 = some (r1, μ2) → CC d0 mX2_unit [vR 4, vI q1] μ1 r1 μ2) {l1 : Int} {l2 : Int} {μ : Mm} {r : Int} {μ' : Mm} (h : X2_unit_J26 rec l1 l2 μ = some (r, μ')) : VV d mX2_unit 26 [some (vR 4), some (vI l1), some (vI l2)] [] μ r μ' := by
  unfold X2_unit_J26 at h
  refine V_iload_n (q := 27) dX2_unit_26 rfl rfl rfl ?_
  refine V_bipush (q := 29) dX2_unit_27 rfl rfl rfl ?_
  refine V_icmplt (q := 48) (q2 := 32) dX2_unit_29 (by decide) rfl (fun hc5 => ?_) (fun hc5 => ?_)
  · have h := ifT hc5 h
    refine V_aload_n (q := 49) dX2_unit_48 rfl rfl rfl ?_
    refine V_getC (q := 52) fl_X2_9 rfl rfl rfl dX2_unit_49 rfl ?_
    obtain ⟨v6, μ7, hc8, h⟩ := bd_i h
    refine V_cV0 (q := 55) (kX4_pass (d - 1) (by omega) hc8) (by omega) mv_X2_108 rfl rfl rfl rfl rfl rfl dX2_unit_52 rfl ?_
    refine V_iload_n (q := 56) dX2_unit_55 rfl rfl rfl ?_
    refine V_bipush (q := 58) dX2_unit_56 rfl rfl rfl ?_
    refine V_icmpne (q := 71) (q2 := 61) dX2_unit_58 (by decide) rfl (fun hc9 => ?_) (fun hc9 => ?_)
    · have h := ifF hc9 h
      refine V_aload_n (q := 72) dX2_unit_71 rfl rfl rfl ?_
      refine V_iload_n (q := 73) dX2_unit_72 rfl rfl rfl ?_
      refine V_iconst (q := 74) dX2_unit_73 rfl rfl ?_
      refine V_iadd (q := 75) dX2_unit_74 rfl ?_
      obtain ⟨v10, μ11, hc12, h⟩ := bd_i h
      refine V_cV1 (q := 78) (v := vI v10) (kX2_enclosed (d - 1) (by omega) hrec (by omega) hc12) (by omega) mv_X2_114 rfl rfl rfl rfl rfl rfl dX2_unit_75 rfl ?_
      obtain ⟨hz13, h⟩ := rZ_i h
      exact V_zret rfl hz13 h dX2_unit_78
    · have h := ifT hc9 h
      refine V_aload_n (q := 62) dX2_unit_61 rfl rfl rfl ?_
      refine V_iload_n (q := 63) dX2_unit_62 rfl rfl rfl ?_
      refine V_iconst (q := 64) dX2_unit_63 rfl rfl ?_
      refine V_iadd (q := 65) dX2_unit_64 rfl ?_
      obtain ⟨v14, μ15, hc16, h⟩ := bd_i h
      refine V_cV1 (q := 68) (v := vI v14) (kX2_denied (d - 1) (by omega) hrec (by omega) hc16) (by omega) mv_X2_111 rfl rfl rfl rfl rfl rfl dX2_unit_65 rfl ?_
      refine V_goto (q := 78) dX2_unit_68 (by decide) ?_
      obtain ⟨hz17, h⟩ := rZ_i h
      exact V_zret rfl hz17 h dX2_unit_78
  · have h := ifF hc5 h
    refine V_aload_n (q := 33) dX2_unit_32 rfl rfl rfl ?_
    refine V_getC (q := 36) fl_X2_9 rfl rfl rfl dX2_unit_33 rfl ?_
    refine V_aload_n (q := 37) dX2_unit_36 rfl rfl rfl ?_
    refine V_getC (q := 40) fl_X2_9 rfl rfl rfl dX2_unit_37 rfl ?_
    refine V_getI (q := 43) fl_X2_90 rfl rfl rfl dX2_unit_40 rfl ?_
    obtain ⟨v18, μ19, hc20, h⟩ := bd_i h
    refine V_cV0 (q := 46) (kX4_refuseAt (d - 1) (by omega) hc20) (by omega) mv_X2_105 rfl rfl rfl rfl rfl rfl dX2_unit_43 rfl ?_
    refine V_iconst (q := 47) dX2_unit_46 rfl rfl ?_
    exact V_zret rfl (Or.inl rfl) h dX2_unit_47
set_option maxHeartbeats 4000000 in
set_option maxRecDepth 100000 in
theorem kX2_unit : ∀ (n d : Nat) (hd : 10 * n + 145 ≤ d) {l1 : Int} {μ : Mm} {r : Int} {μ' : Mm} (h : X2_unit n l1 μ = some (r, μ')), CC d mX2_unit [vR 4, vI l1] μ r μ' := by
  intro n
  induction n with
  | zero => intro d hd l1   μ r μ' h; rw [X2_unit] at h; cases h
  | succ n ih =>
    intro d hd l1   μ r μ' h
    have hb : 136 ≤ d := by omega
    obtain ⟨d0, hd0⟩ : ∃ z, z = 10 * n + 145 := ⟨_, rfl⟩
    have hd : d0 + 10 ≤ d := by omega
    have hrec : ∀ {q1 : Int} {μ1 : Mm} {r1 : Int} {μ2 : Mm}, ((fun w0 μq => X2_unit n w0 μq)) q1 μ1 = some (r1, μ2) → CC d0 mX2_unit [vR 4, vI q1] μ1 r1 μ2 := fun h1 => ih d0 (by omega) h1
    rw [X2_unit] at h
    refine V_enter (by decide) (Nat.le_of_ble_eq_true rfl) ?_
    show VV d mX2_unit 0 [some (vR 4), some (vI l1), none] [] μ r μ'
    refine V_aload_n (q := 1) dX2_unit_0 rfl rfl rfl ?_
    refine V_getC (q := 4) fl_X2_9 rfl rfl rfl dX2_unit_1 rfl ?_
    obtain ⟨v1, μ2, hc3, h⟩ := bd_i h
    refine V_cV1 (q := 7) (v := vI v1) (kX4_peek (d - 1) (by omega) hc3) (by omega) mv_X2_87 rfl rfl rfl rfl rfl rfl dX2_unit_4 rfl ?_
    refine V_istore_n (q := 8) dX2_unit_7 rfl (Nat.le_of_ble_eq_true rfl) trivial rfl ?_
    refine V_iload_n (q := 9) dX2_unit_8 rfl rfl rfl ?_
    refine V_bipush (q := 11) dX2_unit_9 rfl rfl rfl ?_
    refine V_icmpeq (q := 26) (q2 := 14) dX2_unit_11 (by decide) rfl (fun hc4 => ?_) (fun hc4 => ?_)
    · have h := ifT hc4 h
      exact V_weak (kX2_unit_J26 d (by omega) hb hrec h) (sb_s rfl (sb_s rfl (sb_s rfl sb_0)))
    · have h := ifF hc4 h
      refine V_iload_n (q := 15) dX2_unit_14 rfl rfl rfl ?_
      refine V_bipush (q := 17) dX2_unit_15 rfl rfl rfl ?_
      refine V_icmpeq (q := 26) (q2 := 20) dX2_unit_17 (by decide) rfl (fun hc21 => ?_) (fun hc21 => ?_)
      · have h := ifT hc21 h
        exact V_weak (kX2_unit_J26 d (by omega) hb hrec h) (sb_s rfl (sb_s rfl (sb_s rfl sb_0)))
      · have h := ifF hc21 h
        refine V_aload_n (q := 21) dX2_unit_20 rfl rfl rfl ?_
        refine V_iload_n (q := 22) dX2_unit_21 rfl rfl rfl ?_
        obtain ⟨v22, μ23, hc24, h⟩ := bd_i h
        refine V_cV1 (q := 25) (v := vI v22) (kX2_comparison (d - 1) (by omega) hc24) (by omega) mv_X2_102 rfl rfl rfl rfl rfl rfl dX2_unit_22 rfl ?_
        obtain ⟨hz25, h⟩ := rZ_i h
        exact V_zret rfl hz25 h dX2_unit_25
theorem kX2_truth_c (d : Nat) (hd : 267 ≤ d) {l1 : Int} {μ : Mm} {r : Int} {μ' : Mm} (h : X2_truth_o (X2_unit RD) l1 μ = some (r, μ')) : CC d mX2_truth [vR 4, vI l1] μ r μ' := kX2_truth (d0 := 10 * RD + 145) d (by unfold RD; omega) (fun h1 => kX2_unit RD _ (Nat.le_refl _) h1) (by omega) h
theorem kX2_condition_c (d : Nat) (hd : 268 ≤ d) {l1 : Int} {μ : Mm} {r : Int} {μ' : Mm} (h : X2_condition_o (X2_unit RD) l1 μ = some (r, μ')) : CC d mX2_condition [vR 4, vI l1] μ r μ' := kX2_condition (d0 := 10 * RD + 145) d (by unfold RD; omega) (fun h1 => kX2_unit RD _ (Nat.le_refl _) h1) (by omega) h
theorem kX2_enclosed_c (d : Nat) (hd : 269 ≤ d) {l1 : Int} {μ : Mm} {r : Int} {μ' : Mm} (h : X2_enclosed_o (X2_unit RD) l1 μ = some (r, μ')) : CC d mX2_enclosed [vR 4, vI l1] μ r μ' := kX2_enclosed (d0 := 10 * RD + 145) d (by unfold RD; omega) (fun h1 => kX2_unit RD _ (Nat.le_refl _) h1) (by omega) h
theorem kX2_denied_c (d : Nat) (hd : 267 ≤ d) {l1 : Int} {μ : Mm} {r : Int} {μ' : Mm} (h : X2_denied_o (X2_unit RD) l1 μ = some (r, μ')) : CC d mX2_denied [vR 4, vI l1] μ r μ' := kX2_denied (d0 := 10 * RD + 145) d (by unfold RD; omega) (fun h1 => kX2_unit RD _ (Nat.le_refl _) h1) (by omega) h
abbrev mX2_worth : Mth := (yX2_worth, cX2_worth, 6, some .int)
theorem mi_X2_worth : Cond.instanceMethod yX2_worth ∈ tG ∧ Cond.selects yX2_worth.cls yX2_worth yX2_worth ∈ tG ∧ Cond.initialized yX2_worth.cls ∈ tG ∧ Cond.code yX2_worth cX2_worth 6 (some .int) ∈ tG ∧ (yX2_worth.cls ≠ "java/lang/invoke/MethodHandle" ∧ yX2_worth.cls ≠ "java/lang/invoke/VarHandle" ∧ (parseMethodDescriptor yX2_worth.desc).map (fun d => d.parameters.length) = some 0) ∧ 6 ≤ 60 := ⟨(tG_of (List.mem_of_getElem? (i := 583) (by decide +kernel)) (by decide +kernel)), (tG_of (List.mem_of_getElem? (i := 4) (by decide +kernel)) (by decide +kernel)), (tG_of (List.mem_of_getElem? (i := 104) (by decide +kernel)) (by decide +kernel)), (tG_of (List.mem_of_getElem? (i := 584) (by decide +kernel)) (by decide +kernel)), ⟨by decide, by decide, by decide +kernel⟩, by decide⟩
theorem mv_X2_15 : mV RX2 15 mX2_worth 0 := ⟨(tG_of (List.mem_of_getElem? (i := 581) (by decide +kernel)) (by decide +kernel)), mi_X2_worth⟩
theorem dX2_worth_0 : decode cX2_worth 0 = .ok (.iconst 0, 1) := by decide +kernel
theorem dX2_worth_1 : decode cX2_worth 1 = .ok (.istore_n 1, 1) := by decide +kernel
theorem dX2_worth_2 : decode cX2_worth 2 = .ok (.iconst 0, 1) := by decide +kernel
theorem dX2_worth_3 : decode cX2_worth 3 = .ok (.istore_n 2, 1) := by decide +kernel
theorem dX2_worth_4 : decode cX2_worth 4 = .ok (.iconst 0, 1) := by decide +kernel
theorem dX2_worth_5 : decode cX2_worth 5 = .ok (.istore_n 3, 1) := by decide +kernel
theorem dX2_worth_6 : decode cX2_worth 6 = .ok (.iload_n 3, 1) := by decide +kernel
theorem dX2_worth_7 : decode cX2_worth 7 = .ok (.sipush 160, 3) := by decide +kernel
theorem dX2_worth_10 : decode cX2_worth 10 = .ok (.if_icmp .ge 89, 3) := by decide +kernel
theorem dX2_worth_13 : decode cX2_worth 13 = .ok (.aload_n 0, 1) := by decide +kernel
theorem dX2_worth_14 : decode cX2_worth 14 = .ok (.getfield 9, 3) := by decide +kernel
theorem dX2_worth_17 : decode cX2_worth 17 = .ok (.bipush 121, 2) := by decide +kernel
theorem dX2_worth_19 : decode cX2_worth 19 = .ok (.invokevirtual 65, 3) := by decide +kernel
theorem dX2_worth_22 : decode cX2_worth 22 = .ok (.aload_n 0, 1) := by decide +kernel
theorem dX2_worth_23 : decode cX2_worth 23 = .ok (.getfield 9, 3) := by decide +kernel
theorem dX2_worth_26 : decode cX2_worth 26 = .ok (.bipush 58, 2) := by decide +kernel
theorem dX2_worth_28 : decode cX2_worth 28 = .ok (.invokevirtual 65, 3) := by decide +kernel
theorem dX2_worth_31 : decode cX2_worth 31 = .ok (.iconst 1, 1) := by decide +kernel
theorem dX2_worth_32 : decode cX2_worth 32 = .ok (.istore 4, 2) := by decide +kernel
theorem dX2_worth_34 : decode cX2_worth 34 = .ok (.aload_n 0, 1) := by decide +kernel
theorem dX2_worth_35 : decode cX2_worth 35 = .ok (.invokevirtual 69, 3) := by decide +kernel
theorem dX2_worth_38 : decode cX2_worth 38 = .ok (.ifCond .eq 19, 3) := by decide +kernel
theorem dX2_worth_41 : decode cX2_worth 41 = .ok (.aload_n 0, 1) := by decide +kernel
theorem dX2_worth_42 : decode cX2_worth 42 = .ok (.iconst 0, 1) := by decide +kernel
theorem dX2_worth_43 : decode cX2_worth 43 = .ok (.invokevirtual 73, 3) := by decide +kernel
theorem dX2_worth_46 : decode cX2_worth 46 = .ok (.istore 4, 2) := by decide +kernel
theorem dX2_worth_48 : decode cX2_worth 48 = .ok (.aload_n 0, 1) := by decide +kernel
theorem dX2_worth_49 : decode cX2_worth 49 = .ok (.getfield 9, 3) := by decide +kernel
theorem dX2_worth_52 : decode cX2_worth 52 = .ok (.bipush 63, 2) := by decide +kernel
theorem dX2_worth_54 : decode cX2_worth 54 = .ok (.invokevirtual 65, 3) := by decide +kernel
theorem dX2_worth_57 : decode cX2_worth 57 = .ok (.aload_n 0, 1) := by decide +kernel
theorem dX2_worth_58 : decode cX2_worth 58 = .ok (.iconst 0, 1) := by decide +kernel
theorem dX2_worth_59 : decode cX2_worth 59 = .ok (.invokevirtual 77, 3) := by decide +kernel
theorem dX2_worth_62 : decode cX2_worth 62 = .ok (.istore 5, 2) := by decide +kernel
theorem dX2_worth_64 : decode cX2_worth 64 = .ok (.iload 4, 2) := by decide +kernel
theorem dX2_worth_66 : decode cX2_worth 66 = .ok (.ifCond .eq 12, 3) := by decide +kernel
theorem dX2_worth_69 : decode cX2_worth 69 = .ok (.iload_n 2, 1) := by decide +kernel
theorem dX2_worth_70 : decode cX2_worth 70 = .ok (.ifCond .ne 8, 3) := by decide +kernel
theorem dX2_worth_73 : decode cX2_worth 73 = .ok (.iconst 1, 1) := by decide +kernel
theorem dX2_worth_74 : decode cX2_worth 74 = .ok (.istore_n 2, 1) := by decide +kernel
theorem dX2_worth_75 : decode cX2_worth 75 = .ok (.iload 5, 2) := by decide +kernel
theorem dX2_worth_77 : decode cX2_worth 77 = .ok (.istore_n 1, 1) := by decide +kernel
theorem dX2_worth_78 : decode cX2_worth 78 = .ok (.aload_n 0, 1) := by decide +kernel
theorem dX2_worth_79 : decode cX2_worth 79 = .ok (.getfield 9, 3) := by decide +kernel
theorem dX2_worth_82 : decode cX2_worth 82 = .ok (.bipush 59, 2) := by decide +kernel
theorem dX2_worth_84 : decode cX2_worth 84 = .ok (.invokevirtual 81, 3) := by decide +kernel
theorem dX2_worth_87 : decode cX2_worth 87 = .ok (.ifCond .ne 6, 3) := by decide +kernel
theorem dX2_worth_90 : decode cX2_worth 90 = .ok (.goto 9, 3) := by decide +kernel
theorem dX2_worth_93 : decode cX2_worth 93 = .ok (.iinc 3 1, 3) := by decide +kernel
theorem dX2_worth_96 : decode cX2_worth 96 = .ok (.goto (-90), 3) := by decide +kernel
theorem dX2_worth_99 : decode cX2_worth 99 = .ok (.aload_n 0, 1) := by decide +kernel
theorem dX2_worth_100 : decode cX2_worth 100 = .ok (.getfield 9, 3) := by decide +kernel
theorem dX2_worth_103 : decode cX2_worth 103 = .ok (.invokevirtual 84, 3) := by decide +kernel
theorem dX2_worth_106 : decode cX2_worth 106 = .ok (.iload_n 1, 1) := by decide +kernel
theorem dX2_worth_107 : decode cX2_worth 107 = .ok (.ireturn, 1) := by decide +kernel
def X2_worth_J57 (k6 : Int → Int → Int → Mm → Rs) (k90 : Int → Mm → Rs) (l1 : Int) (l2 : Int) (l3 : Int) (l4 : Int) (μ : Mm) : Rs := bd (X2_sum RD 0 μ) fun v12 μ13 => if l4 = 0 then (bd (X4_take 59 μ13) fun v16 μ17 => if v16 = 0 then (k90 l1 μ17) else (k6 l1 l2 (iA l3 1) μ17)) else (if l2 = 0 then (bd (X4_take 59 μ13) fun v25 μ26 => if v25 = 0 then (k90 v12 μ26) else (k6 v12 1 (iA l3 1) μ26)) else (bd (X4_take 59 μ13) fun v21 μ22 => if v21 = 0 then (k90 l1 μ22) else (k6 l1 l2 (iA l3 1) μ22)))
def X2_worth_L6 (k99 : Int → Mm → Rs) (k90 : Int → Mm → Rs) : Nat → Int → Int → Int → Mm → Rs
  | 0, _, _, _, _ => none
  | n + 1, l1, l2, l3, μ => if 160 ≤ l3 then (k99 l1 μ) else (bd (X4_need 121 μ) fun v2 μ3 => bd (X4_need 58 μ3) fun v5 μ6 => bd (X2_startsCondition μ6) fun v8 μ9 => if v8 = 0 then (X2_worth_J57 (fun w1 w2 w3 μq => X2_worth_L6 k99 k90 n w1 w2 w3 μq) (fun w1 μq => k90 w1 μq) l1 l2 l3 1 μ9) else (bd (X2_condition_o (X2_unit RD) 0 μ9) fun v29 μ30 => bd (X4_need 63 μ30) fun v32 μ33 => X2_worth_J57 (fun w1 w2 w3 μq => X2_worth_L6 k99 k90 n w1 w2 w3 μq) (fun w1 μq => k90 w1 μq) l1 l2 l3 v29 μ33))
def X2_worth (μ : Mm) : Rs := X2_worth_L6 (fun v35 μ36 => bd (X4_needEnd μ36) fun v37 μ38 => some (v35, μ38)) (fun v40 μ41 => bd (X4_needEnd μ41) fun v42 μ43 => some (v40, μ43)) FU 0 0 0 μ
set_option maxHeartbeats 4000000 in
set_option maxRecDepth 100000 in
theorem kX2_worth_J57 (d : Nat) (hd : 269 ≤ d) {k6 : Int → Int → Int → Mm → Rs} {k90 : Int → Mm → Rs} {l1 : Int} {l2 : Int} {l3 : Int} {l4 : Int} {μ : Mm} {r : Int} {μ' : Mm} (hk_6 : ∀ (v1 v2 v3 : Int) (μ1 : Mm), k6 v1 v2 v3 μ1 = some (r, μ') → VV d mX2_worth 6 [some (vR 4), some (vI v1), some (vI v2), some (vI v3), none, none] [] μ1 r μ') (hk_90 : ∀ (v1 : Int) (μ1 : Mm), k90 v1 μ1 = some (r, μ') → VV d mX2_worth 90 [some (vR 4), some (vI v1), none, none, none, none] [] μ1 r μ') (h : X2_worth_J57 k6 k90 l1 l2 l3 l4 μ = some (r, μ')) : VV d mX2_worth 57 [some (vR 4), some (vI l1), some (vI l2), some (vI l3), some (vI l4), none] [] μ r μ' := by
  unfold X2_worth_J57 at h
  refine V_aload_n (q := 58) dX2_worth_57 rfl rfl rfl ?_
  refine V_iconst (q := 59) dX2_worth_58 rfl rfl ?_
  obtain ⟨v12, μ13, hc14, h⟩ := bd_i h
  refine V_cV1 (q := 62) (v := vI v12) (kX2_sum RD (d - 1) (by unfold RD; omega) hc14) (by omega) mv_X2_77 rfl rfl rfl rfl rfl rfl dX2_worth_59 rfl ?_
  refine V_istore (q := 64) dX2_worth_62 (Nat.le_of_ble_eq_true rfl) trivial rfl ?_
  refine V_iload (q := 66) dX2_worth_64 rfl rfl ?_
  refine V_ifeq (q := 78) (q2 := 69) dX2_worth_66 (by decide) rfl (fun hc15 => ?_) (fun hc15 => ?_)
  · have h := ifT hc15 h
    refine V_aload_n (q := 79) dX2_worth_78 rfl rfl rfl ?_
    refine V_getC (q := 82) fl_X2_9 rfl rfl rfl dX2_worth_79 rfl ?_
    refine V_bipush (q := 84) dX2_worth_82 rfl rfl rfl ?_
    obtain ⟨v16, μ17, hc18, h⟩ := bd_i h
    refine V_cV1 (q := 87) (v := vI v16) (kX4_take (d - 1) (by omega) hc18) (by omega) mv_X2_81 rfl rfl rfl rfl rfl rfl dX2_worth_84 rfl ?_
    refine V_ifne (q := 93) (q2 := 90) dX2_worth_87 (by decide) rfl (fun hc19 => ?_) (fun hc19 => ?_)
    · have h := ifF hc19 h
      refine V_iinc (q := 96) dX2_worth_93 rfl (Nat.le_of_ble_eq_true rfl) trivial rfl ?_
      refine V_goto (q := 6) dX2_worth_96 (by decide) ?_
      exact V_weak (hk_6 _ _ _ _ h) (sb_s rfl (sb_s rfl (sb_s rfl (sb_s rfl (sb_n (sb_n sb_0))))))
    · have h := ifT hc19 h
      exact V_weak (hk_90 _ _ h) (sb_s rfl (sb_s rfl (sb_n (sb_n (sb_n (sb_n sb_0))))))
  · have h := ifF hc15 h
    refine V_iload_n (q := 70) dX2_worth_69 rfl rfl rfl ?_
    refine V_ifne (q := 78) (q2 := 73) dX2_worth_70 (by decide) rfl (fun hc20 => ?_) (fun hc20 => ?_)
    · have h := ifF hc20 h
      refine V_aload_n (q := 79) dX2_worth_78 rfl rfl rfl ?_
      refine V_getC (q := 82) fl_X2_9 rfl rfl rfl dX2_worth_79 rfl ?_
      refine V_bipush (q := 84) dX2_worth_82 rfl rfl rfl ?_
      obtain ⟨v21, μ22, hc23, h⟩ := bd_i h
      refine V_cV1 (q := 87) (v := vI v21) (kX4_take (d - 1) (by omega) hc23) (by omega) mv_X2_81 rfl rfl rfl rfl rfl rfl dX2_worth_84 rfl ?_
      refine V_ifne (q := 93) (q2 := 90) dX2_worth_87 (by decide) rfl (fun hc24 => ?_) (fun hc24 => ?_)
      · have h := ifF hc24 h
        refine V_iinc (q := 96) dX2_worth_93 rfl (Nat.le_of_ble_eq_true rfl) trivial rfl ?_
        refine V_goto (q := 6) dX2_worth_96 (by decide) ?_
        exact V_weak (hk_6 _ _ _ _ h) (sb_s rfl (sb_s rfl (sb_s rfl (sb_s rfl (sb_n (sb_n sb_0))))))
      · have h := ifT hc24 h
        exact V_weak (hk_90 _ _ h) (sb_s rfl (sb_s rfl (sb_n (sb_n (sb_n (sb_n sb_0))))))
    · have h := ifT hc20 h
      refine V_iconst (q := 74) dX2_worth_73 rfl rfl ?_
      refine V_istore_n (q := 75) dX2_worth_74 rfl (Nat.le_of_ble_eq_true rfl) trivial rfl ?_
      refine V_iload (q := 77) dX2_worth_75 rfl rfl ?_
      refine V_istore_n (q := 78) dX2_worth_77 rfl (Nat.le_of_ble_eq_true rfl) trivial rfl ?_
      refine V_aload_n (q := 79) dX2_worth_78 rfl rfl rfl ?_
      refine V_getC (q := 82) fl_X2_9 rfl rfl rfl dX2_worth_79 rfl ?_
      refine V_bipush (q := 84) dX2_worth_82 rfl rfl rfl ?_
      obtain ⟨v25, μ26, hc27, h⟩ := bd_i h
      refine V_cV1 (q := 87) (v := vI v25) (kX4_take (d - 1) (by omega) hc27) (by omega) mv_X2_81 rfl rfl rfl rfl rfl rfl dX2_worth_84 rfl ?_
      refine V_ifne (q := 93) (q2 := 90) dX2_worth_87 (by decide) rfl (fun hc28 => ?_) (fun hc28 => ?_)
      · have h := ifF hc28 h
        refine V_iinc (q := 96) dX2_worth_93 rfl (Nat.le_of_ble_eq_true rfl) trivial rfl ?_
        refine V_goto (q := 6) dX2_worth_96 (by decide) ?_
        exact V_weak (hk_6 _ _ _ _ h) (sb_s rfl (sb_s rfl (sb_s rfl (sb_s rfl (sb_n (sb_n sb_0))))))
      · have h := ifT hc28 h
        exact V_weak (hk_90 _ _ h) (sb_s rfl (sb_s rfl (sb_n (sb_n (sb_n (sb_n sb_0))))))
set_option maxHeartbeats 4000000 in
set_option maxRecDepth 100000 in
theorem kX2_worth_L6 (d : Nat) (hd : 269 ≤ d) {k99 : Int → Mm → Rs} {k90 : Int → Mm → Rs} {r : Int} {μ' : Mm} (hk_99 : ∀ (v1 : Int) (μ1 : Mm), k99 v1 μ1 = some (r, μ') → VV d mX2_worth 99 [some (vR 4), some (vI v1), none, none, none, none] [] μ1 r μ') (hk_90 : ∀ (v1 : Int) (μ1 : Mm), k90 v1 μ1 = some (r, μ') → VV d mX2_worth 90 [some (vR 4), some (vI v1), none, none, none, none] [] μ1 r μ') : ∀ (n : Nat) {l1 l2 l3 : Int} {μ : Mm}, X2_worth_L6 k99 k90 n l1 l2 l3 μ = some (r, μ') → VV d mX2_worth 6 [some (vR 4), some (vI l1), some (vI l2), some (vI l3), none, none] [] μ r μ' := by
  intro n
  induction n with
  | zero => intro l1 l2 l3 μ h; rw [X2_worth_L6] at h; cases h
  | succ n ih =>
    intro l1 l2 l3 μ h
    rw [X2_worth_L6] at h
    refine V_iload_n (q := 7) dX2_worth_6 rfl rfl rfl ?_
    refine V_sipush (q := 10) dX2_worth_7 rfl rfl rfl ?_
    refine V_icmpge (q := 99) (q2 := 13) dX2_worth_10 (by decide) rfl (fun hc1 => ?_) (fun hc1 => ?_)
    · have h := ifT hc1 h
      exact V_weak (hk_99 _ _ h) (sb_s rfl (sb_s rfl (sb_n (sb_n (sb_n (sb_n sb_0))))))
    · have h := ifF hc1 h
      refine V_aload_n (q := 14) dX2_worth_13 rfl rfl rfl ?_
      refine V_getC (q := 17) fl_X2_9 rfl rfl rfl dX2_worth_14 rfl ?_
      refine V_bipush (q := 19) dX2_worth_17 rfl rfl rfl ?_
      obtain ⟨v2, μ3, hc4, h⟩ := bd_i h
      refine V_cV0 (q := 22) (kX4_need (d - 1) (by omega) hc4) (by omega) mv_X2_65 rfl rfl rfl rfl rfl rfl dX2_worth_19 rfl ?_
      refine V_aload_n (q := 23) dX2_worth_22 rfl rfl rfl ?_
      refine V_getC (q := 26) fl_X2_9 rfl rfl rfl dX2_worth_23 rfl ?_
      refine V_bipush (q := 28) dX2_worth_26 rfl rfl rfl ?_
      obtain ⟨v5, μ6, hc7, h⟩ := bd_i h
      refine V_cV0 (q := 31) (kX4_need (d - 1) (by omega) hc7) (by omega) mv_X2_65 rfl rfl rfl rfl rfl rfl dX2_worth_28 rfl ?_
      refine V_iconst (q := 32) dX2_worth_31 rfl rfl ?_
      refine V_istore (q := 34) dX2_worth_32 (Nat.le_of_ble_eq_true rfl) trivial rfl ?_
      refine V_aload_n (q := 35) dX2_worth_34 rfl rfl rfl ?_
      obtain ⟨v8, μ9, hc10, h⟩ := bd_i h
      refine V_cV1 (q := 38) (v := vI v8) (kX2_startsCondition (d - 1) (by omega) hc10) (by omega) mv_X2_69 rfl rfl rfl rfl rfl rfl dX2_worth_35 rfl ?_
      refine V_ifeq (q := 57) (q2 := 41) dX2_worth_38 (by decide) rfl (fun hc11 => ?_) (fun hc11 => ?_)
      · have h := ifT hc11 h
        exact V_weak (kX2_worth_J57 d hd (fun _ _ _ _ h => ih h) (fun _ _ h => hk_90 _ _ h) h) (sb_s rfl (sb_s rfl (sb_s rfl (sb_s rfl (sb_s rfl (sb_n sb_0))))))
      · have h := ifF hc11 h
        refine V_aload_n (q := 42) dX2_worth_41 rfl rfl rfl ?_
        refine V_iconst (q := 43) dX2_worth_42 rfl rfl ?_
        obtain ⟨v29, μ30, hc31, h⟩ := bd_i h
        refine V_cV1 (q := 46) (v := vI v29) (kX2_condition_c (d - 1) (by omega) hc31) (by omega) mv_X2_73 rfl rfl rfl rfl rfl rfl dX2_worth_43 rfl ?_
        refine V_istore (q := 48) dX2_worth_46 (Nat.le_of_ble_eq_true rfl) trivial rfl ?_
        refine V_aload_n (q := 49) dX2_worth_48 rfl rfl rfl ?_
        refine V_getC (q := 52) fl_X2_9 rfl rfl rfl dX2_worth_49 rfl ?_
        refine V_bipush (q := 54) dX2_worth_52 rfl rfl rfl ?_
        obtain ⟨v32, μ33, hc34, h⟩ := bd_i h
        refine V_cV0 (q := 57) (kX4_need (d - 1) (by omega) hc34) (by omega) mv_X2_65 rfl rfl rfl rfl rfl rfl dX2_worth_54 rfl ?_
        exact V_weak (kX2_worth_J57 d hd (fun _ _ _ _ h => ih h) (fun _ _ h => hk_90 _ _ h) h) (sb_s rfl (sb_s rfl (sb_s rfl (sb_s rfl (sb_s rfl (sb_n sb_0))))))
set_option maxHeartbeats 4000000 in
set_option maxRecDepth 100000 in
theorem kX2_worth (d : Nat) (hd : 269 ≤ d) {μ : Mm} {r : Int} {μ' : Mm} (h : X2_worth μ = some (r, μ')) : CC d mX2_worth [vR 4] μ r μ' := by
  unfold X2_worth at h
  refine V_enter (by decide) (Nat.le_of_ble_eq_true rfl) ?_
  show VV d mX2_worth 0 [some (vR 4), none, none, none, none, none] [] μ r μ'
  refine V_iconst (q := 1) dX2_worth_0 rfl rfl ?_
  refine V_istore_n (q := 2) dX2_worth_1 rfl (Nat.le_of_ble_eq_true rfl) trivial rfl ?_
  refine V_iconst (q := 3) dX2_worth_2 rfl rfl ?_
  refine V_istore_n (q := 4) dX2_worth_3 rfl (Nat.le_of_ble_eq_true rfl) trivial rfl ?_
  refine V_iconst (q := 5) dX2_worth_4 rfl rfl ?_
  refine V_istore_n (q := 6) dX2_worth_5 rfl (Nat.le_of_ble_eq_true rfl) trivial rfl ?_
  refine V_weak (kX2_worth_L6 d hd (fun v35 μ36 h => ?_) (fun v40 μ41 h => ?_) FU h) (sb_s rfl (sb_s rfl (sb_s rfl (sb_s rfl (sb_n (sb_n sb_0))))))
  · refine V_aload_n (q := 100) dX2_worth_99 rfl rfl rfl ?_
    refine V_getC (q := 103) fl_X2_9 rfl rfl rfl dX2_worth_100 rfl ?_
    obtain ⟨v37, μ38, hc39, h⟩ := bd_i h
    refine V_cV0 (q := 106) (kX4_needEnd (d - 1) (by omega) hc39) (by omega) mv_X2_84 rfl rfl rfl rfl rfl rfl dX2_worth_103 rfl ?_
    refine V_iload_n (q := 107) dX2_worth_106 rfl rfl rfl ?_
    exact V_iret rfl h dX2_worth_107
  · refine V_goto (q := 99) dX2_worth_90 (by decide) ?_
    refine V_aload_n (q := 100) dX2_worth_99 rfl rfl rfl ?_
    refine V_getC (q := 103) fl_X2_9 rfl rfl rfl dX2_worth_100 rfl ?_
    obtain ⟨v42, μ43, hc44, h⟩ := bd_i h
    refine V_cV0 (q := 106) (kX4_needEnd (d - 1) (by omega) hc44) (by omega) mv_X2_84 rfl rfl rfl rfl rfl rfl dX2_worth_103 rfl ?_
    refine V_iload_n (q := 107) dX2_worth_106 rfl rfl rfl ?_
    exact V_iret rfl h dX2_worth_107
abbrev mX2_check : Mth := (yX2_check, cX2_check, 1, some .int)
theorem mi_X2_check : Cond.instanceMethod yX2_check ∈ tG ∧ Cond.selects yX2_check.cls yX2_check yX2_check ∈ tG ∧ Cond.initialized yX2_check.cls ∈ tG ∧ Cond.code yX2_check cX2_check 1 (some .int) ∈ tG ∧ (yX2_check.cls ≠ "java/lang/invoke/MethodHandle" ∧ yX2_check.cls ≠ "java/lang/invoke/VarHandle" ∧ (parseMethodDescriptor yX2_check.desc).map (fun d => d.parameters.length) = some 0) ∧ 1 ≤ 60 := ⟨(tG_of (List.mem_of_getElem? (i := 578) (by decide +kernel)) (by decide +kernel)), (tG_of (List.mem_of_getElem? (i := 579) (by decide +kernel)) (by decide +kernel)), (tG_of (List.mem_of_getElem? (i := 104) (by decide +kernel)) (by decide +kernel)), (tG_of (List.mem_of_getElem? (i := 580) (by decide +kernel)) (by decide +kernel)), ⟨by decide, by decide, by decide +kernel⟩, by decide⟩
theorem mv_X10_147 : mV RX10 147 mX2_check 0 := ⟨(tG_of (List.mem_of_getElem? (i := 577) (by decide +kernel)) (by decide +kernel)), mi_X2_check⟩
theorem dX2_check_0 : decode cX2_check 0 = .ok (.aload_n 0, 1) := by decide +kernel
theorem dX2_check_1 : decode cX2_check 1 = .ok (.invokevirtual 15, 3) := by decide +kernel
theorem dX2_check_4 : decode cX2_check 4 = .ok (.pop, 1) := by decide +kernel
theorem dX2_check_5 : decode cX2_check 5 = .ok (.aload_n 0, 1) := by decide +kernel
theorem dX2_check_6 : decode cX2_check 6 = .ok (.getfield 9, 3) := by decide +kernel
theorem dX2_check_9 : decode cX2_check 9 = .ok (.getfield 19, 3) := by decide +kernel
theorem dX2_check_12 : decode cX2_check 12 = .ok (.ireturn, 1) := by decide +kernel
def X2_check (μ : Mm) : Rs := bd (X2_worth μ) fun v1 μ2 => some (μ2 3 2, μ2)
set_option maxHeartbeats 4000000 in
set_option maxRecDepth 100000 in
theorem kX2_check (d : Nat) (hd : 270 ≤ d) {μ : Mm} {r : Int} {μ' : Mm} (h : X2_check μ = some (r, μ')) : CC d mX2_check [vR 4] μ r μ' := by
  unfold X2_check at h
  refine V_enter (by decide) (Nat.le_of_ble_eq_true rfl) ?_
  show VV d mX2_check 0 [some (vR 4)] [] μ r μ'
  refine V_aload_n (q := 1) dX2_check_0 rfl rfl rfl ?_
  obtain ⟨v1, μ2, hc3, h⟩ := bd_i h
  refine V_cV1 (q := 4) (v := vI v1) (kX2_worth (d - 1) (by omega) hc3) (by omega) mv_X2_15 rfl rfl rfl rfl rfl rfl dX2_check_1 rfl ?_
  refine V_pop (q := 5) dX2_check_4 trivial rfl ?_
  refine V_aload_n (q := 6) dX2_check_5 rfl rfl rfl ?_
  refine V_getC (q := 9) fl_X2_9 rfl rfl rfl dX2_check_6 rfl ?_
  refine V_getI (q := 12) fl_X2_19 rfl rfl rfl dX2_check_9 rfl ?_
  exact V_iret rfl h dX2_check_12
abbrev mX4_open : Mth := (yX4_open, cX4_open, 2, none)
theorem mi_X4_open : Cond.instanceMethod yX4_open ∈ tG ∧ Cond.selects yX4_open.cls yX4_open yX4_open ∈ tG ∧ Cond.initialized yX4_open.cls ∈ tG ∧ Cond.code yX4_open cX4_open 2 (none) ∈ tG ∧ (yX4_open.cls ≠ "java/lang/invoke/MethodHandle" ∧ yX4_open.cls ≠ "java/lang/invoke/VarHandle" ∧ (parseMethodDescriptor yX4_open.desc).map (fun d => d.parameters.length) = some 1) ∧ 2 ≤ 60 := ⟨(tG_of (List.mem_of_getElem? (i := 513) (by decide +kernel)) (by decide +kernel)), (tG_of (List.mem_of_getElem? (i := 514) (by decide +kernel)) (by decide +kernel)), (tG_of (List.mem_of_getElem? (i := 103) (by decide +kernel)) (by decide +kernel)), (tG_of (List.mem_of_getElem? (i := 515) (by decide +kernel)) (by decide +kernel)), ⟨by decide, by decide, by decide +kernel⟩, by decide⟩
theorem mv_X10_139 : mV RX10 139 mX4_open 1 := ⟨(tG_of (List.mem_of_getElem? (i := 512) (by decide +kernel)) (by decide +kernel)), mi_X4_open⟩
theorem mv_X2_52 : mV RX2 52 mX4_open 1 := ⟨(tG_of (List.mem_of_getElem? (i := 793) (by decide +kernel)) (by decide +kernel)), mi_X4_open⟩
theorem dX4_open_0 : decode cX4_open 0 = .ok (.aload_n 0, 1) := by decide +kernel
theorem dX4_open_1 : decode cX4_open 1 = .ok (.aload_n 1, 1) := by decide +kernel
theorem dX4_open_2 : decode cX4_open 2 = .ok (.putfield 9, 3) := by decide +kernel
theorem dX4_open_5 : decode cX4_open 5 = .ok (.aload_n 0, 1) := by decide +kernel
theorem dX4_open_6 : decode cX4_open 6 = .ok (.iconst 0, 1) := by decide +kernel
theorem dX4_open_7 : decode cX4_open 7 = .ok (.putfield 19, 3) := by decide +kernel
theorem dX4_open_10 : decode cX4_open 10 = .ok (.aload_n 0, 1) := by decide +kernel
theorem dX4_open_11 : decode cX4_open 11 = .ok (.iconst (-1), 1) := by decide +kernel
theorem dX4_open_12 : decode cX4_open 12 = .ok (.putfield 15, 3) := by decide +kernel
theorem dX4_open_15 : decode cX4_open 15 = .ok (.return_, 1) := by decide +kernel
def X4_open (l1 : Nat) (μ : Mm) : Rs := sF μ 3 0 ((l1 : Nat) : Int) fun μ1 => sF μ1 3 1 0 fun μ2 => sF μ2 3 2 (-1) fun μ3 => some (0, μ3)
set_option maxHeartbeats 4000000 in
set_option maxRecDepth 100000 in
theorem kX4_open (d : Nat) (hd : 1 ≤ d) {l1 : Nat} (hk1 : kD l1 = (17, 2)) {μ : Mm} {r : Int} {μ' : Mm} (h : X4_open l1 μ = some (r, μ')) : CC d mX4_open [vR 3, vR l1] μ r μ' := by
  unfold X4_open at h
  refine V_enter (by decide) (Nat.le_of_ble_eq_true rfl) ?_
  show VV d mX4_open 0 [some (vR 3), some (vR l1)] [] μ r μ'
  refine V_aload_n (q := 1) dX4_open_0 rfl rfl rfl ?_
  refine V_aload_n (q := 2) dX4_open_1 rfl rfl rfl ?_
  have h := sF_i h
  refine V_putM (q := 5) fl_X4_9 rfl rfl rfl (kD_e (hk1 : kD _ = (17, 2)) (by decide)) dX4_open_2 rfl ?_
  refine V_aload_n (q := 6) dX4_open_5 rfl rfl rfl ?_
  refine V_iconst (q := 7) dX4_open_6 rfl rfl ?_
  have h := sF_i h
  refine V_putI (q := 10) fl_X4_19 rfl rfl rfl dX4_open_7 rfl ?_
  refine V_aload_n (q := 11) dX4_open_10 rfl rfl rfl ?_
  refine V_iconst (q := 12) dX4_open_11 rfl rfl ?_
  have h := sF_i h
  refine V_putI (q := 15) fl_X4_15 rfl rfl rfl dX4_open_12 rfl ?_
  exact V_vret rfl h dX4_open_15
abbrev mJ9_min_7cf53 : Mth := (yJ9_min_7cf53, cJ9_min_7cf53, 2, some .int)
theorem mi_J9_min_7cf53 : Cond.static yJ9_min_7cf53 ∈ tG ∧ Cond.initialized yJ9_min_7cf53.cls ∈ tG ∧ Cond.code yJ9_min_7cf53 cJ9_min_7cf53 2 (some .int) ∈ tG ∧ (yJ9_min_7cf53.cls ≠ "java/lang/invoke/MethodHandle" ∧ yJ9_min_7cf53.cls ≠ "java/lang/invoke/VarHandle" ∧ (parseMethodDescriptor yJ9_min_7cf53.desc).map (fun d => d.parameters.length) = some 2) ∧ 2 ≤ 60 := ⟨(tG_of (List.mem_of_getElem? (i := 795) (by decide +kernel)) (by decide +kernel)), (tG_of (List.mem_of_getElem? (i := 113) (by decide +kernel)) (by decide +kernel)), (tG_of (List.mem_of_getElem? (i := 796) (by decide +kernel)) (by decide +kernel)), ⟨by decide, by decide, by decide +kernel⟩, by decide⟩
theorem mv_X2_56 : mS RX2 56 mJ9_min_7cf53 2 := ⟨(tG_of (List.mem_of_getElem? (i := 794) (by decide +kernel)) (by decide +kernel)), mi_J9_min_7cf53.1, (tG_of (List.mem_of_getElem? (i := 104) (by decide +kernel)) (by decide +kernel)), mi_J9_min_7cf53.2⟩
theorem mv_X6_98 : mS RX6 98 mJ9_min_7cf53 2 := ⟨(tG_of (List.mem_of_getElem? (i := 1083) (by decide +kernel)) (by decide +kernel)), mi_J9_min_7cf53.1, (tG_of (List.mem_of_getElem? (i := 110) (by decide +kernel)) (by decide +kernel)), mi_J9_min_7cf53.2⟩
theorem mv_X11_299 : mS RX11 299 mJ9_min_7cf53 2 := ⟨(tG_of (List.mem_of_getElem? (i := 1535) (by decide +kernel)) (by decide +kernel)), mi_J9_min_7cf53.1, (tG_of (List.mem_of_getElem? (i := 112) (by decide +kernel)) (by decide +kernel)), mi_J9_min_7cf53.2⟩
theorem dJ9_min_7cf53_0 : decode cJ9_min_7cf53 0 = .ok (.iload_n 0, 1) := by decide +kernel
theorem dJ9_min_7cf53_1 : decode cJ9_min_7cf53 1 = .ok (.iload_n 1, 1) := by decide +kernel
theorem dJ9_min_7cf53_2 : decode cJ9_min_7cf53 2 = .ok (.if_icmp .gt 7, 3) := by decide +kernel
theorem dJ9_min_7cf53_5 : decode cJ9_min_7cf53 5 = .ok (.iload_n 0, 1) := by decide +kernel
theorem dJ9_min_7cf53_6 : decode cJ9_min_7cf53 6 = .ok (.goto 4, 3) := by decide +kernel
theorem dJ9_min_7cf53_9 : decode cJ9_min_7cf53 9 = .ok (.iload_n 1, 1) := by decide +kernel
theorem dJ9_min_7cf53_10 : decode cJ9_min_7cf53 10 = .ok (.ireturn, 1) := by decide +kernel
def J9_min_7cf53 (l0 : Int) (l1 : Int) (μ : Mm) : Rs := if l1 < l0 then (some (l1, μ)) else (some (l0, μ))
set_option maxHeartbeats 4000000 in
set_option maxRecDepth 100000 in
theorem kJ9_min_7cf53 (d : Nat) (hd : 1 ≤ d) {l0 : Int} {l1 : Int} {μ : Mm} {r : Int} {μ' : Mm} (h : J9_min_7cf53 l0 l1 μ = some (r, μ')) : CC d mJ9_min_7cf53 [vI l0, vI l1] μ r μ' := by
  unfold J9_min_7cf53 at h
  refine V_enter (by decide) (Nat.le_of_ble_eq_true rfl) ?_
  show VV d mJ9_min_7cf53 0 [some (vI l0), some (vI l1)] [] μ r μ'
  refine V_iload_n (q := 1) dJ9_min_7cf53_0 rfl rfl rfl ?_
  refine V_iload_n (q := 2) dJ9_min_7cf53_1 rfl rfl rfl ?_
  refine V_icmpgt (q := 9) (q2 := 5) dJ9_min_7cf53_2 (by decide) rfl (fun hc1 => ?_) (fun hc1 => ?_)
  · have h := ifT hc1 h
    refine V_iload_n (q := 10) dJ9_min_7cf53_9 rfl rfl rfl ?_
    exact V_iret rfl h dJ9_min_7cf53_10
  · have h := ifF hc1 h
    refine V_iload_n (q := 6) dJ9_min_7cf53_5 rfl rfl rfl ?_
    refine V_goto (q := 10) dJ9_min_7cf53_6 (by decide) ?_
    exact V_iret rfl h dJ9_min_7cf53_10
abbrev mX2_fillTimes : Mth := (yX2_fillTimes, cX2_fillTimes, 8, none)
theorem mi_X2_fillTimes : Cond.instanceMethod yX2_fillTimes ∈ tG ∧ Cond.selects yX2_fillTimes.cls yX2_fillTimes yX2_fillTimes ∈ tG ∧ Cond.initialized yX2_fillTimes.cls ∈ tG ∧ Cond.code yX2_fillTimes cX2_fillTimes 8 (none) ∈ tG ∧ (yX2_fillTimes.cls ≠ "java/lang/invoke/MethodHandle" ∧ yX2_fillTimes.cls ≠ "java/lang/invoke/VarHandle" ∧ (parseMethodDescriptor yX2_fillTimes.desc).map (fun d => d.parameters.length) = some 4) ∧ 8 ≤ 60 := ⟨(tG_of (List.mem_of_getElem? (i := 790) (by decide +kernel)) (by decide +kernel)), (tG_of (List.mem_of_getElem? (i := 791) (by decide +kernel)) (by decide +kernel)), (tG_of (List.mem_of_getElem? (i := 104) (by decide +kernel)) (by decide +kernel)), (tG_of (List.mem_of_getElem? (i := 792) (by decide +kernel)) (by decide +kernel)), ⟨by decide, by decide, by decide +kernel⟩, by decide⟩
theorem mv_X10_239 : mV RX10 239 mX2_fillTimes 4 := ⟨(tG_of (List.mem_of_getElem? (i := 789) (by decide +kernel)) (by decide +kernel)), mi_X2_fillTimes⟩
theorem dX2_fillTimes_0 : decode cX2_fillTimes 0 = .ok (.iconst 0, 1) := by decide +kernel
theorem dX2_fillTimes_1 : decode cX2_fillTimes 1 = .ok (.istore 5, 2) := by decide +kernel
theorem dX2_fillTimes_3 : decode cX2_fillTimes 3 = .ok (.aload_n 0, 1) := by decide +kernel
theorem dX2_fillTimes_4 : decode cX2_fillTimes 4 = .ok (.iload_n 3, 1) := by decide +kernel
theorem dX2_fillTimes_5 : decode cX2_fillTimes 5 = .ok (.putfield 25, 3) := by decide +kernel
theorem dX2_fillTimes_8 : decode cX2_fillTimes 8 = .ok (.aload_n 0, 1) := by decide +kernel
theorem dX2_fillTimes_9 : decode cX2_fillTimes 9 = .ok (.aload_n 1, 1) := by decide +kernel
theorem dX2_fillTimes_10 : decode cX2_fillTimes 10 = .ok (.getfield 28, 3) := by decide +kernel
theorem dX2_fillTimes_13 : decode cX2_fillTimes 13 = .ok (.putfield 33, 3) := by decide +kernel
theorem dX2_fillTimes_16 : decode cX2_fillTimes 16 = .ok (.iconst 0, 1) := by decide +kernel
theorem dX2_fillTimes_17 : decode cX2_fillTimes 17 = .ok (.istore 6, 2) := by decide +kernel
theorem dX2_fillTimes_19 : decode cX2_fillTimes 19 = .ok (.iload 6, 2) := by decide +kernel
theorem dX2_fillTimes_21 : decode cX2_fillTimes 21 = .ok (.aload_n 1, 1) := by decide +kernel
theorem dX2_fillTimes_22 : decode cX2_fillTimes 22 = .ok (.getfield 28, 3) := by decide +kernel
theorem dX2_fillTimes_25 : decode cX2_fillTimes 25 = .ok (.if_icmp .ge 98, 3) := by decide +kernel
theorem dX2_fillTimes_28 : decode cX2_fillTimes 28 = .ok (.iload 6, 2) := by decide +kernel
theorem dX2_fillTimes_30 : decode cX2_fillTimes 30 = .ok (.aload 4, 2) := by decide +kernel
theorem dX2_fillTimes_32 : decode cX2_fillTimes 32 = .ok (.arraylength, 1) := by decide +kernel
theorem dX2_fillTimes_33 : decode cX2_fillTimes 33 = .ok (.if_icmp .ge 90, 3) := by decide +kernel
theorem dX2_fillTimes_36 : decode cX2_fillTimes 36 = .ok (.aload_n 0, 1) := by decide +kernel
theorem dX2_fillTimes_37 : decode cX2_fillTimes 37 = .ok (.aload_n 1, 1) := by decide +kernel
theorem dX2_fillTimes_38 : decode cX2_fillTimes 38 = .ok (.getfield 36, 3) := by decide +kernel
theorem dX2_fillTimes_41 : decode cX2_fillTimes 41 = .ok (.iload 6, 2) := by decide +kernel
theorem dX2_fillTimes_43 : decode cX2_fillTimes 43 = .ok (.iaload, 1) := by decide +kernel
theorem dX2_fillTimes_44 : decode cX2_fillTimes 44 = .ok (.putfield 40, 3) := by decide +kernel
theorem dX2_fillTimes_47 : decode cX2_fillTimes 47 = .ok (.aload_n 0, 1) := by decide +kernel
theorem dX2_fillTimes_48 : decode cX2_fillTimes 48 = .ok (.iload 6, 2) := by decide +kernel
theorem dX2_fillTimes_50 : decode cX2_fillTimes 50 = .ok (.putfield 43, 3) := by decide +kernel
theorem dX2_fillTimes_53 : decode cX2_fillTimes 53 = .ok (.aload_n 0, 1) := by decide +kernel
theorem dX2_fillTimes_54 : decode cX2_fillTimes 54 = .ok (.aload_n 1, 1) := by decide +kernel
theorem dX2_fillTimes_55 : decode cX2_fillTimes 55 = .ok (.getfield 46, 3) := by decide +kernel
theorem dX2_fillTimes_58 : decode cX2_fillTimes 58 = .ok (.iload 6, 2) := by decide +kernel
theorem dX2_fillTimes_60 : decode cX2_fillTimes 60 = .ok (.iaload, 1) := by decide +kernel
theorem dX2_fillTimes_61 : decode cX2_fillTimes 61 = .ok (.putfield 49, 3) := by decide +kernel
theorem dX2_fillTimes_64 : decode cX2_fillTimes 64 = .ok (.aload_n 0, 1) := by decide +kernel
theorem dX2_fillTimes_65 : decode cX2_fillTimes 65 = .ok (.getfield 40, 3) := by decide +kernel
theorem dX2_fillTimes_68 : decode cX2_fillTimes 68 = .ok (.istore 7, 2) := by decide +kernel
theorem dX2_fillTimes_70 : decode cX2_fillTimes 70 = .ok (.aload_n 2, 1) := by decide +kernel
theorem dX2_fillTimes_71 : decode cX2_fillTimes 71 = .ok (.ifnull 30, 3) := by decide +kernel
theorem dX2_fillTimes_74 : decode cX2_fillTimes 74 = .ok (.aload_n 0, 1) := by decide +kernel
theorem dX2_fillTimes_75 : decode cX2_fillTimes 75 = .ok (.getfield 9, 3) := by decide +kernel
theorem dX2_fillTimes_78 : decode cX2_fillTimes 78 = .ok (.aload_n 2, 1) := by decide +kernel
theorem dX2_fillTimes_79 : decode cX2_fillTimes 79 = .ok (.invokevirtual 52, 3) := by decide +kernel
theorem dX2_fillTimes_82 : decode cX2_fillTimes 82 = .ok (.iload 7, 2) := by decide +kernel
theorem dX2_fillTimes_84 : decode cX2_fillTimes 84 = .ok (.bipush (-99), 2) := by decide +kernel
theorem dX2_fillTimes_86 : decode cX2_fillTimes 86 = .ok (.bipush 99, 2) := by decide +kernel
theorem dX2_fillTimes_88 : decode cX2_fillTimes 88 = .ok (.aload_n 0, 1) := by decide +kernel
theorem dX2_fillTimes_89 : decode cX2_fillTimes 89 = .ok (.invokevirtual 15, 3) := by decide +kernel
theorem dX2_fillTimes_92 : decode cX2_fillTimes 92 = .ok (.invokestatic 56, 3) := by decide +kernel
theorem dX2_fillTimes_95 : decode cX2_fillTimes 95 = .ok (.invokestatic 62, 3) := by decide +kernel
theorem dX2_fillTimes_98 : decode cX2_fillTimes 98 = .ok (.iadd, 1) := by decide +kernel
theorem dX2_fillTimes_99 : decode cX2_fillTimes 99 = .ok (.istore 7, 2) := by decide +kernel
theorem dX2_fillTimes_101 : decode cX2_fillTimes 101 = .ok (.iload 5, 2) := by decide +kernel
theorem dX2_fillTimes_103 : decode cX2_fillTimes 103 = .ok (.iload 7, 2) := by decide +kernel
theorem dX2_fillTimes_105 : decode cX2_fillTimes 105 = .ok (.invokestatic 62, 3) := by decide +kernel
theorem dX2_fillTimes_108 : decode cX2_fillTimes 108 = .ok (.istore 5, 2) := by decide +kernel
theorem dX2_fillTimes_110 : decode cX2_fillTimes 110 = .ok (.aload 4, 2) := by decide +kernel
theorem dX2_fillTimes_112 : decode cX2_fillTimes 112 = .ok (.iload 6, 2) := by decide +kernel
theorem dX2_fillTimes_114 : decode cX2_fillTimes 114 = .ok (.iload 5, 2) := by decide +kernel
theorem dX2_fillTimes_116 : decode cX2_fillTimes 116 = .ok (.iastore, 1) := by decide +kernel
theorem dX2_fillTimes_117 : decode cX2_fillTimes 117 = .ok (.iinc 6 1, 3) := by decide +kernel
theorem dX2_fillTimes_120 : decode cX2_fillTimes 120 = .ok (.goto (-101), 3) := by decide +kernel
theorem dX2_fillTimes_123 : decode cX2_fillTimes 123 = .ok (.return_, 1) := by decide +kernel
def X2_fillTimes_J101 (k19 : Int → Int → Mm → Rs) (l1 : Nat) (l2 : Int) (l4 : Nat) (l5 : Int) (l6 : Int) (l7 : Int) (μ : Mm) : Rs := bd (J9_max_7cf53 l5 l7 μ) fun v13 μ14 => stA μ14 l4 l6 v13 fun μ16 => k19 v13 (iA l6 1) μ16
def X2_fillTimes_L19 (l1 : Nat) (l2 : Int) (l4 : Nat) : Nat → Int → Int → Mm → Rs
  | 0, _, _, _ => none
  | n + 1, l5, l6, μ => if (μ l1 2) ≤ l6 then (some (0, μ)) else (if ((aN l4 : Nat) : Int) ≤ l6 then (some (0, μ)) else (ldA μ (l1 + 2) l6 fun v5 => sF μ 4 1 v5 fun μ7 => sF μ7 4 2 l6 fun μ8 => ldA μ8 (l1 + 1) l6 fun v9 => sF μ8 4 4 v9 fun μ11 => if l2 = -1 then (X2_fillTimes_J101 (fun w5 w6 μq => X2_fillTimes_L19 l1 l2 l4 n w5 w6 μq) l1 l2 l4 l5 l6 (μ11 4 1) μ11) else (kC l2 (17, 2) fun _ => bd (X4_open (l2.toNat) μ11) fun v19 μ20 => bd (X2_worth μ20) fun v22 μ23 => bd (J9_min_7cf53 99 v22 μ23) fun v25 μ26 => bd (J9_max_7cf53 (-99) v25 μ26) fun v28 μ29 => lt_ (iA (μ11 4 1) v28) fun v31 => X2_fillTimes_J101 (fun w5 w6 μq => X2_fillTimes_L19 l1 l2 l4 n w5 w6 μq) l1 l2 l4 l5 l6 v31 μ29)))
def X2_fillTimes (l1 : Nat) (l2 : Int) (l3 : Int) (l4 : Nat) (μ : Mm) : Rs := sF μ 4 3 l3 fun μ1 => sF μ1 4 5 (μ1 l1 2) fun μ2 => X2_fillTimes_L19 l1 l2 l4 FU 0 0 μ2
set_option maxHeartbeats 4000000 in
set_option maxRecDepth 100000 in
theorem kX2_fillTimes_J101 (d : Nat) (hd : 270 ≤ d) {k19 : Int → Int → Mm → Rs} {l1 : Nat} {l2 : Int} {l4 : Nat} {l5 : Int} {l6 : Int} {l7 : Int} (hk1 : kD l1 = (13, 3)) {n4 : Nat} (hk4 : kD l4 = (0, n4)) {μ : Mm} {r : Int} {μ' : Mm} (hk_19 : ∀ (v5 v6 : Int) (μ1 : Mm), k19 v5 v6 μ1 = some (r, μ') → VV d mX2_fillTimes 19 [some (vR 4), some (vR l1), some (vC l2), none, some (vR l4), some (vI v5), some (vI v6), none] [] μ1 r μ') (h : X2_fillTimes_J101 k19 l1 l2 l4 l5 l6 l7 μ = some (r, μ')) : VV d mX2_fillTimes 101 [some (vR 4), some (vR l1), some (vC l2), none, some (vR l4), some (vI l5), some (vI l6), some (vI l7)] [] μ r μ' := by
  unfold X2_fillTimes_J101 at h
  refine V_iload (q := 103) dX2_fillTimes_101 rfl rfl ?_
  refine V_iload (q := 105) dX2_fillTimes_103 rfl rfl ?_
  obtain ⟨v13, μ14, hc15, h⟩ := bd_i h
  refine V_cS1 (q := 108) (v := vI v13) (kJ9_max_7cf53 (d - 1) (by omega) hc15) (by omega) mv_X2_62 rfl rfl rfl rfl dX2_fillTimes_105 rfl ?_
  refine V_istore (q := 110) dX2_fillTimes_108 (Nat.le_of_ble_eq_true rfl) trivial rfl ?_
  refine V_aload (q := 112) dX2_fillTimes_110 rfl rfl ?_
  refine V_iload (q := 114) dX2_fillTimes_112 rfl rfl ?_
  refine V_iload (q := 116) dX2_fillTimes_114 rfl rfl ?_
  obtain ⟨hi17, h⟩ := stA_i h
  refine V_iastore (q := 117) hk4 hi17 dX2_fillTimes_116 rfl ?_
  refine V_iinc (q := 120) dX2_fillTimes_117 rfl (Nat.le_of_ble_eq_true rfl) trivial rfl ?_
  refine V_goto (q := 19) dX2_fillTimes_120 (by decide) ?_
  exact V_weak (hk_19 _ _ _ h) (sb_s rfl (sb_s rfl (sb_s rfl (sb_n (sb_s rfl (sb_s rfl (sb_s rfl (sb_n sb_0))))))))
set_option maxHeartbeats 4000000 in
set_option maxRecDepth 100000 in
theorem kX2_fillTimes_L19 (d : Nat) (hd : 270 ≤ d) {l1 : Nat} {l2 : Int} {l4 : Nat} (hk1 : kD l1 = (13, 3)) {n4 : Nat} (hk4 : kD l4 = (0, n4)) {r : Int} {μ' : Mm} : ∀ (n : Nat) {l5 l6 : Int} {μ : Mm}, X2_fillTimes_L19 l1 l2 l4 n l5 l6 μ = some (r, μ') → VV d mX2_fillTimes 19 [some (vR 4), some (vR l1), some (vC l2), none, some (vR l4), some (vI l5), some (vI l6), none] [] μ r μ' := by
  intro n
  induction n with
  | zero => intro l5 l6 μ h; rw [X2_fillTimes_L19] at h; cases h
  | succ n ih =>
    intro l5 l6 μ h
    rw [X2_fillTimes_L19] at h
    refine V_iload (q := 21) dX2_fillTimes_19 rfl rfl ?_
    refine V_aload_n (q := 22) dX2_fillTimes_21 rfl rfl rfl ?_
    refine V_getI (q := 25) fl_X2_28 hk1 rfl rfl dX2_fillTimes_22 rfl ?_
    refine V_icmpge (q := 123) (q2 := 28) dX2_fillTimes_25 (by decide) rfl (fun hc3 => ?_) (fun hc3 => ?_)
    · have h := ifT hc3 h
      exact V_vret rfl h dX2_fillTimes_123
    · have h := ifF hc3 h
      refine V_iload (q := 30) dX2_fillTimes_28 rfl rfl ?_
      refine V_aload (q := 32) dX2_fillTimes_30 rfl rfl ?_
      refine V_alen (q := 33) hk4 dX2_fillTimes_32 rfl ?_
      refine V_icmpge (q := 123) (q2 := 36) dX2_fillTimes_33 (by decide) rfl (fun hc4 => ?_) (fun hc4 => ?_)
      · have h := ifT hc4 h
        exact V_vret rfl h dX2_fillTimes_123
      · have h := ifF hc4 h
        refine V_aload_n (q := 37) dX2_fillTimes_36 rfl rfl rfl ?_
        refine V_aload_n (q := 38) dX2_fillTimes_37 rfl rfl rfl ?_
        refine V_getO (q := 41) (t := _) fl_X2_36 hk1 rfl rfl rfl dX2_fillTimes_38 rfl ?_
        refine V_iload (q := 43) dX2_fillTimes_41 rfl rfl ?_
        obtain ⟨hi6, h⟩ := ldA_i h
        refine V_iaload (q := 44) (kdo_3_1 hk1) hi6 dX2_fillTimes_43 rfl ?_
        have h := sF_i h
        refine V_putI (q := 47) fl_X2_40 rfl rfl rfl dX2_fillTimes_44 rfl ?_
        refine V_aload_n (q := 48) dX2_fillTimes_47 rfl rfl rfl ?_
        refine V_iload (q := 50) dX2_fillTimes_48 rfl rfl ?_
        have h := sF_i h
        refine V_putI (q := 53) fl_X2_43 rfl rfl rfl dX2_fillTimes_50 rfl ?_
        refine V_aload_n (q := 54) dX2_fillTimes_53 rfl rfl rfl ?_
        refine V_aload_n (q := 55) dX2_fillTimes_54 rfl rfl rfl ?_
        refine V_getO (q := 58) (t := _) fl_X2_46 hk1 rfl rfl rfl dX2_fillTimes_55 rfl ?_
        refine V_iload (q := 60) dX2_fillTimes_58 rfl rfl ?_
        obtain ⟨hi10, h⟩ := ldA_i h
        refine V_iaload (q := 61) (kdo_3_0 hk1) hi10 dX2_fillTimes_60 rfl ?_
        have h := sF_i h
        refine V_putI (q := 64) fl_X2_49 rfl rfl rfl dX2_fillTimes_61 rfl ?_
        refine V_aload_n (q := 65) dX2_fillTimes_64 rfl rfl rfl ?_
        refine V_getI (q := 68) fl_X2_40 rfl rfl rfl dX2_fillTimes_65 rfl ?_
        refine V_istore (q := 70) dX2_fillTimes_68 (Nat.le_of_ble_eq_true rfl) trivial rfl ?_
        refine V_aloadC_n (q := 71) dX2_fillTimes_70 rfl rfl rfl ?_
        refine V_ifnull (q := 101) (q2 := 74) dX2_fillTimes_71 (by decide) rfl (fun hc12 => ?_) (fun hc12 => ?_)
        · have h := ifT hc12 h
          exact V_weak (kX2_fillTimes_J101 d hd hk1 hk4 (fun _ _ _ h => ih h) h) (sb_s rfl (sb_s rfl (sb_s rfl (sb_n (sb_s rfl (sb_s rfl (sb_s rfl (sb_s rfl sb_0))))))))
        · have h := ifF hc12 h
          obtain ⟨hk18, h⟩ := kC_i h
          refine V_aload_n (q := 75) dX2_fillTimes_74 rfl rfl rfl ?_
          refine V_getC (q := 78) fl_X2_9 rfl rfl rfl dX2_fillTimes_75 rfl ?_
          refine V_aloadC_n (q := 79) dX2_fillTimes_78 rfl rfl rfl ?_
          rw [vC_r hc12]
          obtain ⟨v19, μ20, hc21, h⟩ := bd_i h
          refine V_cV0 (q := 82) (kX4_open (d - 1) (by omega) hk18 hc21) (by omega) mv_X2_52 rfl rfl rfl rfl rfl rfl dX2_fillTimes_79 rfl ?_
          refine V_iload (q := 84) dX2_fillTimes_82 rfl rfl ?_
          refine V_bipush (q := 86) dX2_fillTimes_84 rfl rfl rfl ?_
          refine V_bipush (q := 88) dX2_fillTimes_86 rfl rfl rfl ?_
          refine V_aload_n (q := 89) dX2_fillTimes_88 rfl rfl rfl ?_
          obtain ⟨v22, μ23, hc24, h⟩ := bd_i h
          refine V_cV1 (q := 92) (v := vI v22) (kX2_worth (d - 1) (by omega) hc24) (by omega) mv_X2_15 rfl rfl rfl rfl rfl rfl dX2_fillTimes_89 rfl ?_
          obtain ⟨v25, μ26, hc27, h⟩ := bd_i h
          refine V_cS1 (q := 95) (v := vI v25) (kJ9_min_7cf53 (d - 1) (by omega) hc27) (by omega) mv_X2_56 rfl rfl rfl rfl dX2_fillTimes_92 rfl ?_
          obtain ⟨v28, μ29, hc30, h⟩ := bd_i h
          refine V_cS1 (q := 98) (v := vI v28) (kJ9_max_7cf53 (d - 1) (by omega) hc30) (by omega) mv_X2_62 rfl rfl rfl rfl dX2_fillTimes_95 rfl ?_
          refine V_iadd (q := 99) dX2_fillTimes_98 rfl ?_
          have h := lt_i h
          refine V_istore (q := 101) dX2_fillTimes_99 (Nat.le_of_ble_eq_true rfl) trivial rfl ?_
          exact V_weak (kX2_fillTimes_J101 d hd hk1 hk4 (fun _ _ _ h => ih h) h) (sb_s rfl (sb_s rfl (sb_s rfl (sb_n (sb_s rfl (sb_s rfl (sb_s rfl (sb_s rfl sb_0))))))))
set_option maxHeartbeats 4000000 in
set_option maxRecDepth 100000 in
theorem kX2_fillTimes (d : Nat) (hd : 270 ≤ d) {l1 : Nat} {l2 : Int} {l3 : Int} {l4 : Nat} {n4 : Nat} (hk1 : kD l1 = (13, 3)) (hk4 : kD l4 = (0, n4)) {μ : Mm} {r : Int} {μ' : Mm} (h : X2_fillTimes l1 l2 l3 l4 μ = some (r, μ')) : CC d mX2_fillTimes [vR 4, vR l1, vC l2, vI l3, vR l4] μ r μ' := by
  unfold X2_fillTimes at h
  refine V_enter (by decide) (by unfold vC; split <;> exact Nat.le_of_ble_eq_true rfl) ?_
  refine VV_eq (ls2 := [some (vR 4), some (vR l1), some (vC l2), some (vI l3), some (vR l4), none, none, none]) (st2 := []) (by unfold vC; split <;> rfl) rfl ?_
  refine V_iconst (q := 1) dX2_fillTimes_0 rfl rfl ?_
  refine V_istore (q := 3) dX2_fillTimes_1 (Nat.le_of_ble_eq_true rfl) trivial rfl ?_
  refine V_aload_n (q := 4) dX2_fillTimes_3 rfl rfl rfl ?_
  refine V_iload_n (q := 5) dX2_fillTimes_4 rfl rfl rfl ?_
  have h := sF_i h
  refine V_putI (q := 8) fl_X2_25 rfl rfl rfl dX2_fillTimes_5 rfl ?_
  refine V_aload_n (q := 9) dX2_fillTimes_8 rfl rfl rfl ?_
  refine V_aload_n (q := 10) dX2_fillTimes_9 rfl rfl rfl ?_
  refine V_getI (q := 13) fl_X2_28 hk1 rfl rfl dX2_fillTimes_10 rfl ?_
  have h := sF_i h
  refine V_putI (q := 16) fl_X2_33 rfl rfl rfl dX2_fillTimes_13 rfl ?_
  refine V_iconst (q := 17) dX2_fillTimes_16 rfl rfl ?_
  refine V_istore (q := 19) dX2_fillTimes_17 (Nat.le_of_ble_eq_true rfl) trivial rfl ?_
  exact V_weak (kX2_fillTimes_L19 d hd hk1 hk4  FU h) (sb_s rfl (sb_s rfl (sb_s rfl (sb_n (sb_s rfl (sb_s rfl (sb_s rfl (sb_n sb_0))))))))
abbrev mX3_readCue : Mth := (yX3_readCue, cX3_readCue, 5, none)
theorem mi_X3_readCue : Cond.instanceMethod yX3_readCue ∈ tG ∧ Cond.selects yX3_readCue.cls yX3_readCue yX3_readCue ∈ tG ∧ Cond.initialized yX3_readCue.cls ∈ tG ∧ Cond.code yX3_readCue cX3_readCue 5 (none) ∈ tG ∧ (yX3_readCue.cls ≠ "java/lang/invoke/MethodHandle" ∧ yX3_readCue.cls ≠ "java/lang/invoke/VarHandle" ∧ (parseMethodDescriptor yX3_readCue.desc).map (fun d => d.parameters.length) = some 2) ∧ 5 ≤ 60 := ⟨(tG_of (List.mem_of_getElem? (i := 563) (by decide +kernel)) (by decide +kernel)), (tG_of (List.mem_of_getElem? (i := 3) (by decide +kernel)) (by decide +kernel)), (tG_of (List.mem_of_getElem? (i := 106) (by decide +kernel)) (by decide +kernel)), (tG_of (List.mem_of_getElem? (i := 564) (by decide +kernel)) (by decide +kernel)), ⟨by decide, by decide, by decide +kernel⟩, by decide⟩
theorem mv_X3_22 : mV RX3 22 mX3_readCue 2 := ⟨(tG_of (List.mem_of_getElem? (i := 561) (by decide +kernel)) (by decide +kernel)), mi_X3_readCue⟩
theorem dX3_readCue_0 : decode cX3_readCue 0 = .ok (.aload_n 1, 1) := by decide +kernel
theorem dX3_readCue_1 : decode cX3_readCue 1 = .ok (.invokevirtual 38, 3) := by decide +kernel
theorem dX3_readCue_4 : decode cX3_readCue 4 = .ok (.istore_n 3, 1) := by decide +kernel
theorem dX3_readCue_5 : decode cX3_readCue 5 = .ok (.iload_n 3, 1) := by decide +kernel
theorem dX3_readCue_6 : decode cX3_readCue 6 = .ok (.bipush 65, 2) := by decide +kernel
theorem dX3_readCue_8 : decode cX3_readCue 8 = .ok (.if_icmp .lt 9, 3) := by decide +kernel
theorem dX3_readCue_11 : decode cX3_readCue 11 = .ok (.iload_n 3, 1) := by decide +kernel
theorem dX3_readCue_12 : decode cX3_readCue 12 = .ok (.bipush 72, 2) := by decide +kernel
theorem dX3_readCue_14 : decode cX3_readCue 14 = .ok (.if_icmp .le 12, 3) := by decide +kernel
theorem dX3_readCue_17 : decode cX3_readCue 17 = .ok (.aload_n 1, 1) := by decide +kernel
theorem dX3_readCue_18 : decode cX3_readCue 18 = .ok (.aload_n 1, 1) := by decide +kernel
theorem dX3_readCue_19 : decode cX3_readCue 19 = .ok (.getfield 42, 3) := by decide +kernel
theorem dX3_readCue_22 : decode cX3_readCue 22 = .ok (.invokevirtual 45, 3) := by decide +kernel
theorem dX3_readCue_25 : decode cX3_readCue 25 = .ok (.return_, 1) := by decide +kernel
theorem dX3_readCue_26 : decode cX3_readCue 26 = .ok (.aload_n 1, 1) := by decide +kernel
theorem dX3_readCue_27 : decode cX3_readCue 27 = .ok (.invokevirtual 49, 3) := by decide +kernel
theorem dX3_readCue_30 : decode cX3_readCue 30 = .ok (.aload_n 1, 1) := by decide +kernel
theorem dX3_readCue_31 : decode cX3_readCue 31 = .ok (.iconst 3, 1) := by decide +kernel
theorem dX3_readCue_32 : decode cX3_readCue 32 = .ok (.invokevirtual 52, 3) := by decide +kernel
theorem dX3_readCue_35 : decode cX3_readCue 35 = .ok (.istore 4, 2) := by decide +kernel
theorem dX3_readCue_37 : decode cX3_readCue 37 = .ok (.iload_n 2, 1) := by decide +kernel
theorem dX3_readCue_38 : decode cX3_readCue 38 = .ok (.ifCond .le 26, 3) := by decide +kernel
theorem dX3_readCue_41 : decode cX3_readCue 41 = .ok (.iload 4, 2) := by decide +kernel
theorem dX3_readCue_43 : decode cX3_readCue 43 = .ok (.aload_n 0, 1) := by decide +kernel
theorem dX3_readCue_44 : decode cX3_readCue 44 = .ok (.getfield 15, 3) := by decide +kernel
theorem dX3_readCue_47 : decode cX3_readCue 47 = .ok (.iload_n 2, 1) := by decide +kernel
theorem dX3_readCue_48 : decode cX3_readCue 48 = .ok (.iconst 1, 1) := by decide +kernel
theorem dX3_readCue_49 : decode cX3_readCue 49 = .ok (.isub, 1) := by decide +kernel
theorem dX3_readCue_50 : decode cX3_readCue 50 = .ok (.iaload, 1) := by decide +kernel
theorem dX3_readCue_51 : decode cX3_readCue 51 = .ok (.if_icmp .ge 13, 3) := by decide +kernel
theorem dX3_readCue_54 : decode cX3_readCue 54 = .ok (.aload_n 1, 1) := by decide +kernel
theorem dX3_readCue_55 : decode cX3_readCue 55 = .ok (.aload_n 1, 1) := by decide +kernel
theorem dX3_readCue_56 : decode cX3_readCue 56 = .ok (.getfield 42, 3) := by decide +kernel
theorem dX3_readCue_59 : decode cX3_readCue 59 = .ok (.iconst 1, 1) := by decide +kernel
theorem dX3_readCue_60 : decode cX3_readCue 60 = .ok (.isub, 1) := by decide +kernel
theorem dX3_readCue_61 : decode cX3_readCue 61 = .ok (.invokevirtual 45, 3) := by decide +kernel
theorem dX3_readCue_64 : decode cX3_readCue 64 = .ok (.aload_n 0, 1) := by decide +kernel
theorem dX3_readCue_65 : decode cX3_readCue 65 = .ok (.getfield 9, 3) := by decide +kernel
theorem dX3_readCue_68 : decode cX3_readCue 68 = .ok (.iload_n 2, 1) := by decide +kernel
theorem dX3_readCue_69 : decode cX3_readCue 69 = .ok (.iload_n 3, 1) := by decide +kernel
theorem dX3_readCue_70 : decode cX3_readCue 70 = .ok (.bipush 65, 2) := by decide +kernel
theorem dX3_readCue_72 : decode cX3_readCue 72 = .ok (.isub, 1) := by decide +kernel
theorem dX3_readCue_73 : decode cX3_readCue 73 = .ok (.iastore, 1) := by decide +kernel
theorem dX3_readCue_74 : decode cX3_readCue 74 = .ok (.aload_n 0, 1) := by decide +kernel
theorem dX3_readCue_75 : decode cX3_readCue 75 = .ok (.getfield 15, 3) := by decide +kernel
theorem dX3_readCue_78 : decode cX3_readCue 78 = .ok (.iload_n 2, 1) := by decide +kernel
theorem dX3_readCue_79 : decode cX3_readCue 79 = .ok (.iload 4, 2) := by decide +kernel
theorem dX3_readCue_81 : decode cX3_readCue 81 = .ok (.iastore, 1) := by decide +kernel
theorem dX3_readCue_82 : decode cX3_readCue 82 = .ok (.aload_n 0, 1) := by decide +kernel
theorem dX3_readCue_83 : decode cX3_readCue 83 = .ok (.iload_n 2, 1) := by decide +kernel
theorem dX3_readCue_84 : decode cX3_readCue 84 = .ok (.iconst 1, 1) := by decide +kernel
theorem dX3_readCue_85 : decode cX3_readCue 85 = .ok (.iadd, 1) := by decide +kernel
theorem dX3_readCue_86 : decode cX3_readCue 86 = .ok (.putfield 18, 3) := by decide +kernel
theorem dX3_readCue_89 : decode cX3_readCue 89 = .ok (.return_, 1) := by decide +kernel
def X3_readCue_J64 (l0 : Nat) (l2 : Int) (l3 : Int) (l4 : Int) (μ : Mm) : Rs := stA μ (l0 + 1) l2 (iS l3 65) fun μ16 => stA μ16 (l0 + 2) l2 l4 fun μ18 => sF μ18 l0 2 (iA l2 1) fun μ20 => some (0, μ20)
def X3_readCue (l0 : Nat) (l2 : Int) (μ : Mm) : Rs := bd (X4_peek μ) fun v1 μ2 => if v1 < 65 then (bd (X4_refuseAt (μ2 3 1) μ2) fun v5 μ6 => some (0, μ6)) else (if v1 ≤ 72 then (bd (X4_pass μ2) fun v9 μ10 => bd (X4_number 3 μ10) fun v12 μ13 => if l2 ≤ 0 then (X3_readCue_J64 l0 l2 v1 v12 μ13) else (ldA μ13 (l0 + 2) (iS l2 1) fun v21 => if v21 ≤ v12 then (X3_readCue_J64 l0 l2 v1 v12 μ13) else (bd (X4_refuseAt (iS (μ13 3 1) 1) μ13) fun v24 μ25 => X3_readCue_J64 l0 l2 v1 v12 μ25))) else (bd (X4_refuseAt (μ2 3 1) μ2) fun v27 μ28 => some (0, μ28)))
set_option maxHeartbeats 4000000 in
set_option maxRecDepth 100000 in
theorem kX3_readCue_J64 (d : Nat) (hd : 3 ≤ d) {l0 : Nat} {l2 : Int} {l3 : Int} {l4 : Int} (hk0 : kD l0 = (13, 3)) {μ : Mm} {r : Int} {μ' : Mm} (h : X3_readCue_J64 l0 l2 l3 l4 μ = some (r, μ')) : VV d mX3_readCue 64 [some (vR l0), none, some (vI l2), some (vI l3), some (vI l4)] [] μ r μ' := by
  unfold X3_readCue_J64 at h
  refine V_aload_n (q := 65) dX3_readCue_64 rfl rfl rfl ?_
  refine V_getO (q := 68) (t := _) fl_X3_9 hk0 rfl rfl rfl dX3_readCue_65 rfl ?_
  refine V_iload_n (q := 69) dX3_readCue_68 rfl rfl rfl ?_
  refine V_iload_n (q := 70) dX3_readCue_69 rfl rfl rfl ?_
  refine V_bipush (q := 72) dX3_readCue_70 rfl rfl rfl ?_
  refine V_isub (q := 73) dX3_readCue_72 rfl ?_
  obtain ⟨hi17, h⟩ := stA_i h
  refine V_iastore (q := 74) (kdo_3_0 hk0) hi17 dX3_readCue_73 rfl ?_
  refine V_aload_n (q := 75) dX3_readCue_74 rfl rfl rfl ?_
  refine V_getO (q := 78) (t := _) fl_X3_15 hk0 rfl rfl rfl dX3_readCue_75 rfl ?_
  refine V_iload_n (q := 79) dX3_readCue_78 rfl rfl rfl ?_
  refine V_iload (q := 81) dX3_readCue_79 rfl rfl ?_
  obtain ⟨hi19, h⟩ := stA_i h
  refine V_iastore (q := 82) (kdo_3_1 hk0) hi19 dX3_readCue_81 rfl ?_
  refine V_aload_n (q := 83) dX3_readCue_82 rfl rfl rfl ?_
  refine V_iload_n (q := 84) dX3_readCue_83 rfl rfl rfl ?_
  refine V_iconst (q := 85) dX3_readCue_84 rfl rfl ?_
  refine V_iadd (q := 86) dX3_readCue_85 rfl ?_
  have h := sF_i h
  refine V_putI (q := 89) fl_X3_18 hk0 rfl rfl dX3_readCue_86 rfl ?_
  exact V_vret rfl h dX3_readCue_89
set_option maxHeartbeats 4000000 in
set_option maxRecDepth 100000 in
theorem kX3_readCue (d : Nat) (hd : 3 ≤ d) {l0 : Nat} {l2 : Int} (hk0 : kD l0 = (13, 3)) {μ : Mm} {r : Int} {μ' : Mm} (h : X3_readCue l0 l2 μ = some (r, μ')) : CC d mX3_readCue [vR l0, vR 3, vI l2] μ r μ' := by
  unfold X3_readCue at h
  refine V_enter (by decide) (Nat.le_of_ble_eq_true rfl) ?_
  show VV d mX3_readCue 0 [some (vR l0), some (vR 3), some (vI l2), none, none] [] μ r μ'
  refine V_aload_n (q := 1) dX3_readCue_0 rfl rfl rfl ?_
  obtain ⟨v1, μ2, hc3, h⟩ := bd_i h
  refine V_cV1 (q := 4) (v := vI v1) (kX4_peek (d - 1) (by omega) hc3) (by omega) mv_X3_38 rfl rfl rfl rfl rfl rfl dX3_readCue_1 rfl ?_
  refine V_istore_n (q := 5) dX3_readCue_4 rfl (Nat.le_of_ble_eq_true rfl) trivial rfl ?_
  refine V_iload_n (q := 6) dX3_readCue_5 rfl rfl rfl ?_
  refine V_bipush (q := 8) dX3_readCue_6 rfl rfl rfl ?_
  refine V_icmplt (q := 17) (q2 := 11) dX3_readCue_8 (by decide) rfl (fun hc4 => ?_) (fun hc4 => ?_)
  · have h := ifT hc4 h
    refine V_aload_n (q := 18) dX3_readCue_17 rfl rfl rfl ?_
    refine V_aload_n (q := 19) dX3_readCue_18 rfl rfl rfl ?_
    refine V_getI (q := 22) fl_X3_42 rfl rfl rfl dX3_readCue_19 rfl ?_
    obtain ⟨v5, μ6, hc7, h⟩ := bd_i h
    refine V_cV0 (q := 25) (kX4_refuseAt (d - 1) (by omega) hc7) (by omega) mv_X3_45 rfl rfl rfl rfl rfl rfl dX3_readCue_22 rfl ?_
    exact V_vret rfl h dX3_readCue_25
  · have h := ifF hc4 h
    refine V_iload_n (q := 12) dX3_readCue_11 rfl rfl rfl ?_
    refine V_bipush (q := 14) dX3_readCue_12 rfl rfl rfl ?_
    refine V_icmple (q := 26) (q2 := 17) dX3_readCue_14 (by decide) rfl (fun hc8 => ?_) (fun hc8 => ?_)
    · have h := ifT hc8 h
      refine V_aload_n (q := 27) dX3_readCue_26 rfl rfl rfl ?_
      obtain ⟨v9, μ10, hc11, h⟩ := bd_i h
      refine V_cV0 (q := 30) (kX4_pass (d - 1) (by omega) hc11) (by omega) mv_X3_49 rfl rfl rfl rfl rfl rfl dX3_readCue_27 rfl ?_
      refine V_aload_n (q := 31) dX3_readCue_30 rfl rfl rfl ?_
      refine V_iconst (q := 32) dX3_readCue_31 rfl rfl ?_
      obtain ⟨v12, μ13, hc14, h⟩ := bd_i h
      refine V_cV1 (q := 35) (v := vI v12) (kX4_number (d - 1) (by omega) hc14) (by omega) mv_X3_52 rfl rfl rfl rfl rfl rfl dX3_readCue_32 rfl ?_
      refine V_istore (q := 37) dX3_readCue_35 (Nat.le_of_ble_eq_true rfl) trivial rfl ?_
      refine V_iload_n (q := 38) dX3_readCue_37 rfl rfl rfl ?_
      refine V_ifle (q := 64) (q2 := 41) dX3_readCue_38 (by decide) rfl (fun hc15 => ?_) (fun hc15 => ?_)
      · have h := ifT hc15 h
        exact V_weak (kX3_readCue_J64 d hd hk0 h) (sb_s rfl (sb_n (sb_s rfl (sb_s rfl (sb_s rfl sb_0)))))
      · have h := ifF hc15 h
        refine V_iload (q := 43) dX3_readCue_41 rfl rfl ?_
        refine V_aload_n (q := 44) dX3_readCue_43 rfl rfl rfl ?_
        refine V_getO (q := 47) (t := _) fl_X3_15 hk0 rfl rfl rfl dX3_readCue_44 rfl ?_
        refine V_iload_n (q := 48) dX3_readCue_47 rfl rfl rfl ?_
        refine V_iconst (q := 49) dX3_readCue_48 rfl rfl ?_
        refine V_isub (q := 50) dX3_readCue_49 rfl ?_
        obtain ⟨hi22, h⟩ := ldA_i h
        refine V_iaload (q := 51) (kdo_3_1 hk0) hi22 dX3_readCue_50 rfl ?_
        refine V_icmpge (q := 64) (q2 := 54) dX3_readCue_51 (by decide) rfl (fun hc23 => ?_) (fun hc23 => ?_)
        · have h := ifT hc23 h
          exact V_weak (kX3_readCue_J64 d hd hk0 h) (sb_s rfl (sb_n (sb_s rfl (sb_s rfl (sb_s rfl sb_0)))))
        · have h := ifF hc23 h
          refine V_aload_n (q := 55) dX3_readCue_54 rfl rfl rfl ?_
          refine V_aload_n (q := 56) dX3_readCue_55 rfl rfl rfl ?_
          refine V_getI (q := 59) fl_X3_42 rfl rfl rfl dX3_readCue_56 rfl ?_
          refine V_iconst (q := 60) dX3_readCue_59 rfl rfl ?_
          refine V_isub (q := 61) dX3_readCue_60 rfl ?_
          obtain ⟨v24, μ25, hc26, h⟩ := bd_i h
          refine V_cV0 (q := 64) (kX4_refuseAt (d - 1) (by omega) hc26) (by omega) mv_X3_45 rfl rfl rfl rfl rfl rfl dX3_readCue_61 rfl ?_
          exact V_weak (kX3_readCue_J64 d hd hk0 h) (sb_s rfl (sb_n (sb_s rfl (sb_s rfl (sb_s rfl sb_0)))))
    · have h := ifF hc8 h
      refine V_aload_n (q := 18) dX3_readCue_17 rfl rfl rfl ?_
      refine V_aload_n (q := 19) dX3_readCue_18 rfl rfl rfl ?_
      refine V_getI (q := 22) fl_X3_42 rfl rfl rfl dX3_readCue_19 rfl ?_
      obtain ⟨v27, μ28, hc29, h⟩ := bd_i h
      refine V_cV0 (q := 25) (kX4_refuseAt (d - 1) (by omega) hc29) (by omega) mv_X3_45 rfl rfl rfl rfl rfl rfl dX3_readCue_22 rfl ?_
      exact V_vret rfl h dX3_readCue_25
abbrev mX3_read : Mth := (yX3_read, cX3_read, 3, some .int)
theorem mi_X3_read : Cond.instanceMethod yX3_read ∈ tG ∧ Cond.selects yX3_read.cls yX3_read yX3_read ∈ tG ∧ Cond.initialized yX3_read.cls ∈ tG ∧ Cond.code yX3_read cX3_read 3 (some .int) ∈ tG ∧ (yX3_read.cls ≠ "java/lang/invoke/MethodHandle" ∧ yX3_read.cls ≠ "java/lang/invoke/VarHandle" ∧ (parseMethodDescriptor yX3_read.desc).map (fun d => d.parameters.length) = some 1) ∧ 3 ≤ 60 := ⟨(tG_of (List.mem_of_getElem? (i := 558) (by decide +kernel)) (by decide +kernel)), (tG_of (List.mem_of_getElem? (i := 559) (by decide +kernel)) (by decide +kernel)), (tG_of (List.mem_of_getElem? (i := 106) (by decide +kernel)) (by decide +kernel)), (tG_of (List.mem_of_getElem? (i := 560) (by decide +kernel)) (by decide +kernel)), ⟨by decide, by decide, by decide +kernel⟩, by decide⟩
theorem mv_X10_146 : mV RX10 146 mX3_read 1 := ⟨(tG_of (List.mem_of_getElem? (i := 557) (by decide +kernel)) (by decide +kernel)), mi_X3_read⟩
theorem dX3_read_0 : decode cX3_read 0 = .ok (.aload_n 0, 1) := by decide +kernel
theorem dX3_read_1 : decode cX3_read 1 = .ok (.iconst 0, 1) := by decide +kernel
theorem dX3_read_2 : decode cX3_read 2 = .ok (.putfield 18, 3) := by decide +kernel
theorem dX3_read_5 : decode cX3_read 5 = .ok (.aload_n 0, 1) := by decide +kernel
theorem dX3_read_6 : decode cX3_read 6 = .ok (.aload_n 1, 1) := by decide +kernel
theorem dX3_read_7 : decode cX3_read 7 = .ok (.iconst 0, 1) := by decide +kernel
theorem dX3_read_8 : decode cX3_read 8 = .ok (.invokevirtual 22, 3) := by decide +kernel
theorem dX3_read_11 : decode cX3_read 11 = .ok (.iconst 1, 1) := by decide +kernel
theorem dX3_read_12 : decode cX3_read 12 = .ok (.istore_n 2, 1) := by decide +kernel
theorem dX3_read_13 : decode cX3_read 13 = .ok (.iload_n 2, 1) := by decide +kernel
theorem dX3_read_14 : decode cX3_read 14 = .ok (.bipush 8, 2) := by decide +kernel
theorem dX3_read_16 : decode cX3_read 16 = .ok (.if_icmp .ge 24, 3) := by decide +kernel
theorem dX3_read_19 : decode cX3_read 19 = .ok (.aload_n 1, 1) := by decide +kernel
theorem dX3_read_20 : decode cX3_read 20 = .ok (.bipush 44, 2) := by decide +kernel
theorem dX3_read_22 : decode cX3_read 22 = .ok (.invokevirtual 26, 3) := by decide +kernel
theorem dX3_read_25 : decode cX3_read 25 = .ok (.ifCond .eq 15, 3) := by decide +kernel
theorem dX3_read_28 : decode cX3_read 28 = .ok (.aload_n 0, 1) := by decide +kernel
theorem dX3_read_29 : decode cX3_read 29 = .ok (.aload_n 1, 1) := by decide +kernel
theorem dX3_read_30 : decode cX3_read 30 = .ok (.iload_n 2, 1) := by decide +kernel
theorem dX3_read_31 : decode cX3_read 31 = .ok (.invokevirtual 22, 3) := by decide +kernel
theorem dX3_read_34 : decode cX3_read 34 = .ok (.iinc 2 1, 3) := by decide +kernel
theorem dX3_read_37 : decode cX3_read 37 = .ok (.goto (-24), 3) := by decide +kernel
theorem dX3_read_40 : decode cX3_read 40 = .ok (.aload_n 1, 1) := by decide +kernel
theorem dX3_read_41 : decode cX3_read 41 = .ok (.invokevirtual 32, 3) := by decide +kernel
theorem dX3_read_44 : decode cX3_read 44 = .ok (.aload_n 1, 1) := by decide +kernel
theorem dX3_read_45 : decode cX3_read 45 = .ok (.getfield 35, 3) := by decide +kernel
theorem dX3_read_48 : decode cX3_read 48 = .ok (.ireturn, 1) := by decide +kernel
def X3_read_L13 (l0 : Nat) (k40 : Mm → Rs) : Nat → Int → Mm → Rs
  | 0, _, _ => none
  | n + 1, l2, μ => if 8 ≤ l2 then (k40 μ) else (bd (X4_take 44 μ) fun v6 μ7 => if v6 = 0 then (k40 μ7) else (bd (X3_readCue l0 l2 μ7) fun v10 μ11 => X3_read_L13 l0 k40 n (iA l2 1) μ11))
def X3_read (l0 : Nat) (μ : Mm) : Rs := sF μ l0 2 0 fun μ1 => bd (X3_readCue l0 0 μ1) fun v2 μ3 => X3_read_L13 l0 (fun μ13 => bd (X4_needEnd μ13) fun v14 μ15 => some (μ15 3 2, μ15)) FU 1 μ3
set_option maxHeartbeats 4000000 in
set_option maxRecDepth 100000 in
theorem kX3_read_L13 (d : Nat) (hd : 4 ≤ d) {l0 : Nat} (hk0 : kD l0 = (13, 3)) {k40 : Mm → Rs} {r : Int} {μ' : Mm} (hk_40 : ∀ (μ1 : Mm), k40 μ1 = some (r, μ') → VV d mX3_read 40 [none, some (vR 3), none] [] μ1 r μ') : ∀ (n : Nat) {l2 : Int} {μ : Mm}, X3_read_L13 l0 k40 n l2 μ = some (r, μ') → VV d mX3_read 13 [some (vR l0), some (vR 3), some (vI l2)] [] μ r μ' := by
  intro n
  induction n with
  | zero => intro l2 μ h; rw [X3_read_L13] at h; cases h
  | succ n ih =>
    intro l2 μ h
    rw [X3_read_L13] at h
    refine V_iload_n (q := 14) dX3_read_13 rfl rfl rfl ?_
    refine V_bipush (q := 16) dX3_read_14 rfl rfl rfl ?_
    refine V_icmpge (q := 40) (q2 := 19) dX3_read_16 (by decide) rfl (fun hc5 => ?_) (fun hc5 => ?_)
    · have h := ifT hc5 h
      exact V_weak (hk_40 _ h) (sb_n (sb_s rfl (sb_n sb_0)))
    · have h := ifF hc5 h
      refine V_aload_n (q := 20) dX3_read_19 rfl rfl rfl ?_
      refine V_bipush (q := 22) dX3_read_20 rfl rfl rfl ?_
      obtain ⟨v6, μ7, hc8, h⟩ := bd_i h
      refine V_cV1 (q := 25) (v := vI v6) (kX4_take (d - 1) (by omega) hc8) (by omega) mv_X3_26 rfl rfl rfl rfl rfl rfl dX3_read_22 rfl ?_
      refine V_ifeq (q := 40) (q2 := 28) dX3_read_25 (by decide) rfl (fun hc9 => ?_) (fun hc9 => ?_)
      · have h := ifT hc9 h
        exact V_weak (hk_40 _ h) (sb_n (sb_s rfl (sb_n sb_0)))
      · have h := ifF hc9 h
        refine V_aload_n (q := 29) dX3_read_28 rfl rfl rfl ?_
        refine V_aload_n (q := 30) dX3_read_29 rfl rfl rfl ?_
        refine V_iload_n (q := 31) dX3_read_30 rfl rfl rfl ?_
        obtain ⟨v10, μ11, hc12, h⟩ := bd_i h
        refine V_cV0 (q := 34) (kX3_readCue (d - 1) (by omega) hk0 hc12) (by omega) mv_X3_22 hk0 rfl rfl rfl rfl rfl dX3_read_31 rfl ?_
        refine V_iinc (q := 37) dX3_read_34 rfl (Nat.le_of_ble_eq_true rfl) trivial rfl ?_
        refine V_goto (q := 13) dX3_read_37 (by decide) ?_
        exact V_weak (ih h) (sb_s rfl (sb_s rfl (sb_s rfl sb_0)))
set_option maxHeartbeats 4000000 in
set_option maxRecDepth 100000 in
theorem kX3_read (d : Nat) (hd : 4 ≤ d) {l0 : Nat} (hk0 : kD l0 = (13, 3)) {μ : Mm} {r : Int} {μ' : Mm} (h : X3_read l0 μ = some (r, μ')) : CC d mX3_read [vR l0, vR 3] μ r μ' := by
  unfold X3_read at h
  refine V_enter (by decide) (Nat.le_of_ble_eq_true rfl) ?_
  show VV d mX3_read 0 [some (vR l0), some (vR 3), none] [] μ r μ'
  refine V_aload_n (q := 1) dX3_read_0 rfl rfl rfl ?_
  refine V_iconst (q := 2) dX3_read_1 rfl rfl ?_
  have h := sF_i h
  refine V_putI (q := 5) fl_X3_18 hk0 rfl rfl dX3_read_2 rfl ?_
  refine V_aload_n (q := 6) dX3_read_5 rfl rfl rfl ?_
  refine V_aload_n (q := 7) dX3_read_6 rfl rfl rfl ?_
  refine V_iconst (q := 8) dX3_read_7 rfl rfl ?_
  obtain ⟨v2, μ3, hc4, h⟩ := bd_i h
  refine V_cV0 (q := 11) (kX3_readCue (d - 1) (by omega) hk0 hc4) (by omega) mv_X3_22 hk0 rfl rfl rfl rfl rfl dX3_read_8 rfl ?_
  refine V_iconst (q := 12) dX3_read_11 rfl rfl ?_
  refine V_istore_n (q := 13) dX3_read_12 rfl (Nat.le_of_ble_eq_true rfl) trivial rfl ?_
  refine V_weak (kX3_read_L13 d hd hk0 (fun μ13 h => ?_) FU h) (sb_s rfl (sb_s rfl (sb_s rfl sb_0)))
  refine V_aload_n (q := 41) dX3_read_40 rfl rfl rfl ?_
  obtain ⟨v14, μ15, hc16, h⟩ := bd_i h
  refine V_cV0 (q := 44) (kX4_needEnd (d - 1) (by omega) hc16) (by omega) mv_X3_32 rfl rfl rfl rfl rfl rfl dX3_read_41 rfl ?_
  refine V_aload_n (q := 45) dX3_read_44 rfl rfl rfl ?_
  refine V_getI (q := 48) fl_X3_35 rfl rfl rfl dX3_read_45 rfl ?_
  exact V_iret rfl h dX3_read_48
abbrev mX5_takeOrder : Mth := (yX5_takeOrder, cX5_takeOrder, 7, some .boolean)
theorem mi_X5_takeOrder : Cond.instanceMethod yX5_takeOrder ∈ tG ∧ Cond.selects yX5_takeOrder.cls yX5_takeOrder yX5_takeOrder ∈ tG ∧ Cond.initialized yX5_takeOrder.cls ∈ tG ∧ Cond.code yX5_takeOrder cX5_takeOrder 7 (some .boolean) ∈ tG ∧ (yX5_takeOrder.cls ≠ "java/lang/invoke/MethodHandle" ∧ yX5_takeOrder.cls ≠ "java/lang/invoke/VarHandle" ∧ (parseMethodDescriptor yX5_takeOrder.desc).map (fun d => d.parameters.length) = some 2) ∧ 7 ≤ 60 := ⟨(tG_of (List.mem_of_getElem? (i := 828) (by decide +kernel)) (by decide +kernel)), (tG_of (List.mem_of_getElem? (i := 829) (by decide +kernel)) (by decide +kernel)), (tG_of (List.mem_of_getElem? (i := 109) (by decide +kernel)) (by decide +kernel)), (tG_of (List.mem_of_getElem? (i := 830) (by decide +kernel)) (by decide +kernel)), ⟨by decide, by decide, by decide +kernel⟩, by decide⟩
theorem mv_X10_291 : mV RX10 291 mX5_takeOrder 2 := ⟨(tG_of (List.mem_of_getElem? (i := 827) (by decide +kernel)) (by decide +kernel)), mi_X5_takeOrder⟩
theorem dX5_takeOrder_0 : decode cX5_takeOrder 0 = .ok (.iload_n 1, 1) := by decide +kernel
theorem dX5_takeOrder_1 : decode cX5_takeOrder 1 = .ok (.istore_n 3, 1) := by decide +kernel
theorem dX5_takeOrder_2 : decode cX5_takeOrder 2 = .ok (.iconst 0, 1) := by decide +kernel
theorem dX5_takeOrder_3 : decode cX5_takeOrder 3 = .ok (.istore 4, 2) := by decide +kernel
theorem dX5_takeOrder_5 : decode cX5_takeOrder 5 = .ok (.aload_n 0, 1) := by decide +kernel
theorem dX5_takeOrder_6 : decode cX5_takeOrder 6 = .ok (.iload_n 2, 1) := by decide +kernel
theorem dX5_takeOrder_7 : decode cX5_takeOrder 7 = .ok (.putfield 21, 3) := by decide +kernel
theorem dX5_takeOrder_10 : decode cX5_takeOrder 10 = .ok (.iload_n 2, 1) := by decide +kernel
theorem dX5_takeOrder_11 : decode cX5_takeOrder 11 = .ok (.iconst 1, 1) := by decide +kernel
theorem dX5_takeOrder_12 : decode cX5_takeOrder 12 = .ok (.isub, 1) := by decide +kernel
theorem dX5_takeOrder_13 : decode cX5_takeOrder 13 = .ok (.istore 5, 2) := by decide +kernel
theorem dX5_takeOrder_15 : decode cX5_takeOrder 15 = .ok (.iload 5, 2) := by decide +kernel
theorem dX5_takeOrder_17 : decode cX5_takeOrder 17 = .ok (.ifCond .lt 69, 3) := by decide +kernel
theorem dX5_takeOrder_20 : decode cX5_takeOrder 20 = .ok (.iload 5, 2) := by decide +kernel
theorem dX5_takeOrder_22 : decode cX5_takeOrder 22 = .ok (.bipush 8, 2) := by decide +kernel
theorem dX5_takeOrder_24 : decode cX5_takeOrder 24 = .ok (.if_icmp .ge 62, 3) := by decide +kernel
theorem dX5_takeOrder_27 : decode cX5_takeOrder 27 = .ok (.iload_n 3, 1) := by decide +kernel
theorem dX5_takeOrder_28 : decode cX5_takeOrder 28 = .ok (.bipush 10, 2) := by decide +kernel
theorem dX5_takeOrder_30 : decode cX5_takeOrder 30 = .ok (.irem, 1) := by decide +kernel
theorem dX5_takeOrder_31 : decode cX5_takeOrder 31 = .ok (.istore 6, 2) := by decide +kernel
theorem dX5_takeOrder_33 : decode cX5_takeOrder 33 = .ok (.iload_n 3, 1) := by decide +kernel
theorem dX5_takeOrder_34 : decode cX5_takeOrder 34 = .ok (.bipush 10, 2) := by decide +kernel
theorem dX5_takeOrder_36 : decode cX5_takeOrder 36 = .ok (.idiv, 1) := by decide +kernel
theorem dX5_takeOrder_37 : decode cX5_takeOrder 37 = .ok (.istore_n 3, 1) := by decide +kernel
theorem dX5_takeOrder_38 : decode cX5_takeOrder 38 = .ok (.iload 6, 2) := by decide +kernel
theorem dX5_takeOrder_40 : decode cX5_takeOrder 40 = .ok (.ifCond .lt 20, 3) := by decide +kernel
theorem dX5_takeOrder_43 : decode cX5_takeOrder 43 = .ok (.iload 6, 2) := by decide +kernel
theorem dX5_takeOrder_45 : decode cX5_takeOrder 45 = .ok (.iload_n 2, 1) := by decide +kernel
theorem dX5_takeOrder_46 : decode cX5_takeOrder 46 = .ok (.if_icmp .ge 14, 3) := by decide +kernel
theorem dX5_takeOrder_49 : decode cX5_takeOrder 49 = .ok (.iload 4, 2) := by decide +kernel
theorem dX5_takeOrder_51 : decode cX5_takeOrder 51 = .ok (.iload 6, 2) := by decide +kernel
theorem dX5_takeOrder_53 : decode cX5_takeOrder 53 = .ok (.ishr, 1) := by decide +kernel
theorem dX5_takeOrder_54 : decode cX5_takeOrder 54 = .ok (.iconst 1, 1) := by decide +kernel
theorem dX5_takeOrder_55 : decode cX5_takeOrder 55 = .ok (.iand, 1) := by decide +kernel
theorem dX5_takeOrder_56 : decode cX5_takeOrder 56 = .ok (.iconst 1, 1) := by decide +kernel
theorem dX5_takeOrder_57 : decode cX5_takeOrder 57 = .ok (.if_icmp .ne 5, 3) := by decide +kernel
theorem dX5_takeOrder_60 : decode cX5_takeOrder 60 = .ok (.iconst 0, 1) := by decide +kernel
theorem dX5_takeOrder_61 : decode cX5_takeOrder 61 = .ok (.ireturn, 1) := by decide +kernel
theorem dX5_takeOrder_62 : decode cX5_takeOrder 62 = .ok (.iload 4, 2) := by decide +kernel
theorem dX5_takeOrder_64 : decode cX5_takeOrder 64 = .ok (.iconst 1, 1) := by decide +kernel
theorem dX5_takeOrder_65 : decode cX5_takeOrder 65 = .ok (.iload 6, 2) := by decide +kernel
theorem dX5_takeOrder_67 : decode cX5_takeOrder 67 = .ok (.ishl, 1) := by decide +kernel
theorem dX5_takeOrder_68 : decode cX5_takeOrder 68 = .ok (.ior, 1) := by decide +kernel
theorem dX5_takeOrder_69 : decode cX5_takeOrder 69 = .ok (.istore 4, 2) := by decide +kernel
theorem dX5_takeOrder_71 : decode cX5_takeOrder 71 = .ok (.aload_n 0, 1) := by decide +kernel
theorem dX5_takeOrder_72 : decode cX5_takeOrder 72 = .ok (.getfield 9, 3) := by decide +kernel
theorem dX5_takeOrder_75 : decode cX5_takeOrder 75 = .ok (.iload 5, 2) := by decide +kernel
theorem dX5_takeOrder_77 : decode cX5_takeOrder 77 = .ok (.iload 6, 2) := by decide +kernel
theorem dX5_takeOrder_79 : decode cX5_takeOrder 79 = .ok (.iastore, 1) := by decide +kernel
theorem dX5_takeOrder_80 : decode cX5_takeOrder 80 = .ok (.iinc 5 (-1), 3) := by decide +kernel
theorem dX5_takeOrder_83 : decode cX5_takeOrder 83 = .ok (.goto (-68), 3) := by decide +kernel
theorem dX5_takeOrder_86 : decode cX5_takeOrder 86 = .ok (.iload_n 3, 1) := by decide +kernel
theorem dX5_takeOrder_87 : decode cX5_takeOrder 87 = .ok (.ifCond .ne 7, 3) := by decide +kernel
theorem dX5_takeOrder_90 : decode cX5_takeOrder 90 = .ok (.iconst 1, 1) := by decide +kernel
theorem dX5_takeOrder_91 : decode cX5_takeOrder 91 = .ok (.goto 4, 3) := by decide +kernel
theorem dX5_takeOrder_94 : decode cX5_takeOrder 94 = .ok (.iconst 0, 1) := by decide +kernel
theorem dX5_takeOrder_95 : decode cX5_takeOrder 95 = .ok (.ireturn, 1) := by decide +kernel
def X5_takeOrder_L15 (l2 : Int) (k86 : Int → Mm → Rs) : Nat → Int → Int → Int → Mm → Rs
  | 0, _, _, _, _ => none
  | n + 1, l3, l4, l5, μ => if l5 < 0 then (k86 l3 μ) else (if 8 ≤ l5 then (k86 l3 μ) else (if (iR l3 10) < 0 then (some (0, μ)) else (if l2 ≤ (iR l3 10) then (some (0, μ)) else (if (bA (bR l4 (iR l3 10)) 1) = 1 then (some (0, μ)) else (lt_ (bO l4 (bL 1 (iR l3 10))) fun v7 => stA μ 59 l5 (iR l3 10) fun μ8 => X5_takeOrder_L15 l2 k86 n (iD l3 10) v7 (iA l5 (-1)) μ8)))))
def X5_takeOrder (l1 : Int) (l2 : Int) (μ : Mm) : Rs := sF μ 58 3 l2 fun μ1 => X5_takeOrder_L15 l2 (fun v10 μ11 => if v10 = 0 then (some (1, μ11)) else (some (0, μ11))) FU l1 0 (iS l2 1) μ1
set_option maxHeartbeats 4000000 in
set_option maxRecDepth 100000 in
theorem kX5_takeOrder_L15 (d : Nat) (hd : 1 ≤ d) {l2 : Int} {k86 : Int → Mm → Rs} {r : Int} {μ' : Mm} (hk_86 : ∀ (v3 : Int) (μ1 : Mm), k86 v3 μ1 = some (r, μ') → VV d mX5_takeOrder 86 [none, none, none, some (vI v3), none, none, none] [] μ1 r μ') : ∀ (n : Nat) {l3 l4 l5 : Int} {μ : Mm}, X5_takeOrder_L15 l2 k86 n l3 l4 l5 μ = some (r, μ') → VV d mX5_takeOrder 15 [some (vR 58), none, some (vI l2), some (vI l3), some (vI l4), some (vI l5), none] [] μ r μ' := by
  intro n
  induction n with
  | zero => intro l3 l4 l5 μ h; rw [X5_takeOrder_L15] at h; cases h
  | succ n ih =>
    intro l3 l4 l5 μ h
    rw [X5_takeOrder_L15] at h
    refine V_iload (q := 17) dX5_takeOrder_15 rfl rfl ?_
    refine V_iflt (q := 86) (q2 := 20) dX5_takeOrder_17 (by decide) rfl (fun hc2 => ?_) (fun hc2 => ?_)
    · have h := ifT hc2 h
      exact V_weak (hk_86 _ _ h) (sb_n (sb_n (sb_n (sb_s rfl (sb_n (sb_n (sb_n sb_0)))))))
    · have h := ifF hc2 h
      refine V_iload (q := 22) dX5_takeOrder_20 rfl rfl ?_
      refine V_bipush (q := 24) dX5_takeOrder_22 rfl rfl rfl ?_
      refine V_icmpge (q := 86) (q2 := 27) dX5_takeOrder_24 (by decide) rfl (fun hc3 => ?_) (fun hc3 => ?_)
      · have h := ifT hc3 h
        exact V_weak (hk_86 _ _ h) (sb_n (sb_n (sb_n (sb_s rfl (sb_n (sb_n (sb_n sb_0)))))))
      · have h := ifF hc3 h
        refine V_iload_n (q := 28) dX5_takeOrder_27 rfl rfl rfl ?_
        refine V_bipush (q := 30) dX5_takeOrder_28 rfl rfl rfl ?_
        refine V_irem (q := 31) dX5_takeOrder_30 (by decide) rfl ?_
        refine V_istore (q := 33) dX5_takeOrder_31 (Nat.le_of_ble_eq_true rfl) trivial rfl ?_
        refine V_iload_n (q := 34) dX5_takeOrder_33 rfl rfl rfl ?_
        refine V_bipush (q := 36) dX5_takeOrder_34 rfl rfl rfl ?_
        refine V_idiv (q := 37) dX5_takeOrder_36 (by decide) rfl ?_
        refine V_istore_n (q := 38) dX5_takeOrder_37 rfl (Nat.le_of_ble_eq_true rfl) trivial rfl ?_
        refine V_iload (q := 40) dX5_takeOrder_38 rfl rfl ?_
        refine V_iflt (q := 60) (q2 := 43) dX5_takeOrder_40 (by decide) rfl (fun hc4 => ?_) (fun hc4 => ?_)
        · have h := ifT hc4 h
          refine V_iconst (q := 61) dX5_takeOrder_60 rfl rfl ?_
          exact V_zret rfl (Or.inl rfl) h dX5_takeOrder_61
        · have h := ifF hc4 h
          refine V_iload (q := 45) dX5_takeOrder_43 rfl rfl ?_
          refine V_iload_n (q := 46) dX5_takeOrder_45 rfl rfl rfl ?_
          refine V_icmpge (q := 60) (q2 := 49) dX5_takeOrder_46 (by decide) rfl (fun hc5 => ?_) (fun hc5 => ?_)
          · have h := ifT hc5 h
            refine V_iconst (q := 61) dX5_takeOrder_60 rfl rfl ?_
            exact V_zret rfl (Or.inl rfl) h dX5_takeOrder_61
          · have h := ifF hc5 h
            refine V_iload (q := 51) dX5_takeOrder_49 rfl rfl ?_
            refine V_iload (q := 53) dX5_takeOrder_51 rfl rfl ?_
            refine V_ishr (q := 54) dX5_takeOrder_53 rfl ?_
            refine V_iconst (q := 55) dX5_takeOrder_54 rfl rfl ?_
            refine V_iand (q := 56) dX5_takeOrder_55 rfl ?_
            refine V_iconst (q := 57) dX5_takeOrder_56 rfl rfl ?_
            refine V_icmpne (q := 62) (q2 := 60) dX5_takeOrder_57 (by decide) rfl (fun hc6 => ?_) (fun hc6 => ?_)
            · have h := ifF hc6 h
              refine V_iload (q := 64) dX5_takeOrder_62 rfl rfl ?_
              refine V_iconst (q := 65) dX5_takeOrder_64 rfl rfl ?_
              refine V_iload (q := 67) dX5_takeOrder_65 rfl rfl ?_
              refine V_ishl (q := 68) dX5_takeOrder_67 rfl ?_
              refine V_ior (q := 69) dX5_takeOrder_68 rfl ?_
              have h := lt_i h
              refine V_istore (q := 71) dX5_takeOrder_69 (Nat.le_of_ble_eq_true rfl) trivial rfl ?_
              refine V_aload_n (q := 72) dX5_takeOrder_71 rfl rfl rfl ?_
              refine V_getO (q := 75) (t := 59) fl_X5_9 rfl rfl rfl rfl dX5_takeOrder_72 rfl ?_
              refine V_iload (q := 77) dX5_takeOrder_75 rfl rfl ?_
              refine V_iload (q := 79) dX5_takeOrder_77 rfl rfl ?_
              obtain ⟨hi9, h⟩ := stA_i h
              refine V_iastore (q := 80) rfl hi9 dX5_takeOrder_79 rfl ?_
              refine V_iinc (q := 83) dX5_takeOrder_80 rfl (Nat.le_of_ble_eq_true rfl) trivial rfl ?_
              refine V_goto (q := 15) dX5_takeOrder_83 (by decide) ?_
              exact V_weak (ih h) (sb_s rfl (sb_n (sb_s rfl (sb_s rfl (sb_s rfl (sb_s rfl (sb_n sb_0)))))))
            · have h := ifT hc6 h
              refine V_iconst (q := 61) dX5_takeOrder_60 rfl rfl ?_
              exact V_zret rfl (Or.inl rfl) h dX5_takeOrder_61
set_option maxHeartbeats 4000000 in
set_option maxRecDepth 100000 in
theorem kX5_takeOrder (d : Nat) (hd : 1 ≤ d) {l1 : Int} {l2 : Int} {μ : Mm} {r : Int} {μ' : Mm} (h : X5_takeOrder l1 l2 μ = some (r, μ')) : CC d mX5_takeOrder [vR 58, vI l1, vI l2] μ r μ' := by
  unfold X5_takeOrder at h
  refine V_enter (by decide) (Nat.le_of_ble_eq_true rfl) ?_
  show VV d mX5_takeOrder 0 [some (vR 58), some (vI l1), some (vI l2), none, none, none, none] [] μ r μ'
  refine V_iload_n (q := 1) dX5_takeOrder_0 rfl rfl rfl ?_
  refine V_istore_n (q := 2) dX5_takeOrder_1 rfl (Nat.le_of_ble_eq_true rfl) trivial rfl ?_
  refine V_iconst (q := 3) dX5_takeOrder_2 rfl rfl ?_
  refine V_istore (q := 5) dX5_takeOrder_3 (Nat.le_of_ble_eq_true rfl) trivial rfl ?_
  refine V_aload_n (q := 6) dX5_takeOrder_5 rfl rfl rfl ?_
  refine V_iload_n (q := 7) dX5_takeOrder_6 rfl rfl rfl ?_
  have h := sF_i h
  refine V_putI (q := 10) fl_X5_21 rfl rfl rfl dX5_takeOrder_7 rfl ?_
  refine V_iload_n (q := 11) dX5_takeOrder_10 rfl rfl rfl ?_
  refine V_iconst (q := 12) dX5_takeOrder_11 rfl rfl ?_
  refine V_isub (q := 13) dX5_takeOrder_12 rfl ?_
  refine V_istore (q := 15) dX5_takeOrder_13 (Nat.le_of_ble_eq_true rfl) trivial rfl ?_
  refine V_weak (kX5_takeOrder_L15 d hd (fun v10 μ11 h => ?_) FU h) (sb_s rfl (sb_n (sb_s rfl (sb_s rfl (sb_s rfl (sb_s rfl (sb_n sb_0)))))))
  refine V_iload_n (q := 87) dX5_takeOrder_86 rfl rfl rfl ?_
  refine V_ifne (q := 94) (q2 := 90) dX5_takeOrder_87 (by decide) rfl (fun hc12 => ?_) (fun hc12 => ?_)
  · have h := ifF hc12 h
    refine V_iconst (q := 95) dX5_takeOrder_94 rfl rfl ?_
    exact V_zret rfl (Or.inl rfl) h dX5_takeOrder_95
  · have h := ifT hc12 h
    refine V_iconst (q := 91) dX5_takeOrder_90 rfl rfl ?_
    refine V_goto (q := 95) dX5_takeOrder_91 (by decide) ?_
    exact V_zret rfl (Or.inr rfl) h dX5_takeOrder_95
abbrev mX5_takeBook : Mth := (yX5_takeBook, cX5_takeBook, 4, none)
theorem mi_X5_takeBook : Cond.instanceMethod yX5_takeBook ∈ tG ∧ Cond.selects yX5_takeBook.cls yX5_takeBook yX5_takeBook ∈ tG ∧ Cond.initialized yX5_takeBook.cls ∈ tG ∧ Cond.code yX5_takeBook cX5_takeBook 4 (none) ∈ tG ∧ (yX5_takeBook.cls ≠ "java/lang/invoke/MethodHandle" ∧ yX5_takeBook.cls ≠ "java/lang/invoke/VarHandle" ∧ (parseMethodDescriptor yX5_takeBook.desc).map (fun d => d.parameters.length) = some 2) ∧ 4 ≤ 60 := ⟨(tG_of (List.mem_of_getElem? (i := 940) (by decide +kernel)) (by decide +kernel)), (tG_of (List.mem_of_getElem? (i := 941) (by decide +kernel)) (by decide +kernel)), (tG_of (List.mem_of_getElem? (i := 109) (by decide +kernel)) (by decide +kernel)), (tG_of (List.mem_of_getElem? (i := 942) (by decide +kernel)) (by decide +kernel)), ⟨by decide, by decide, by decide +kernel⟩, by decide⟩
theorem mv_X10_298 : mV RX10 298 mX5_takeBook 2 := ⟨(tG_of (List.mem_of_getElem? (i := 939) (by decide +kernel)) (by decide +kernel)), mi_X5_takeBook⟩
theorem dX5_takeBook_0 : decode cX5_takeBook 0 = .ok (.aload_n 0, 1) := by decide +kernel
theorem dX5_takeBook_1 : decode cX5_takeBook 1 = .ok (.iconst 0, 1) := by decide +kernel
theorem dX5_takeBook_2 : decode cX5_takeBook 2 = .ok (.putfield 21, 3) := by decide +kernel
theorem dX5_takeBook_5 : decode cX5_takeBook 5 = .ok (.iconst 0, 1) := by decide +kernel
theorem dX5_takeBook_6 : decode cX5_takeBook 6 = .ok (.istore_n 3, 1) := by decide +kernel
theorem dX5_takeBook_7 : decode cX5_takeBook 7 = .ok (.iload_n 3, 1) := by decide +kernel
theorem dX5_takeBook_8 : decode cX5_takeBook 8 = .ok (.iload_n 2, 1) := by decide +kernel
theorem dX5_takeBook_9 : decode cX5_takeBook 9 = .ok (.if_icmp .ge 53, 3) := by decide +kernel
theorem dX5_takeBook_12 : decode cX5_takeBook 12 = .ok (.iload_n 3, 1) := by decide +kernel
theorem dX5_takeBook_13 : decode cX5_takeBook 13 = .ok (.bipush 8, 2) := by decide +kernel
theorem dX5_takeBook_15 : decode cX5_takeBook 15 = .ok (.if_icmp .ge 47, 3) := by decide +kernel
theorem dX5_takeBook_18 : decode cX5_takeBook 18 = .ok (.iload_n 1, 1) := by decide +kernel
theorem dX5_takeBook_19 : decode cX5_takeBook 19 = .ok (.iload_n 3, 1) := by decide +kernel
theorem dX5_takeBook_20 : decode cX5_takeBook 20 = .ok (.ishr, 1) := by decide +kernel
theorem dX5_takeBook_21 : decode cX5_takeBook 21 = .ok (.iconst 1, 1) := by decide +kernel
theorem dX5_takeBook_22 : decode cX5_takeBook 22 = .ok (.iand, 1) := by decide +kernel
theorem dX5_takeBook_23 : decode cX5_takeBook 23 = .ok (.iconst 1, 1) := by decide +kernel
theorem dX5_takeBook_24 : decode cX5_takeBook 24 = .ok (.if_icmp .ne 32, 3) := by decide +kernel
theorem dX5_takeBook_27 : decode cX5_takeBook 27 = .ok (.aload_n 0, 1) := by decide +kernel
theorem dX5_takeBook_28 : decode cX5_takeBook 28 = .ok (.getfield 21, 3) := by decide +kernel
theorem dX5_takeBook_31 : decode cX5_takeBook 31 = .ok (.bipush 8, 2) := by decide +kernel
theorem dX5_takeBook_33 : decode cX5_takeBook 33 = .ok (.if_icmp .ge 23, 3) := by decide +kernel
theorem dX5_takeBook_36 : decode cX5_takeBook 36 = .ok (.aload_n 0, 1) := by decide +kernel
theorem dX5_takeBook_37 : decode cX5_takeBook 37 = .ok (.getfield 9, 3) := by decide +kernel
theorem dX5_takeBook_40 : decode cX5_takeBook 40 = .ok (.aload_n 0, 1) := by decide +kernel
theorem dX5_takeBook_41 : decode cX5_takeBook 41 = .ok (.getfield 21, 3) := by decide +kernel
theorem dX5_takeBook_44 : decode cX5_takeBook 44 = .ok (.iload_n 3, 1) := by decide +kernel
theorem dX5_takeBook_45 : decode cX5_takeBook 45 = .ok (.iastore, 1) := by decide +kernel
theorem dX5_takeBook_46 : decode cX5_takeBook 46 = .ok (.aload_n 0, 1) := by decide +kernel
theorem dX5_takeBook_47 : decode cX5_takeBook 47 = .ok (.dup, 1) := by decide +kernel
theorem dX5_takeBook_48 : decode cX5_takeBook 48 = .ok (.getfield 21, 3) := by decide +kernel
theorem dX5_takeBook_51 : decode cX5_takeBook 51 = .ok (.iconst 1, 1) := by decide +kernel
theorem dX5_takeBook_52 : decode cX5_takeBook 52 = .ok (.iadd, 1) := by decide +kernel
theorem dX5_takeBook_53 : decode cX5_takeBook 53 = .ok (.putfield 21, 3) := by decide +kernel
theorem dX5_takeBook_56 : decode cX5_takeBook 56 = .ok (.iinc 3 1, 3) := by decide +kernel
theorem dX5_takeBook_59 : decode cX5_takeBook 59 = .ok (.goto (-52), 3) := by decide +kernel
theorem dX5_takeBook_62 : decode cX5_takeBook 62 = .ok (.return_, 1) := by decide +kernel
def X5_takeBook_L7 (l1 : Int) (l2 : Int) : Nat → Int → Mm → Rs
  | 0, _, _ => none
  | n + 1, l3, μ => if l2 ≤ l3 then (some (0, μ)) else (if 8 ≤ l3 then (some (0, μ)) else (if (bA (bR l1 l3) 1) = 1 then (if 8 ≤ (μ 58 3) then (X5_takeBook_L7 l1 l2 n (iA l3 1) μ) else (stA μ 59 (μ 58 3) l3 fun μ6 => sF μ6 58 3 (iA (μ6 58 3) 1) fun μ8 => X5_takeBook_L7 l1 l2 n (iA l3 1) μ8)) else (X5_takeBook_L7 l1 l2 n (iA l3 1) μ)))
def X5_takeBook (l1 : Int) (l2 : Int) (μ : Mm) : Rs := sF μ 58 3 0 fun μ1 => X5_takeBook_L7 l1 l2 FU 0 μ1
set_option maxHeartbeats 4000000 in
set_option maxRecDepth 100000 in
theorem kX5_takeBook_L7 (d : Nat) (hd : 1 ≤ d) {l1 : Int} {l2 : Int} {r : Int} {μ' : Mm} : ∀ (n : Nat) {l3 : Int} {μ : Mm}, X5_takeBook_L7 l1 l2 n l3 μ = some (r, μ') → VV d mX5_takeBook 7 [some (vR 58), some (vI l1), some (vI l2), some (vI l3)] [] μ r μ' := by
  intro n
  induction n with
  | zero => intro l3 μ h; rw [X5_takeBook_L7] at h; cases h
  | succ n ih =>
    intro l3 μ h
    rw [X5_takeBook_L7] at h
    refine V_iload_n (q := 8) dX5_takeBook_7 rfl rfl rfl ?_
    refine V_iload_n (q := 9) dX5_takeBook_8 rfl rfl rfl ?_
    refine V_icmpge (q := 62) (q2 := 12) dX5_takeBook_9 (by decide) rfl (fun hc2 => ?_) (fun hc2 => ?_)
    · have h := ifT hc2 h
      exact V_vret rfl h dX5_takeBook_62
    · have h := ifF hc2 h
      refine V_iload_n (q := 13) dX5_takeBook_12 rfl rfl rfl ?_
      refine V_bipush (q := 15) dX5_takeBook_13 rfl rfl rfl ?_
      refine V_icmpge (q := 62) (q2 := 18) dX5_takeBook_15 (by decide) rfl (fun hc3 => ?_) (fun hc3 => ?_)
      · have h := ifT hc3 h
        exact V_vret rfl h dX5_takeBook_62
      · have h := ifF hc3 h
        refine V_iload_n (q := 19) dX5_takeBook_18 rfl rfl rfl ?_
        refine V_iload_n (q := 20) dX5_takeBook_19 rfl rfl rfl ?_
        refine V_ishr (q := 21) dX5_takeBook_20 rfl ?_
        refine V_iconst (q := 22) dX5_takeBook_21 rfl rfl ?_
        refine V_iand (q := 23) dX5_takeBook_22 rfl ?_
        refine V_iconst (q := 24) dX5_takeBook_23 rfl rfl ?_
        refine V_icmpne (q := 56) (q2 := 27) dX5_takeBook_24 (by decide) rfl (fun hc4 => ?_) (fun hc4 => ?_)
        · have h := ifF hc4 h
          refine V_iinc (q := 59) dX5_takeBook_56 rfl (Nat.le_of_ble_eq_true rfl) trivial rfl ?_
          refine V_goto (q := 7) dX5_takeBook_59 (by decide) ?_
          exact V_weak (ih h) (sb_s rfl (sb_s rfl (sb_s rfl (sb_s rfl sb_0))))
        · have h := ifT hc4 h
          refine V_aload_n (q := 28) dX5_takeBook_27 rfl rfl rfl ?_
          refine V_getI (q := 31) fl_X5_21 rfl rfl rfl dX5_takeBook_28 rfl ?_
          refine V_bipush (q := 33) dX5_takeBook_31 rfl rfl rfl ?_
          refine V_icmpge (q := 56) (q2 := 36) dX5_takeBook_33 (by decide) rfl (fun hc5 => ?_) (fun hc5 => ?_)
          · have h := ifT hc5 h
            refine V_iinc (q := 59) dX5_takeBook_56 rfl (Nat.le_of_ble_eq_true rfl) trivial rfl ?_
            refine V_goto (q := 7) dX5_takeBook_59 (by decide) ?_
            exact V_weak (ih h) (sb_s rfl (sb_s rfl (sb_s rfl (sb_s rfl sb_0))))
          · have h := ifF hc5 h
            refine V_aload_n (q := 37) dX5_takeBook_36 rfl rfl rfl ?_
            refine V_getO (q := 40) (t := 59) fl_X5_9 rfl rfl rfl rfl dX5_takeBook_37 rfl ?_
            refine V_aload_n (q := 41) dX5_takeBook_40 rfl rfl rfl ?_
            refine V_getI (q := 44) fl_X5_21 rfl rfl rfl dX5_takeBook_41 rfl ?_
            refine V_iload_n (q := 45) dX5_takeBook_44 rfl rfl rfl ?_
            obtain ⟨hi7, h⟩ := stA_i h
            refine V_iastore (q := 46) rfl hi7 dX5_takeBook_45 rfl ?_
            refine V_aload_n (q := 47) dX5_takeBook_46 rfl rfl rfl ?_
            refine V_dup (q := 48) dX5_takeBook_47 trivial rfl ?_
            refine V_getI (q := 51) fl_X5_21 rfl rfl rfl dX5_takeBook_48 rfl ?_
            refine V_iconst (q := 52) dX5_takeBook_51 rfl rfl ?_
            refine V_iadd (q := 53) dX5_takeBook_52 rfl ?_
            have h := sF_i h
            refine V_putI (q := 56) fl_X5_21 rfl rfl rfl dX5_takeBook_53 rfl ?_
            refine V_iinc (q := 59) dX5_takeBook_56 rfl (Nat.le_of_ble_eq_true rfl) trivial rfl ?_
            refine V_goto (q := 7) dX5_takeBook_59 (by decide) ?_
            exact V_weak (ih h) (sb_s rfl (sb_s rfl (sb_s rfl (sb_s rfl sb_0))))
set_option maxHeartbeats 4000000 in
set_option maxRecDepth 100000 in
theorem kX5_takeBook (d : Nat) (hd : 1 ≤ d) {l1 : Int} {l2 : Int} {μ : Mm} {r : Int} {μ' : Mm} (h : X5_takeBook l1 l2 μ = some (r, μ')) : CC d mX5_takeBook [vR 58, vI l1, vI l2] μ r μ' := by
  unfold X5_takeBook at h
  refine V_enter (by decide) (Nat.le_of_ble_eq_true rfl) ?_
  show VV d mX5_takeBook 0 [some (vR 58), some (vI l1), some (vI l2), none] [] μ r μ'
  refine V_aload_n (q := 1) dX5_takeBook_0 rfl rfl rfl ?_
  refine V_iconst (q := 2) dX5_takeBook_1 rfl rfl ?_
  have h := sF_i h
  refine V_putI (q := 5) fl_X5_21 rfl rfl rfl dX5_takeBook_2 rfl ?_
  refine V_iconst (q := 6) dX5_takeBook_5 rfl rfl ?_
  refine V_istore_n (q := 7) dX5_takeBook_6 rfl (Nat.le_of_ble_eq_true rfl) trivial rfl ?_
  exact V_weak (kX5_takeBook_L7 d hd  FU h) (sb_s rfl (sb_s rfl (sb_s rfl (sb_s rfl sb_0))))
abbrev mX5_addLate : Mth := (yX5_addLate, cX5_addLate, 2, none)
theorem mi_X5_addLate : Cond.instanceMethod yX5_addLate ∈ tG ∧ Cond.selects yX5_addLate.cls yX5_addLate yX5_addLate ∈ tG ∧ Cond.initialized yX5_addLate.cls ∈ tG ∧ Cond.code yX5_addLate cX5_addLate 2 (none) ∈ tG ∧ (yX5_addLate.cls ≠ "java/lang/invoke/MethodHandle" ∧ yX5_addLate.cls ≠ "java/lang/invoke/VarHandle" ∧ (parseMethodDescriptor yX5_addLate.desc).map (fun d => d.parameters.length) = some 1) ∧ 2 ≤ 60 := ⟨(tG_of (List.mem_of_getElem? (i := 856) (by decide +kernel)) (by decide +kernel)), (tG_of (List.mem_of_getElem? (i := 25) (by decide +kernel)) (by decide +kernel)), (tG_of (List.mem_of_getElem? (i := 109) (by decide +kernel)) (by decide +kernel)), (tG_of (List.mem_of_getElem? (i := 857) (by decide +kernel)) (by decide +kernel)), ⟨by decide, by decide, by decide +kernel⟩, by decide⟩
theorem mv_X5_60 : mV RX5 60 mX5_addLate 1 := ⟨(tG_of (List.mem_of_getElem? (i := 854) (by decide +kernel)) (by decide +kernel)), mi_X5_addLate⟩
theorem dX5_addLate_0 : decode cX5_addLate 0 = .ok (.aload_n 0, 1) := by decide +kernel
theorem dX5_addLate_1 : decode cX5_addLate 1 = .ok (.dup, 1) := by decide +kernel
theorem dX5_addLate_2 : decode cX5_addLate 2 = .ok (.getfield 27, 3) := by decide +kernel
theorem dX5_addLate_5 : decode cX5_addLate 5 = .ok (.iload_n 1, 1) := by decide +kernel
theorem dX5_addLate_6 : decode cX5_addLate 6 = .ok (.iadd, 1) := by decide +kernel
theorem dX5_addLate_7 : decode cX5_addLate 7 = .ok (.putfield 27, 3) := by decide +kernel
theorem dX5_addLate_10 : decode cX5_addLate 10 = .ok (.aload_n 0, 1) := by decide +kernel
theorem dX5_addLate_11 : decode cX5_addLate 11 = .ok (.aload_n 0, 1) := by decide +kernel
theorem dX5_addLate_12 : decode cX5_addLate 12 = .ok (.getfield 30, 3) := by decide +kernel
theorem dX5_addLate_15 : decode cX5_addLate 15 = .ok (.iload_n 1, 1) := by decide +kernel
theorem dX5_addLate_16 : decode cX5_addLate 16 = .ok (.invokestatic 64, 3) := by decide +kernel
theorem dX5_addLate_19 : decode cX5_addLate 19 = .ok (.putfield 30, 3) := by decide +kernel
theorem dX5_addLate_22 : decode cX5_addLate 22 = .ok (.iload_n 1, 1) := by decide +kernel
theorem dX5_addLate_23 : decode cX5_addLate 23 = .ok (.ifCond .le 13, 3) := by decide +kernel
theorem dX5_addLate_26 : decode cX5_addLate 26 = .ok (.aload_n 0, 1) := by decide +kernel
theorem dX5_addLate_27 : decode cX5_addLate 27 = .ok (.dup, 1) := by decide +kernel
theorem dX5_addLate_28 : decode cX5_addLate 28 = .ok (.getfield 33, 3) := by decide +kernel
theorem dX5_addLate_31 : decode cX5_addLate 31 = .ok (.iconst 1, 1) := by decide +kernel
theorem dX5_addLate_32 : decode cX5_addLate 32 = .ok (.iadd, 1) := by decide +kernel
theorem dX5_addLate_33 : decode cX5_addLate 33 = .ok (.putfield 33, 3) := by decide +kernel
theorem dX5_addLate_36 : decode cX5_addLate 36 = .ok (.return_, 1) := by decide +kernel
def X5_addLate (l1 : Int) (μ : Mm) : Rs := sF μ 58 4 (iA (μ 58 4) l1) fun μ1 => bd (J9_max_7cf53 (μ1 58 5) l1 μ1) fun v2 μ3 => sF μ3 58 5 v2 fun μ5 => if l1 ≤ 0 then (some (0, μ5)) else (sF μ5 58 6 (iA (μ5 58 6) 1) fun μ7 => some (0, μ7))
set_option maxHeartbeats 4000000 in
set_option maxRecDepth 100000 in
theorem kX5_addLate (d : Nat) (hd : 2 ≤ d) {l1 : Int} {μ : Mm} {r : Int} {μ' : Mm} (h : X5_addLate l1 μ = some (r, μ')) : CC d mX5_addLate [vR 58, vI l1] μ r μ' := by
  unfold X5_addLate at h
  refine V_enter (by decide) (Nat.le_of_ble_eq_true rfl) ?_
  show VV d mX5_addLate 0 [some (vR 58), some (vI l1)] [] μ r μ'
  refine V_aload_n (q := 1) dX5_addLate_0 rfl rfl rfl ?_
  refine V_dup (q := 2) dX5_addLate_1 trivial rfl ?_
  refine V_getI (q := 5) fl_X5_27 rfl rfl rfl dX5_addLate_2 rfl ?_
  refine V_iload_n (q := 6) dX5_addLate_5 rfl rfl rfl ?_
  refine V_iadd (q := 7) dX5_addLate_6 rfl ?_
  have h := sF_i h
  refine V_putI (q := 10) fl_X5_27 rfl rfl rfl dX5_addLate_7 rfl ?_
  refine V_aload_n (q := 11) dX5_addLate_10 rfl rfl rfl ?_
  refine V_aload_n (q := 12) dX5_addLate_11 rfl rfl rfl ?_
  refine V_getI (q := 15) fl_X5_30 rfl rfl rfl dX5_addLate_12 rfl ?_
  refine V_iload_n (q := 16) dX5_addLate_15 rfl rfl rfl ?_
  obtain ⟨v2, μ3, hc4, h⟩ := bd_i h
  refine V_cS1 (q := 19) (v := vI v2) (kJ9_max_7cf53 (d - 1) (by omega) hc4) (by omega) mv_X5_64 rfl rfl rfl rfl dX5_addLate_16 rfl ?_
  have h := sF_i h
  refine V_putI (q := 22) fl_X5_30 rfl rfl rfl dX5_addLate_19 rfl ?_
  refine V_iload_n (q := 23) dX5_addLate_22 rfl rfl rfl ?_
  refine V_ifle (q := 36) (q2 := 26) dX5_addLate_23 (by decide) rfl (fun hc6 => ?_) (fun hc6 => ?_)
  · have h := ifT hc6 h
    exact V_vret rfl h dX5_addLate_36
  · have h := ifF hc6 h
    refine V_aload_n (q := 27) dX5_addLate_26 rfl rfl rfl ?_
    refine V_dup (q := 28) dX5_addLate_27 trivial rfl ?_
    refine V_getI (q := 31) fl_X5_33 rfl rfl rfl dX5_addLate_28 rfl ?_
    refine V_iconst (q := 32) dX5_addLate_31 rfl rfl ?_
    refine V_iadd (q := 33) dX5_addLate_32 rfl ?_
    have h := sF_i h
    refine V_putI (q := 36) fl_X5_33 rfl rfl rfl dX5_addLate_33 rfl ?_
    exact V_vret rfl h dX5_addLate_36
