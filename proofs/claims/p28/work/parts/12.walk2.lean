abbrev mX4_need : Mth := (yX4_need, cX4_need, 2, none)
set_option maxRecDepth 100000 in
theorem mi_X4_need : Cond.instanceMethod yX4_need ∈ tG ∧ Cond.selects yX4_need.cls yX4_need yX4_need ∈ tG ∧ Cond.initialized yX4_need.cls ∈ tG ∧ Cond.code yX4_need cX4_need 2 (none) ∈ tG ∧ (yX4_need.cls ≠ "java/lang/invoke/MethodHandle" ∧ yX4_need.cls ≠ "java/lang/invoke/VarHandle" ∧ (parseMethodDescriptor yX4_need.desc).map (fun d => d.parameters.length) = some 1) ∧ 2 ≤ 60 := ⟨(tG_of (tb3 (List.mem_of_getElem? (i := 6) rfl)) (by decide +kernel)), (tG_of (tb3 (List.mem_of_getElem? (i := 7) rfl)) (by decide +kernel)), (tG_of (tb1 (List.mem_of_getElem? (i := 3) rfl)) (by decide +kernel)), (tG_of (tb3 (List.mem_of_getElem? (i := 8) rfl)) (by decide +kernel)), ⟨by decide, by decide, by decide +kernel⟩, by decide⟩
set_option maxRecDepth 100000 in
theorem mv_X2_65 : mV RX2 65 mX4_need 1 := ⟨(tG_of (tb3 (List.mem_of_getElem? (i := 5) rfl)) (by decide +kernel)), mi_X4_need⟩
theorem dX4_need_0 : decode cX4_need 0 = .ok (.aload_n 0, 1) := dc_42 (byA eNcX4_need (p := 0) (v := 42) (by decide +kernel))
theorem dX4_need_1 : decode cX4_need 1 = .ok (.invokevirtual 31, 3) := dc_182 (byA eNcX4_need (p := 1) (v := 182) (by decide +kernel)) (byA eNcX4_need (p := 2) (v := 0) (by decide +kernel)) (byA eNcX4_need (p := 3) (v := 31) (by decide +kernel)) rfl
theorem dX4_need_4 : decode cX4_need 4 = .ok (.iload_n 1, 1) := dc_27 (byA eNcX4_need (p := 4) (v := 27) (by decide +kernel))
theorem dX4_need_5 : decode cX4_need 5 = .ok (.if_icmp .ne 16, 3) := dc_160 (byA eNcX4_need (p := 5) (v := 160) (by decide +kernel)) (byA eNcX4_need (p := 6) (v := 0) (by decide +kernel)) (byA eNcX4_need (p := 7) (v := 16) (by decide +kernel)) (by decide +kernel)
theorem dX4_need_8 : decode cX4_need 8 = .ok (.aload_n 0, 1) := dc_42 (byA eNcX4_need (p := 8) (v := 42) (by decide +kernel))
theorem dX4_need_9 : decode cX4_need 9 = .ok (.dup, 1) := dc_89 (byA eNcX4_need (p := 9) (v := 89) (by decide +kernel))
theorem dX4_need_10 : decode cX4_need 10 = .ok (.getfield 19, 3) := dc_180 (byA eNcX4_need (p := 10) (v := 180) (by decide +kernel)) (byA eNcX4_need (p := 11) (v := 0) (by decide +kernel)) (byA eNcX4_need (p := 12) (v := 19) (by decide +kernel)) rfl
theorem dX4_need_13 : decode cX4_need 13 = .ok (.iconst 1, 1) := dc_4 (byA eNcX4_need (p := 13) (v := 4) (by decide +kernel))
theorem dX4_need_14 : decode cX4_need 14 = .ok (.iadd, 1) := dc_96 (byA eNcX4_need (p := 14) (v := 96) (by decide +kernel))
theorem dX4_need_15 : decode cX4_need 15 = .ok (.putfield 19, 3) := dc_181 (byA eNcX4_need (p := 15) (v := 181) (by decide +kernel)) (byA eNcX4_need (p := 16) (v := 0) (by decide +kernel)) (byA eNcX4_need (p := 17) (v := 19) (by decide +kernel)) rfl
theorem dX4_need_18 : decode cX4_need 18 = .ok (.goto 11, 3) := dc_167 (byA eNcX4_need (p := 18) (v := 167) (by decide +kernel)) (byA eNcX4_need (p := 19) (v := 0) (by decide +kernel)) (byA eNcX4_need (p := 20) (v := 11) (by decide +kernel)) (by decide +kernel)
theorem dX4_need_21 : decode cX4_need 21 = .ok (.aload_n 0, 1) := dc_42 (byA eNcX4_need (p := 21) (v := 42) (by decide +kernel))
theorem dX4_need_22 : decode cX4_need 22 = .ok (.aload_n 0, 1) := dc_42 (byA eNcX4_need (p := 22) (v := 42) (by decide +kernel))
theorem dX4_need_23 : decode cX4_need 23 = .ok (.getfield 19, 3) := dc_180 (byA eNcX4_need (p := 23) (v := 180) (by decide +kernel)) (byA eNcX4_need (p := 24) (v := 0) (by decide +kernel)) (byA eNcX4_need (p := 25) (v := 19) (by decide +kernel)) rfl
theorem dX4_need_26 : decode cX4_need 26 = .ok (.invokevirtual 35, 3) := dc_182 (byA eNcX4_need (p := 26) (v := 182) (by decide +kernel)) (byA eNcX4_need (p := 27) (v := 0) (by decide +kernel)) (byA eNcX4_need (p := 28) (v := 35) (by decide +kernel)) rfl
theorem dX4_need_29 : decode cX4_need 29 = .ok (.return_, 1) := dc_177 (byA eNcX4_need (p := 29) (v := 177) (by decide +kernel))
def X4_need (l1 : Int) (μ : Mm) : Rs := bd (X4_peek μ) fun v1 μ2 => if v1 = l1 then (sF μ2 3 1 (iA (μ2 3 1) 1) fun μ8 => some (0, μ8)) else (bd (X4_refuseAt (μ2 3 1) μ2) fun v5 μ6 => some (0, μ6))
set_option maxHeartbeats 4000000 in
set_option maxRecDepth 100000 in
theorem kX4_need (d : Nat) (hd : 2 ≤ d) {l1 : Int} {μ : Mm} {r : Int} {μ' : Mm} (h : X4_need l1 μ = some (r, μ')) : CC d mX4_need [vR 3, vI l1] μ r μ' := by
  unfold X4_need at h
  refine V_enter (by decide) (Nat.le_of_ble_eq_true rfl) ?_
  show VV d mX4_need 0 [some (vR 3), some (vI l1)] [] μ r μ'
  refine V_aload_n (q := 1) dX4_need_0 rfl rfl rfl ?_
  obtain ⟨v1, μ2, hc3, h⟩ := bd_i h
  refine V_cV1 (q := 4) (v := vI v1) (kX4_peek (d - 1) (by omega) hc3) (by omega) mv_X4_31 rfl rfl rfl rfl rfl rfl dX4_need_1 rfl ?_
  refine V_iload_n (q := 5) dX4_need_4 rfl rfl rfl ?_
  refine V_icmpne (q := 21) (q2 := 8) dX4_need_5 (by decide) rfl (fun hc4 => ?_) (fun hc4 => ?_)
  · have h := ifF hc4 h
    refine V_aload_n (q := 22) dX4_need_21 rfl rfl rfl ?_
    refine V_aload_n (q := 23) dX4_need_22 rfl rfl rfl ?_
    refine V_getI (q := 26) fl_X4_19 rfl rfl rfl dX4_need_23 rfl ?_
    obtain ⟨v5, μ6, hc7, h⟩ := bd_i h
    refine V_cV0 (q := 29) (kX4_refuseAt (d - 1) (by omega) hc7) (by omega) mv_X4_35 rfl rfl rfl rfl rfl rfl dX4_need_26 rfl ?_
    exact V_vret rfl h dX4_need_29
  · have h := ifT hc4 h
    refine V_aload_n (q := 9) dX4_need_8 rfl rfl rfl ?_
    refine V_dup (q := 10) dX4_need_9 trivial rfl ?_
    refine V_getI (q := 13) fl_X4_19 rfl rfl rfl dX4_need_10 rfl ?_
    refine V_iconst (q := 14) dX4_need_13 rfl rfl ?_
    refine V_iadd (q := 15) dX4_need_14 rfl ?_
    have h := sF_i h
    refine V_putI (q := 18) fl_X4_19 rfl rfl rfl dX4_need_15 rfl ?_
    refine V_goto (q := 29) dX4_need_18 (by decide) ?_
    exact V_vret rfl h dX4_need_29
abbrev mX4_isDigit : Mth := (yX4_isDigit, cX4_isDigit, 1, some .boolean)
set_option maxRecDepth 100000 in
theorem mi_X4_isDigit : Cond.static yX4_isDigit ∈ tG ∧ Cond.initialized yX4_isDigit.cls ∈ tG ∧ Cond.code yX4_isDigit cX4_isDigit 1 (some .boolean) ∈ tG ∧ (yX4_isDigit.cls ≠ "java/lang/invoke/MethodHandle" ∧ yX4_isDigit.cls ≠ "java/lang/invoke/VarHandle" ∧ (parseMethodDescriptor yX4_isDigit.desc).map (fun d => d.parameters.length) = some 1) ∧ 1 ≤ 60 := ⟨(tG_of (tb2 (List.mem_of_getElem? (i := 233) rfl)) (by decide +kernel)), (tG_of (tb1 (List.mem_of_getElem? (i := 3) rfl)) (by decide +kernel)), (tG_of (tb2 (List.mem_of_getElem? (i := 234) rfl)) (by decide +kernel)), ⟨by decide, by decide, by decide +kernel⟩, by decide⟩
set_option maxRecDepth 100000 in
theorem mv_X2_136 : mS RX2 136 mX4_isDigit 1 := ⟨(tG_of (tb3 (List.mem_of_getElem? (i := 26) rfl)) (by decide +kernel)), mi_X4_isDigit.1, (tG_of (tb1 (List.mem_of_getElem? (i := 4) rfl)) (by decide +kernel)), mi_X4_isDigit.2⟩
set_option maxRecDepth 100000 in
theorem mv_X4_39 : mS RX4 39 mX4_isDigit 1 := ⟨(tG_of (tb2 (List.mem_of_getElem? (i := 232) rfl)) (by decide +kernel)), mi_X4_isDigit.1, (tG_of (tb1 (List.mem_of_getElem? (i := 3) rfl)) (by decide +kernel)), mi_X4_isDigit.2⟩
theorem dX4_isDigit_0 : decode cX4_isDigit 0 = .ok (.iload_n 0, 1) := dc_26 (byA eNcX4_isDigit (p := 0) (v := 26) (by decide +kernel))
theorem dX4_isDigit_1 : decode cX4_isDigit 1 = .ok (.bipush 48, 2) := dc_16 (byA eNcX4_isDigit (p := 1) (v := 16) (by decide +kernel)) (byA eNcX4_isDigit (p := 2) (v := 48) (by decide +kernel)) (by decide +kernel)
theorem dX4_isDigit_3 : decode cX4_isDigit 3 = .ok (.if_icmp .lt 13, 3) := dc_161 (byA eNcX4_isDigit (p := 3) (v := 161) (by decide +kernel)) (byA eNcX4_isDigit (p := 4) (v := 0) (by decide +kernel)) (byA eNcX4_isDigit (p := 5) (v := 13) (by decide +kernel)) (by decide +kernel)
theorem dX4_isDigit_6 : decode cX4_isDigit 6 = .ok (.iload_n 0, 1) := dc_26 (byA eNcX4_isDigit (p := 6) (v := 26) (by decide +kernel))
theorem dX4_isDigit_7 : decode cX4_isDigit 7 = .ok (.bipush 57, 2) := dc_16 (byA eNcX4_isDigit (p := 7) (v := 16) (by decide +kernel)) (byA eNcX4_isDigit (p := 8) (v := 57) (by decide +kernel)) (by decide +kernel)
theorem dX4_isDigit_9 : decode cX4_isDigit 9 = .ok (.if_icmp .gt 7, 3) := dc_163 (byA eNcX4_isDigit (p := 9) (v := 163) (by decide +kernel)) (byA eNcX4_isDigit (p := 10) (v := 0) (by decide +kernel)) (byA eNcX4_isDigit (p := 11) (v := 7) (by decide +kernel)) (by decide +kernel)
theorem dX4_isDigit_12 : decode cX4_isDigit 12 = .ok (.iconst 1, 1) := dc_4 (byA eNcX4_isDigit (p := 12) (v := 4) (by decide +kernel))
theorem dX4_isDigit_13 : decode cX4_isDigit 13 = .ok (.goto 4, 3) := dc_167 (byA eNcX4_isDigit (p := 13) (v := 167) (by decide +kernel)) (byA eNcX4_isDigit (p := 14) (v := 0) (by decide +kernel)) (byA eNcX4_isDigit (p := 15) (v := 4) (by decide +kernel)) (by decide +kernel)
theorem dX4_isDigit_16 : decode cX4_isDigit 16 = .ok (.iconst 0, 1) := dc_3 (byA eNcX4_isDigit (p := 16) (v := 3) (by decide +kernel))
theorem dX4_isDigit_17 : decode cX4_isDigit 17 = .ok (.ireturn, 1) := dc_172 (byA eNcX4_isDigit (p := 17) (v := 172) (by decide +kernel))
def X4_isDigit (l0 : Int) (μ : Mm) : Rs := if l0 < 48 then (some (0, μ)) else (if 57 < l0 then (some (0, μ)) else (some (1, μ)))
set_option maxHeartbeats 4000000 in
set_option maxRecDepth 100000 in
theorem kX4_isDigit (d : Nat) (hd : 1 ≤ d) {l0 : Int} {μ : Mm} {r : Int} {μ' : Mm} (h : X4_isDigit l0 μ = some (r, μ')) : CC d mX4_isDigit [vI l0] μ r μ' := by
  unfold X4_isDigit at h
  refine V_enter (by decide) (Nat.le_of_ble_eq_true rfl) ?_
  show VV d mX4_isDigit 0 [some (vI l0)] [] μ r μ'
  refine V_iload_n (q := 1) dX4_isDigit_0 rfl rfl rfl ?_
  refine V_bipush (q := 3) dX4_isDigit_1 rfl rfl rfl ?_
  refine V_icmplt (q := 16) (q2 := 6) dX4_isDigit_3 (by decide) rfl (fun hc1 => ?_) (fun hc1 => ?_)
  · have h := ifT hc1 h
    refine V_iconst (q := 17) dX4_isDigit_16 rfl rfl ?_
    exact V_zret rfl (Or.inl rfl) h dX4_isDigit_17
  · have h := ifF hc1 h
    refine V_iload_n (q := 7) dX4_isDigit_6 rfl rfl rfl ?_
    refine V_bipush (q := 9) dX4_isDigit_7 rfl rfl rfl ?_
    refine V_icmpgt (q := 16) (q2 := 12) dX4_isDigit_9 (by decide) rfl (fun hc2 => ?_) (fun hc2 => ?_)
    · have h := ifT hc2 h
      refine V_iconst (q := 17) dX4_isDigit_16 rfl rfl ?_
      exact V_zret rfl (Or.inl rfl) h dX4_isDigit_17
    · have h := ifF hc2 h
      refine V_iconst (q := 13) dX4_isDigit_12 rfl rfl ?_
      refine V_goto (q := 17) dX4_isDigit_13 (by decide) ?_
      exact V_zret rfl (Or.inr rfl) h dX4_isDigit_17
abbrev mX4_number : Mth := (yX4_number, cX4_number, 4, some .int)
set_option maxRecDepth 100000 in
theorem mi_X4_number : Cond.instanceMethod yX4_number ∈ tG ∧ Cond.selects yX4_number.cls yX4_number yX4_number ∈ tG ∧ Cond.initialized yX4_number.cls ∈ tG ∧ Cond.code yX4_number cX4_number 4 (some .int) ∈ tG ∧ (yX4_number.cls ≠ "java/lang/invoke/MethodHandle" ∧ yX4_number.cls ≠ "java/lang/invoke/VarHandle" ∧ (parseMethodDescriptor yX4_number.desc).map (fun d => d.parameters.length) = some 1) ∧ 4 ≤ 60 := ⟨(tG_of (tb2 (List.mem_of_getElem? (i := 229) rfl)) (by decide +kernel)), (tG_of (tb2 (List.mem_of_getElem? (i := 230) rfl)) (by decide +kernel)), (tG_of (tb1 (List.mem_of_getElem? (i := 3) rfl)) (by decide +kernel)), (tG_of (tb2 (List.mem_of_getElem? (i := 231) rfl)) (by decide +kernel)), ⟨by decide, by decide, by decide +kernel⟩, by decide⟩
set_option maxRecDepth 100000 in
theorem mv_X2_139 : mV RX2 139 mX4_number 1 := ⟨(tG_of (tb3 (List.mem_of_getElem? (i := 27) rfl)) (by decide +kernel)), mi_X4_number⟩
set_option maxRecDepth 100000 in
theorem mv_X3_52 : mV RX3 52 mX4_number 1 := ⟨(tG_of (tb2 (List.mem_of_getElem? (i := 228) rfl)) (by decide +kernel)), mi_X4_number⟩
theorem dX4_number_0 : decode cX4_number 0 = .ok (.aload_n 0, 1) := dc_42 (byA eNcX4_number (p := 0) (v := 42) (by decide +kernel))
theorem dX4_number_1 : decode cX4_number 1 = .ok (.invokevirtual 31, 3) := dc_182 (byA eNcX4_number (p := 1) (v := 182) (by decide +kernel)) (byA eNcX4_number (p := 2) (v := 0) (by decide +kernel)) (byA eNcX4_number (p := 3) (v := 31) (by decide +kernel)) rfl
theorem dX4_number_4 : decode cX4_number 4 = .ok (.invokestatic 39, 3) := dc_184 (byA eNcX4_number (p := 4) (v := 184) (by decide +kernel)) (byA eNcX4_number (p := 5) (v := 0) (by decide +kernel)) (byA eNcX4_number (p := 6) (v := 39) (by decide +kernel)) rfl
theorem dX4_number_7 : decode cX4_number 7 = .ok (.ifCond .ne 13, 3) := dc_154 (byA eNcX4_number (p := 7) (v := 154) (by decide +kernel)) (byA eNcX4_number (p := 8) (v := 0) (by decide +kernel)) (byA eNcX4_number (p := 9) (v := 13) (by decide +kernel)) (by decide +kernel)
theorem dX4_number_10 : decode cX4_number 10 = .ok (.aload_n 0, 1) := dc_42 (byA eNcX4_number (p := 10) (v := 42) (by decide +kernel))
theorem dX4_number_11 : decode cX4_number 11 = .ok (.aload_n 0, 1) := dc_42 (byA eNcX4_number (p := 11) (v := 42) (by decide +kernel))
theorem dX4_number_12 : decode cX4_number 12 = .ok (.getfield 19, 3) := dc_180 (byA eNcX4_number (p := 12) (v := 180) (by decide +kernel)) (byA eNcX4_number (p := 13) (v := 0) (by decide +kernel)) (byA eNcX4_number (p := 14) (v := 19) (by decide +kernel)) rfl
theorem dX4_number_15 : decode cX4_number 15 = .ok (.invokevirtual 35, 3) := dc_182 (byA eNcX4_number (p := 15) (v := 182) (by decide +kernel)) (byA eNcX4_number (p := 16) (v := 0) (by decide +kernel)) (byA eNcX4_number (p := 17) (v := 35) (by decide +kernel)) rfl
theorem dX4_number_18 : decode cX4_number 18 = .ok (.iconst 0, 1) := dc_3 (byA eNcX4_number (p := 18) (v := 3) (by decide +kernel))
theorem dX4_number_19 : decode cX4_number 19 = .ok (.ireturn, 1) := dc_172 (byA eNcX4_number (p := 19) (v := 172) (by decide +kernel))
theorem dX4_number_20 : decode cX4_number 20 = .ok (.iconst 0, 1) := dc_3 (byA eNcX4_number (p := 20) (v := 3) (by decide +kernel))
theorem dX4_number_21 : decode cX4_number 21 = .ok (.istore_n 2, 1) := dc_61 (byA eNcX4_number (p := 21) (v := 61) (by decide +kernel))
theorem dX4_number_22 : decode cX4_number 22 = .ok (.iconst 0, 1) := dc_3 (byA eNcX4_number (p := 22) (v := 3) (by decide +kernel))
theorem dX4_number_23 : decode cX4_number 23 = .ok (.istore_n 3, 1) := dc_62 (byA eNcX4_number (p := 23) (v := 62) (by decide +kernel))
theorem dX4_number_24 : decode cX4_number 24 = .ok (.iload_n 3, 1) := dc_29 (byA eNcX4_number (p := 24) (v := 29) (by decide +kernel))
theorem dX4_number_25 : decode cX4_number 25 = .ok (.iload_n 1, 1) := dc_27 (byA eNcX4_number (p := 25) (v := 27) (by decide +kernel))
theorem dX4_number_26 : decode cX4_number 26 = .ok (.if_icmp .ge 72, 3) := dc_162 (byA eNcX4_number (p := 26) (v := 162) (by decide +kernel)) (byA eNcX4_number (p := 27) (v := 0) (by decide +kernel)) (byA eNcX4_number (p := 28) (v := 72) (by decide +kernel)) (by decide +kernel)
theorem dX4_number_29 : decode cX4_number 29 = .ok (.aload_n 0, 1) := dc_42 (byA eNcX4_number (p := 29) (v := 42) (by decide +kernel))
theorem dX4_number_30 : decode cX4_number 30 = .ok (.getfield 19, 3) := dc_180 (byA eNcX4_number (p := 30) (v := 180) (by decide +kernel)) (byA eNcX4_number (p := 31) (v := 0) (by decide +kernel)) (byA eNcX4_number (p := 32) (v := 19) (by decide +kernel)) rfl
theorem dX4_number_33 : decode cX4_number 33 = .ok (.aload_n 0, 1) := dc_42 (byA eNcX4_number (p := 33) (v := 42) (by decide +kernel))
theorem dX4_number_34 : decode cX4_number 34 = .ok (.getfield 9, 3) := dc_180 (byA eNcX4_number (p := 34) (v := 180) (by decide +kernel)) (byA eNcX4_number (p := 35) (v := 0) (by decide +kernel)) (byA eNcX4_number (p := 36) (v := 9) (by decide +kernel)) rfl
theorem dX4_number_37 : decode cX4_number 37 = .ok (.getfield 22, 3) := dc_180 (byA eNcX4_number (p := 37) (v := 180) (by decide +kernel)) (byA eNcX4_number (p := 38) (v := 0) (by decide +kernel)) (byA eNcX4_number (p := 39) (v := 22) (by decide +kernel)) rfl
theorem dX4_number_40 : decode cX4_number 40 = .ok (.if_icmp .ge 58, 3) := dc_162 (byA eNcX4_number (p := 40) (v := 162) (by decide +kernel)) (byA eNcX4_number (p := 41) (v := 0) (by decide +kernel)) (byA eNcX4_number (p := 42) (v := 58) (by decide +kernel)) (by decide +kernel)
theorem dX4_number_43 : decode cX4_number 43 = .ok (.aload_n 0, 1) := dc_42 (byA eNcX4_number (p := 43) (v := 42) (by decide +kernel))
theorem dX4_number_44 : decode cX4_number 44 = .ok (.getfield 9, 3) := dc_180 (byA eNcX4_number (p := 44) (v := 180) (by decide +kernel)) (byA eNcX4_number (p := 45) (v := 0) (by decide +kernel)) (byA eNcX4_number (p := 46) (v := 9) (by decide +kernel)) rfl
theorem dX4_number_47 : decode cX4_number 47 = .ok (.getfield 27, 3) := dc_180 (byA eNcX4_number (p := 47) (v := 180) (by decide +kernel)) (byA eNcX4_number (p := 48) (v := 0) (by decide +kernel)) (byA eNcX4_number (p := 49) (v := 27) (by decide +kernel)) rfl
theorem dX4_number_50 : decode cX4_number 50 = .ok (.aload_n 0, 1) := dc_42 (byA eNcX4_number (p := 50) (v := 42) (by decide +kernel))
theorem dX4_number_51 : decode cX4_number 51 = .ok (.getfield 19, 3) := dc_180 (byA eNcX4_number (p := 51) (v := 180) (by decide +kernel)) (byA eNcX4_number (p := 52) (v := 0) (by decide +kernel)) (byA eNcX4_number (p := 53) (v := 19) (by decide +kernel)) rfl
theorem dX4_number_54 : decode cX4_number 54 = .ok (.iaload, 1) := dc_46 (byA eNcX4_number (p := 54) (v := 46) (by decide +kernel))
theorem dX4_number_55 : decode cX4_number 55 = .ok (.invokestatic 39, 3) := dc_184 (byA eNcX4_number (p := 55) (v := 184) (by decide +kernel)) (byA eNcX4_number (p := 56) (v := 0) (by decide +kernel)) (byA eNcX4_number (p := 57) (v := 39) (by decide +kernel)) rfl
theorem dX4_number_58 : decode cX4_number 58 = .ok (.ifCond .eq 40, 3) := dc_153 (byA eNcX4_number (p := 58) (v := 153) (by decide +kernel)) (byA eNcX4_number (p := 59) (v := 0) (by decide +kernel)) (byA eNcX4_number (p := 60) (v := 40) (by decide +kernel)) (by decide +kernel)
theorem dX4_number_61 : decode cX4_number 61 = .ok (.bipush 10, 2) := dc_16 (byA eNcX4_number (p := 61) (v := 16) (by decide +kernel)) (byA eNcX4_number (p := 62) (v := 10) (by decide +kernel)) (by decide +kernel)
theorem dX4_number_63 : decode cX4_number 63 = .ok (.iload_n 2, 1) := dc_28 (byA eNcX4_number (p := 63) (v := 28) (by decide +kernel))
theorem dX4_number_64 : decode cX4_number 64 = .ok (.imul, 1) := dc_104 (byA eNcX4_number (p := 64) (v := 104) (by decide +kernel))
theorem dX4_number_65 : decode cX4_number 65 = .ok (.aload_n 0, 1) := dc_42 (byA eNcX4_number (p := 65) (v := 42) (by decide +kernel))
theorem dX4_number_66 : decode cX4_number 66 = .ok (.getfield 9, 3) := dc_180 (byA eNcX4_number (p := 66) (v := 180) (by decide +kernel)) (byA eNcX4_number (p := 67) (v := 0) (by decide +kernel)) (byA eNcX4_number (p := 68) (v := 9) (by decide +kernel)) rfl
theorem dX4_number_69 : decode cX4_number 69 = .ok (.getfield 27, 3) := dc_180 (byA eNcX4_number (p := 69) (v := 180) (by decide +kernel)) (byA eNcX4_number (p := 70) (v := 0) (by decide +kernel)) (byA eNcX4_number (p := 71) (v := 27) (by decide +kernel)) rfl
theorem dX4_number_72 : decode cX4_number 72 = .ok (.aload_n 0, 1) := dc_42 (byA eNcX4_number (p := 72) (v := 42) (by decide +kernel))
theorem dX4_number_73 : decode cX4_number 73 = .ok (.getfield 19, 3) := dc_180 (byA eNcX4_number (p := 73) (v := 180) (by decide +kernel)) (byA eNcX4_number (p := 74) (v := 0) (by decide +kernel)) (byA eNcX4_number (p := 75) (v := 19) (by decide +kernel)) rfl
theorem dX4_number_76 : decode cX4_number 76 = .ok (.iaload, 1) := dc_46 (byA eNcX4_number (p := 76) (v := 46) (by decide +kernel))
theorem dX4_number_77 : decode cX4_number 77 = .ok (.iadd, 1) := dc_96 (byA eNcX4_number (p := 77) (v := 96) (by decide +kernel))
theorem dX4_number_78 : decode cX4_number 78 = .ok (.bipush 48, 2) := dc_16 (byA eNcX4_number (p := 78) (v := 16) (by decide +kernel)) (byA eNcX4_number (p := 79) (v := 48) (by decide +kernel)) (by decide +kernel)
theorem dX4_number_80 : decode cX4_number 80 = .ok (.isub, 1) := dc_100 (byA eNcX4_number (p := 80) (v := 100) (by decide +kernel))
theorem dX4_number_81 : decode cX4_number 81 = .ok (.istore_n 2, 1) := dc_61 (byA eNcX4_number (p := 81) (v := 61) (by decide +kernel))
theorem dX4_number_82 : decode cX4_number 82 = .ok (.aload_n 0, 1) := dc_42 (byA eNcX4_number (p := 82) (v := 42) (by decide +kernel))
theorem dX4_number_83 : decode cX4_number 83 = .ok (.dup, 1) := dc_89 (byA eNcX4_number (p := 83) (v := 89) (by decide +kernel))
theorem dX4_number_84 : decode cX4_number 84 = .ok (.getfield 19, 3) := dc_180 (byA eNcX4_number (p := 84) (v := 180) (by decide +kernel)) (byA eNcX4_number (p := 85) (v := 0) (by decide +kernel)) (byA eNcX4_number (p := 86) (v := 19) (by decide +kernel)) rfl
theorem dX4_number_87 : decode cX4_number 87 = .ok (.iconst 1, 1) := dc_4 (byA eNcX4_number (p := 87) (v := 4) (by decide +kernel))
theorem dX4_number_88 : decode cX4_number 88 = .ok (.iadd, 1) := dc_96 (byA eNcX4_number (p := 88) (v := 96) (by decide +kernel))
theorem dX4_number_89 : decode cX4_number 89 = .ok (.putfield 19, 3) := dc_181 (byA eNcX4_number (p := 89) (v := 181) (by decide +kernel)) (byA eNcX4_number (p := 90) (v := 0) (by decide +kernel)) (byA eNcX4_number (p := 91) (v := 19) (by decide +kernel)) rfl
theorem dX4_number_92 : decode cX4_number 92 = .ok (.iinc 3 1, 3) := dc_132 (byA eNcX4_number (p := 92) (v := 132) (by decide +kernel)) (byA eNcX4_number (p := 93) (v := 3) (by decide +kernel)) (byA eNcX4_number (p := 94) (v := 1) (by decide +kernel)) (by decide +kernel)
theorem dX4_number_95 : decode cX4_number 95 = .ok (.goto (-71), 3) := dc_167 (byA eNcX4_number (p := 95) (v := 167) (by decide +kernel)) (byA eNcX4_number (p := 96) (v := 255) (by decide +kernel)) (byA eNcX4_number (p := 97) (v := 185) (by decide +kernel)) (by decide +kernel)
theorem dX4_number_98 : decode cX4_number 98 = .ok (.iload_n 2, 1) := dc_28 (byA eNcX4_number (p := 98) (v := 28) (by decide +kernel))
theorem dX4_number_99 : decode cX4_number 99 = .ok (.ireturn, 1) := dc_172 (byA eNcX4_number (p := 99) (v := 172) (by decide +kernel))
def X4_number_L24 (l1 : Int) : Nat → Int → Int → Mm → Rs
  | 0, _, _, _ => none
  | n + 1, l2, l3, μ => if l1 ≤ l3 then (some (l2, μ)) else (mR μ 3 0 (17, 2) fun v9 => if (μ v9 1) ≤ (μ 3 1) then (some (l2, μ)) else (mR μ 3 0 (17, 2) fun v12 => ldA μ (v12 + 1) (μ 3 1) fun v14 => bd (X4_isDigit v14 μ) fun v16 μ17 => if v16 = 0 then (some (l2, μ17)) else (mR μ17 3 0 (17, 2) fun v20 => ldA μ17 (v20 + 1) (μ17 3 1) fun v22 => lt_ (iS (iA (iM 10 l2) v22) 48) fun v24 => sF μ17 3 1 (iA (μ17 3 1) 1) fun μ25 => X4_number_L24 l1 n v24 (iA l3 1) μ25)))
def X4_number (l1 : Int) (μ : Mm) : Rs := bd (X4_peek μ) fun v1 μ2 => bd (X4_isDigit v1 μ2) fun v4 μ5 => if v4 = 0 then (bd (X4_refuseAt (μ5 3 1) μ5) fun v26 μ27 => some (0, μ27)) else (X4_number_L24 l1 FU 0 0 μ5)
set_option maxHeartbeats 4000000 in
set_option maxRecDepth 100000 in
theorem kX4_number_L24 (d : Nat) (hd : 2 ≤ d) {l1 : Int} {r : Int} {μ' : Mm} : ∀ (n : Nat) {l2 l3 : Int} {μ : Mm}, X4_number_L24 l1 n l2 l3 μ = some (r, μ') → VV d mX4_number 24 [some (vR 3), some (vI l1), some (vI l2), some (vI l3)] [] μ r μ' := by
  intro n
  induction n with
  | zero => intro l2 l3 μ h; rw [X4_number_L24] at h; cases h
  | succ n ih =>
    intro l2 l3 μ h
    rw [X4_number_L24] at h
    refine V_iload_n (q := 25) dX4_number_24 rfl rfl rfl ?_
    refine V_iload_n (q := 26) dX4_number_25 rfl rfl rfl ?_
    refine V_icmpge (q := 98) (q2 := 29) dX4_number_26 (by decide) rfl (fun hc8 => ?_) (fun hc8 => ?_)
    · have h := ifT hc8 h
      refine V_iload_n (q := 99) dX4_number_98 rfl rfl rfl ?_
      exact V_iret rfl h dX4_number_99
    · have h := ifF hc8 h
      refine V_aload_n (q := 30) dX4_number_29 rfl rfl rfl ?_
      refine V_getI (q := 33) fl_X4_19 rfl rfl rfl dX4_number_30 rfl ?_
      refine V_aload_n (q := 34) dX4_number_33 rfl rfl rfl ?_
      obtain ⟨hm10, h⟩ := mR_i h
      refine V_getM (q := 37) fl_X4_9 rfl rfl rfl dX4_number_34 rfl ?_
      refine V_getI (q := 40) fl_X4_22 hm10 rfl rfl dX4_number_37 rfl ?_
      refine V_icmpge (q := 98) (q2 := 43) dX4_number_40 (by decide) rfl (fun hc11 => ?_) (fun hc11 => ?_)
      · have h := ifT hc11 h
        refine V_iload_n (q := 99) dX4_number_98 rfl rfl rfl ?_
        exact V_iret rfl h dX4_number_99
      · have h := ifF hc11 h
        refine V_aload_n (q := 44) dX4_number_43 rfl rfl rfl ?_
        obtain ⟨hm13, h⟩ := mR_i h
        refine V_getM (q := 47) fl_X4_9 rfl rfl rfl dX4_number_44 rfl ?_
        refine V_getO (q := 50) (t := _) fl_X4_27 hm13 rfl rfl rfl dX4_number_47 rfl ?_
        refine V_aload_n (q := 51) dX4_number_50 rfl rfl rfl ?_
        refine V_getI (q := 54) fl_X4_19 rfl rfl rfl dX4_number_51 rfl ?_
        obtain ⟨hi15, h⟩ := ldA_i h
        refine V_iaload (q := 55) (kdo_7_0 hm13) hi15 dX4_number_54 rfl ?_
        obtain ⟨v16, μ17, hc18, h⟩ := bd_i h
        refine V_cS1 (q := 58) (v := vI v16) (kX4_isDigit (d - 1) (by omega) hc18) (by omega) mv_X4_39 rfl rfl rfl rfl dX4_number_55 rfl ?_
        refine V_ifeq (q := 98) (q2 := 61) dX4_number_58 (by decide) rfl (fun hc19 => ?_) (fun hc19 => ?_)
        · have h := ifT hc19 h
          refine V_iload_n (q := 99) dX4_number_98 rfl rfl rfl ?_
          exact V_iret rfl h dX4_number_99
        · have h := ifF hc19 h
          refine V_bipush (q := 63) dX4_number_61 rfl rfl rfl ?_
          refine V_iload_n (q := 64) dX4_number_63 rfl rfl rfl ?_
          refine V_imul (q := 65) dX4_number_64 rfl ?_
          refine V_aload_n (q := 66) dX4_number_65 rfl rfl rfl ?_
          obtain ⟨hm21, h⟩ := mR_i h
          refine V_getM (q := 69) fl_X4_9 rfl rfl rfl dX4_number_66 rfl ?_
          refine V_getO (q := 72) (t := _) fl_X4_27 hm21 rfl rfl rfl dX4_number_69 rfl ?_
          refine V_aload_n (q := 73) dX4_number_72 rfl rfl rfl ?_
          refine V_getI (q := 76) fl_X4_19 rfl rfl rfl dX4_number_73 rfl ?_
          obtain ⟨hi23, h⟩ := ldA_i h
          refine V_iaload (q := 77) (kdo_7_0 hm21) hi23 dX4_number_76 rfl ?_
          refine V_iadd (q := 78) dX4_number_77 rfl ?_
          refine V_bipush (q := 80) dX4_number_78 rfl rfl rfl ?_
          refine V_isub (q := 81) dX4_number_80 rfl ?_
          have h := lt_i h
          refine V_istore_n (q := 82) dX4_number_81 rfl (Nat.le_of_ble_eq_true rfl) trivial rfl ?_
          refine V_aload_n (q := 83) dX4_number_82 rfl rfl rfl ?_
          refine V_dup (q := 84) dX4_number_83 trivial rfl ?_
          refine V_getI (q := 87) fl_X4_19 rfl rfl rfl dX4_number_84 rfl ?_
          refine V_iconst (q := 88) dX4_number_87 rfl rfl ?_
          refine V_iadd (q := 89) dX4_number_88 rfl ?_
          have h := sF_i h
          refine V_putI (q := 92) fl_X4_19 rfl rfl rfl dX4_number_89 rfl ?_
          refine V_iinc (q := 95) dX4_number_92 rfl (Nat.le_of_ble_eq_true rfl) trivial rfl ?_
          refine V_goto (q := 24) dX4_number_95 (by decide) ?_
          exact V_weak (ih h) (sb_s rfl (sb_s rfl (sb_s rfl (sb_s rfl sb_0))))
set_option maxHeartbeats 4000000 in
set_option maxRecDepth 100000 in
theorem kX4_number (d : Nat) (hd : 2 ≤ d) {l1 : Int} {μ : Mm} {r : Int} {μ' : Mm} (h : X4_number l1 μ = some (r, μ')) : CC d mX4_number [vR 3, vI l1] μ r μ' := by
  unfold X4_number at h
  refine V_enter (by decide) (Nat.le_of_ble_eq_true rfl) ?_
  show VV d mX4_number 0 [some (vR 3), some (vI l1), none, none] [] μ r μ'
  refine V_aload_n (q := 1) dX4_number_0 rfl rfl rfl ?_
  obtain ⟨v1, μ2, hc3, h⟩ := bd_i h
  refine V_cV1 (q := 4) (v := vI v1) (kX4_peek (d - 1) (by omega) hc3) (by omega) mv_X4_31 rfl rfl rfl rfl rfl rfl dX4_number_1 rfl ?_
  obtain ⟨v4, μ5, hc6, h⟩ := bd_i h
  refine V_cS1 (q := 7) (v := vI v4) (kX4_isDigit (d - 1) (by omega) hc6) (by omega) mv_X4_39 rfl rfl rfl rfl dX4_number_4 rfl ?_
  refine V_ifne (q := 20) (q2 := 10) dX4_number_7 (by decide) rfl (fun hc7 => ?_) (fun hc7 => ?_)
  · have h := ifF hc7 h
    refine V_iconst (q := 21) dX4_number_20 rfl rfl ?_
    refine V_istore_n (q := 22) dX4_number_21 rfl (Nat.le_of_ble_eq_true rfl) trivial rfl ?_
    refine V_iconst (q := 23) dX4_number_22 rfl rfl ?_
    refine V_istore_n (q := 24) dX4_number_23 rfl (Nat.le_of_ble_eq_true rfl) trivial rfl ?_
    exact V_weak (kX4_number_L24 d hd  FU h) (sb_s rfl (sb_s rfl (sb_s rfl (sb_s rfl sb_0))))
  · have h := ifT hc7 h
    refine V_aload_n (q := 11) dX4_number_10 rfl rfl rfl ?_
    refine V_aload_n (q := 12) dX4_number_11 rfl rfl rfl ?_
    refine V_getI (q := 15) fl_X4_19 rfl rfl rfl dX4_number_12 rfl ?_
    obtain ⟨v26, μ27, hc28, h⟩ := bd_i h
    refine V_cV0 (q := 18) (kX4_refuseAt (d - 1) (by omega) hc28) (by omega) mv_X4_35 rfl rfl rfl rfl rfl rfl dX4_number_15 rfl ?_
    refine V_iconst (q := 19) dX4_number_18 rfl rfl ?_
    exact V_iret rfl h dX4_number_19
abbrev mX2_letter : Mth := (yX2_letter, cX2_letter, 3, some .int)
set_option maxRecDepth 100000 in
theorem mi_X2_letter : Cond.instanceMethod yX2_letter ∈ tG ∧ Cond.selects yX2_letter.cls yX2_letter yX2_letter ∈ tG ∧ Cond.initialized yX2_letter.cls ∈ tG ∧ Cond.code yX2_letter cX2_letter 3 (some .int) ∈ tG ∧ (yX2_letter.cls ≠ "java/lang/invoke/MethodHandle" ∧ yX2_letter.cls ≠ "java/lang/invoke/VarHandle" ∧ (parseMethodDescriptor yX2_letter.desc).map (fun d => d.parameters.length) = some 1) ∧ 3 ≤ 60 := ⟨(tG_of (tb3 (List.mem_of_getElem? (i := 31) rfl)) (by decide +kernel)), (tG_of (List.mem_of_getElem? (i := 9) (by decide +kernel)) (by decide +kernel)), (tG_of (tb1 (List.mem_of_getElem? (i := 4) rfl)) (by decide +kernel)), (tG_of (tb3 (List.mem_of_getElem? (i := 32) rfl)) (by decide +kernel)), ⟨by decide, by decide, by decide +kernel⟩, by decide⟩
set_option maxRecDepth 100000 in
theorem mv_X2_141 : mV RX2 141 mX2_letter 1 := ⟨(tG_of (tb3 (List.mem_of_getElem? (i := 29) rfl)) (by decide +kernel)), mi_X2_letter⟩
theorem dX2_letter_0 : decode cX2_letter 0 = .ok (.iconst 0, 1) := dc_3 (byA eNcX2_letter (p := 0) (v := 3) (by decide +kernel))
theorem dX2_letter_1 : decode cX2_letter 1 = .ok (.istore_n 2, 1) := dc_61 (byA eNcX2_letter (p := 1) (v := 61) (by decide +kernel))
theorem dX2_letter_2 : decode cX2_letter 2 = .ok (.iload_n 1, 1) := dc_27 (byA eNcX2_letter (p := 2) (v := 27) (by decide +kernel))
theorem dX2_letter_3 : decode cX2_letter 3 = .ok (.lookupswitch 89 #[(99, 73), (107, 57), (108, 81), (110, 65), (116, 49)], 49) := by decide +kernel
theorem dX2_letter_52 : decode cX2_letter 52 = .ok (.aload_n 0, 1) := dc_42 (byA eNcX2_letter (p := 52) (v := 42) (by decide +kernel))
theorem dX2_letter_53 : decode cX2_letter 53 = .ok (.getfield 40, 3) := dc_180 (byA eNcX2_letter (p := 53) (v := 180) (by decide +kernel)) (byA eNcX2_letter (p := 54) (v := 0) (by decide +kernel)) (byA eNcX2_letter (p := 55) (v := 40) (by decide +kernel)) rfl
theorem dX2_letter_56 : decode cX2_letter 56 = .ok (.istore_n 2, 1) := dc_61 (byA eNcX2_letter (p := 56) (v := 61) (by decide +kernel))
theorem dX2_letter_57 : decode cX2_letter 57 = .ok (.goto 51, 3) := dc_167 (byA eNcX2_letter (p := 57) (v := 167) (by decide +kernel)) (byA eNcX2_letter (p := 58) (v := 0) (by decide +kernel)) (byA eNcX2_letter (p := 59) (v := 51) (by decide +kernel)) (by decide +kernel)
theorem dX2_letter_60 : decode cX2_letter 60 = .ok (.aload_n 0, 1) := dc_42 (byA eNcX2_letter (p := 60) (v := 42) (by decide +kernel))
theorem dX2_letter_61 : decode cX2_letter 61 = .ok (.getfield 43, 3) := dc_180 (byA eNcX2_letter (p := 61) (v := 180) (by decide +kernel)) (byA eNcX2_letter (p := 62) (v := 0) (by decide +kernel)) (byA eNcX2_letter (p := 63) (v := 43) (by decide +kernel)) rfl
theorem dX2_letter_64 : decode cX2_letter 64 = .ok (.istore_n 2, 1) := dc_61 (byA eNcX2_letter (p := 64) (v := 61) (by decide +kernel))
theorem dX2_letter_65 : decode cX2_letter 65 = .ok (.goto 43, 3) := dc_167 (byA eNcX2_letter (p := 65) (v := 167) (by decide +kernel)) (byA eNcX2_letter (p := 66) (v := 0) (by decide +kernel)) (byA eNcX2_letter (p := 67) (v := 43) (by decide +kernel)) (by decide +kernel)
theorem dX2_letter_68 : decode cX2_letter 68 = .ok (.aload_n 0, 1) := dc_42 (byA eNcX2_letter (p := 68) (v := 42) (by decide +kernel))
theorem dX2_letter_69 : decode cX2_letter 69 = .ok (.getfield 25, 3) := dc_180 (byA eNcX2_letter (p := 69) (v := 180) (by decide +kernel)) (byA eNcX2_letter (p := 70) (v := 0) (by decide +kernel)) (byA eNcX2_letter (p := 71) (v := 25) (by decide +kernel)) rfl
theorem dX2_letter_72 : decode cX2_letter 72 = .ok (.istore_n 2, 1) := dc_61 (byA eNcX2_letter (p := 72) (v := 61) (by decide +kernel))
theorem dX2_letter_73 : decode cX2_letter 73 = .ok (.goto 35, 3) := dc_167 (byA eNcX2_letter (p := 73) (v := 167) (by decide +kernel)) (byA eNcX2_letter (p := 74) (v := 0) (by decide +kernel)) (byA eNcX2_letter (p := 75) (v := 35) (by decide +kernel)) (by decide +kernel)
theorem dX2_letter_76 : decode cX2_letter 76 = .ok (.aload_n 0, 1) := dc_42 (byA eNcX2_letter (p := 76) (v := 42) (by decide +kernel))
theorem dX2_letter_77 : decode cX2_letter 77 = .ok (.getfield 49, 3) := dc_180 (byA eNcX2_letter (p := 77) (v := 180) (by decide +kernel)) (byA eNcX2_letter (p := 78) (v := 0) (by decide +kernel)) (byA eNcX2_letter (p := 79) (v := 49) (by decide +kernel)) rfl
theorem dX2_letter_80 : decode cX2_letter 80 = .ok (.istore_n 2, 1) := dc_61 (byA eNcX2_letter (p := 80) (v := 61) (by decide +kernel))
theorem dX2_letter_81 : decode cX2_letter 81 = .ok (.goto 27, 3) := dc_167 (byA eNcX2_letter (p := 81) (v := 167) (by decide +kernel)) (byA eNcX2_letter (p := 82) (v := 0) (by decide +kernel)) (byA eNcX2_letter (p := 83) (v := 27) (by decide +kernel)) (by decide +kernel)
theorem dX2_letter_84 : decode cX2_letter 84 = .ok (.aload_n 0, 1) := dc_42 (byA eNcX2_letter (p := 84) (v := 42) (by decide +kernel))
theorem dX2_letter_85 : decode cX2_letter 85 = .ok (.getfield 33, 3) := dc_180 (byA eNcX2_letter (p := 85) (v := 180) (by decide +kernel)) (byA eNcX2_letter (p := 86) (v := 0) (by decide +kernel)) (byA eNcX2_letter (p := 87) (v := 33) (by decide +kernel)) rfl
theorem dX2_letter_88 : decode cX2_letter 88 = .ok (.istore_n 2, 1) := dc_61 (byA eNcX2_letter (p := 88) (v := 61) (by decide +kernel))
theorem dX2_letter_89 : decode cX2_letter 89 = .ok (.goto 19, 3) := dc_167 (byA eNcX2_letter (p := 89) (v := 167) (by decide +kernel)) (byA eNcX2_letter (p := 90) (v := 0) (by decide +kernel)) (byA eNcX2_letter (p := 91) (v := 19) (by decide +kernel)) (by decide +kernel)
theorem dX2_letter_92 : decode cX2_letter 92 = .ok (.aload_n 0, 1) := dc_42 (byA eNcX2_letter (p := 92) (v := 42) (by decide +kernel))
theorem dX2_letter_93 : decode cX2_letter 93 = .ok (.getfield 9, 3) := dc_180 (byA eNcX2_letter (p := 93) (v := 180) (by decide +kernel)) (byA eNcX2_letter (p := 94) (v := 0) (by decide +kernel)) (byA eNcX2_letter (p := 95) (v := 9) (by decide +kernel)) rfl
theorem dX2_letter_96 : decode cX2_letter 96 = .ok (.aload_n 0, 1) := dc_42 (byA eNcX2_letter (p := 96) (v := 42) (by decide +kernel))
theorem dX2_letter_97 : decode cX2_letter 97 = .ok (.getfield 9, 3) := dc_180 (byA eNcX2_letter (p := 97) (v := 180) (by decide +kernel)) (byA eNcX2_letter (p := 98) (v := 0) (by decide +kernel)) (byA eNcX2_letter (p := 99) (v := 9) (by decide +kernel)) rfl
theorem dX2_letter_100 : decode cX2_letter 100 = .ok (.getfield 90, 3) := dc_180 (byA eNcX2_letter (p := 100) (v := 180) (by decide +kernel)) (byA eNcX2_letter (p := 101) (v := 0) (by decide +kernel)) (byA eNcX2_letter (p := 102) (v := 90) (by decide +kernel)) rfl
theorem dX2_letter_103 : decode cX2_letter 103 = .ok (.invokevirtual 105, 3) := dc_182 (byA eNcX2_letter (p := 103) (v := 182) (by decide +kernel)) (byA eNcX2_letter (p := 104) (v := 0) (by decide +kernel)) (byA eNcX2_letter (p := 105) (v := 105) (by decide +kernel)) rfl
theorem dX2_letter_106 : decode cX2_letter 106 = .ok (.iconst 0, 1) := dc_3 (byA eNcX2_letter (p := 106) (v := 3) (by decide +kernel))
theorem dX2_letter_107 : decode cX2_letter 107 = .ok (.ireturn, 1) := dc_172 (byA eNcX2_letter (p := 107) (v := 172) (by decide +kernel))
theorem dX2_letter_108 : decode cX2_letter 108 = .ok (.aload_n 0, 1) := dc_42 (byA eNcX2_letter (p := 108) (v := 42) (by decide +kernel))
theorem dX2_letter_109 : decode cX2_letter 109 = .ok (.getfield 9, 3) := dc_180 (byA eNcX2_letter (p := 109) (v := 180) (by decide +kernel)) (byA eNcX2_letter (p := 110) (v := 0) (by decide +kernel)) (byA eNcX2_letter (p := 111) (v := 9) (by decide +kernel)) rfl
theorem dX2_letter_112 : decode cX2_letter 112 = .ok (.invokevirtual 108, 3) := dc_182 (byA eNcX2_letter (p := 112) (v := 182) (by decide +kernel)) (byA eNcX2_letter (p := 113) (v := 0) (by decide +kernel)) (byA eNcX2_letter (p := 114) (v := 108) (by decide +kernel)) rfl
theorem dX2_letter_115 : decode cX2_letter 115 = .ok (.iload_n 2, 1) := dc_28 (byA eNcX2_letter (p := 115) (v := 28) (by decide +kernel))
theorem dX2_letter_116 : decode cX2_letter 116 = .ok (.ireturn, 1) := dc_172 (byA eNcX2_letter (p := 116) (v := 172) (by decide +kernel))
def X2_letter (l1 : Int) (μ : Mm) : Rs := if l1 = 99 then (bd (X4_pass μ) fun v2 μ3 => some (μ 4 4, μ3)) else (if l1 = 107 then (bd (X4_pass μ) fun v6 μ7 => some (μ 4 2, μ7)) else (if l1 = 108 then (bd (X4_pass μ) fun v10 μ11 => some (μ 4 5, μ11)) else (if l1 = 110 then (bd (X4_pass μ) fun v14 μ15 => some (μ 4 3, μ15)) else (if l1 = 116 then (bd (X4_pass μ) fun v18 μ19 => some (μ 4 1, μ19)) else (bd (X4_refuseAt (μ 3 1) μ) fun v21 μ22 => some (0, μ22))))))
set_option maxHeartbeats 4000000 in
set_option maxRecDepth 100000 in
theorem kX2_letter (d : Nat) (hd : 2 ≤ d) {l1 : Int} {μ : Mm} {r : Int} {μ' : Mm} (h : X2_letter l1 μ = some (r, μ')) : CC d mX2_letter [vR 4, vI l1] μ r μ' := by
  unfold X2_letter at h
  refine V_enter (by decide) (Nat.le_of_ble_eq_true rfl) ?_
  show VV d mX2_letter 0 [some (vR 4), some (vI l1), none] [] μ r μ'
  refine V_iconst (q := 1) dX2_letter_0 rfl rfl ?_
  refine V_istore_n (q := 2) dX2_letter_1 rfl (Nat.le_of_ble_eq_true rfl) trivial rfl ?_
  refine V_iload_n (q := 3) dX2_letter_2 rfl rfl rfl ?_
  refine V_ls1 (q := 76) 99 dX2_letter_3 rfl rfl (by decide) (fun hc1 => ?_) (fun hc1 => ?_)
  · have h := ifT hc1 h
    refine V_aload_n (q := 77) dX2_letter_76 rfl rfl rfl ?_
    refine V_getI (q := 80) fl_X2_49 rfl rfl rfl dX2_letter_77 rfl ?_
    refine V_istore_n (q := 81) dX2_letter_80 rfl (Nat.le_of_ble_eq_true rfl) trivial rfl ?_
    refine V_goto (q := 108) dX2_letter_81 (by decide) ?_
    refine V_aload_n (q := 109) dX2_letter_108 rfl rfl rfl ?_
    refine V_getC (q := 112) fl_X2_9 rfl rfl rfl dX2_letter_109 rfl ?_
    obtain ⟨v2, μ3, hc4, h⟩ := bd_i h
    refine V_cV0 (q := 115) (kX4_pass (d - 1) (by omega) hc4) (by omega) mv_X2_108 rfl rfl rfl rfl rfl rfl dX2_letter_112 rfl ?_
    refine V_iload_n (q := 116) dX2_letter_115 rfl rfl rfl ?_
    exact V_iret rfl h dX2_letter_116
  · have h := ifF hc1 h
    refine V_ls1 (q := 60) 107 dX2_letter_3 rfl rfl (by decide) (fun hc5 => ?_) (fun hc5 => ?_)
    · have h := ifT hc5 h
      refine V_aload_n (q := 61) dX2_letter_60 rfl rfl rfl ?_
      refine V_getI (q := 64) fl_X2_43 rfl rfl rfl dX2_letter_61 rfl ?_
      refine V_istore_n (q := 65) dX2_letter_64 rfl (Nat.le_of_ble_eq_true rfl) trivial rfl ?_
      refine V_goto (q := 108) dX2_letter_65 (by decide) ?_
      refine V_aload_n (q := 109) dX2_letter_108 rfl rfl rfl ?_
      refine V_getC (q := 112) fl_X2_9 rfl rfl rfl dX2_letter_109 rfl ?_
      obtain ⟨v6, μ7, hc8, h⟩ := bd_i h
      refine V_cV0 (q := 115) (kX4_pass (d - 1) (by omega) hc8) (by omega) mv_X2_108 rfl rfl rfl rfl rfl rfl dX2_letter_112 rfl ?_
      refine V_iload_n (q := 116) dX2_letter_115 rfl rfl rfl ?_
      exact V_iret rfl h dX2_letter_116
    · have h := ifF hc5 h
      refine V_ls1 (q := 84) 108 dX2_letter_3 rfl rfl (by decide) (fun hc9 => ?_) (fun hc9 => ?_)
      · have h := ifT hc9 h
        refine V_aload_n (q := 85) dX2_letter_84 rfl rfl rfl ?_
        refine V_getI (q := 88) fl_X2_33 rfl rfl rfl dX2_letter_85 rfl ?_
        refine V_istore_n (q := 89) dX2_letter_88 rfl (Nat.le_of_ble_eq_true rfl) trivial rfl ?_
        refine V_goto (q := 108) dX2_letter_89 (by decide) ?_
        refine V_aload_n (q := 109) dX2_letter_108 rfl rfl rfl ?_
        refine V_getC (q := 112) fl_X2_9 rfl rfl rfl dX2_letter_109 rfl ?_
        obtain ⟨v10, μ11, hc12, h⟩ := bd_i h
        refine V_cV0 (q := 115) (kX4_pass (d - 1) (by omega) hc12) (by omega) mv_X2_108 rfl rfl rfl rfl rfl rfl dX2_letter_112 rfl ?_
        refine V_iload_n (q := 116) dX2_letter_115 rfl rfl rfl ?_
        exact V_iret rfl h dX2_letter_116
      · have h := ifF hc9 h
        refine V_ls1 (q := 68) 110 dX2_letter_3 rfl rfl (by decide) (fun hc13 => ?_) (fun hc13 => ?_)
        · have h := ifT hc13 h
          refine V_aload_n (q := 69) dX2_letter_68 rfl rfl rfl ?_
          refine V_getI (q := 72) fl_X2_25 rfl rfl rfl dX2_letter_69 rfl ?_
          refine V_istore_n (q := 73) dX2_letter_72 rfl (Nat.le_of_ble_eq_true rfl) trivial rfl ?_
          refine V_goto (q := 108) dX2_letter_73 (by decide) ?_
          refine V_aload_n (q := 109) dX2_letter_108 rfl rfl rfl ?_
          refine V_getC (q := 112) fl_X2_9 rfl rfl rfl dX2_letter_109 rfl ?_
          obtain ⟨v14, μ15, hc16, h⟩ := bd_i h
          refine V_cV0 (q := 115) (kX4_pass (d - 1) (by omega) hc16) (by omega) mv_X2_108 rfl rfl rfl rfl rfl rfl dX2_letter_112 rfl ?_
          refine V_iload_n (q := 116) dX2_letter_115 rfl rfl rfl ?_
          exact V_iret rfl h dX2_letter_116
        · have h := ifF hc13 h
          refine V_ls1 (q := 52) 116 dX2_letter_3 rfl rfl (by decide) (fun hc17 => ?_) (fun hc17 => ?_)
          · have h := ifT hc17 h
            refine V_aload_n (q := 53) dX2_letter_52 rfl rfl rfl ?_
            refine V_getI (q := 56) fl_X2_40 rfl rfl rfl dX2_letter_53 rfl ?_
            refine V_istore_n (q := 57) dX2_letter_56 rfl (Nat.le_of_ble_eq_true rfl) trivial rfl ?_
            refine V_goto (q := 108) dX2_letter_57 (by decide) ?_
            refine V_aload_n (q := 109) dX2_letter_108 rfl rfl rfl ?_
            refine V_getC (q := 112) fl_X2_9 rfl rfl rfl dX2_letter_109 rfl ?_
            obtain ⟨v18, μ19, hc20, h⟩ := bd_i h
            refine V_cV0 (q := 115) (kX4_pass (d - 1) (by omega) hc20) (by omega) mv_X2_108 rfl rfl rfl rfl rfl rfl dX2_letter_112 rfl ?_
            refine V_iload_n (q := 116) dX2_letter_115 rfl rfl rfl ?_
            exact V_iret rfl h dX2_letter_116
          · have h := ifF hc17 h
            refine V_ls (q := 92) (off := 89) dX2_letter_3 rfl (by simp [Op.lookupswitch.offset, Ne.symm hc1, Ne.symm hc5, Ne.symm hc9, Ne.symm hc13, Ne.symm hc17]) (by decide) ?_
            refine V_aload_n (q := 93) dX2_letter_92 rfl rfl rfl ?_
            refine V_getC (q := 96) fl_X2_9 rfl rfl rfl dX2_letter_93 rfl ?_
            refine V_aload_n (q := 97) dX2_letter_96 rfl rfl rfl ?_
            refine V_getC (q := 100) fl_X2_9 rfl rfl rfl dX2_letter_97 rfl ?_
            refine V_getI (q := 103) fl_X2_90 rfl rfl rfl dX2_letter_100 rfl ?_
            obtain ⟨v21, μ22, hc23, h⟩ := bd_i h
            refine V_cV0 (q := 106) (kX4_refuseAt (d - 1) (by omega) hc23) (by omega) mv_X2_105 rfl rfl rfl rfl rfl rfl dX2_letter_103 rfl ?_
            refine V_iconst (q := 107) dX2_letter_106 rfl rfl ?_
            exact V_iret rfl h dX2_letter_107
abbrev mX2_held : Mth := (yX2_held, cX2_held, 2, some .long)
set_option maxRecDepth 100000 in
theorem mi_X2_held : Cond.static yX2_held ∈ tG ∧ Cond.initialized yX2_held.cls ∈ tG ∧ Cond.code yX2_held cX2_held 2 (some .long) ∈ tG ∧ (yX2_held.cls ≠ "java/lang/invoke/MethodHandle" ∧ yX2_held.cls ≠ "java/lang/invoke/VarHandle" ∧ (parseMethodDescriptor yX2_held.desc).map (fun d => d.parameters.length) = some 1) ∧ 2 ≤ 60 := ⟨(tG_of (tb3 (List.mem_of_getElem? (i := 36) rfl)) (by decide +kernel)), (tG_of (tb1 (List.mem_of_getElem? (i := 4) rfl)) (by decide +kernel)), (tG_of (tb3 (List.mem_of_getElem? (i := 37) rfl)) (by decide +kernel)), ⟨by decide, by decide, by decide +kernel⟩, by decide⟩
set_option maxRecDepth 100000 in
theorem mv_X2_120 : mS RX2 120 mX2_held 1 := ⟨(tG_of (tb3 (List.mem_of_getElem? (i := 35) rfl)) (by decide +kernel)), mi_X2_held.1, (tG_of (tb1 (List.mem_of_getElem? (i := 4) rfl)) (by decide +kernel)), mi_X2_held.2⟩
theorem dX2_held_0 : decode cX2_held 0 = .ok (.ldc2_w 127, 3) := by decide +kernel
theorem dX2_held_3 : decode cX2_held 3 = .ok (.ldc2_w 129, 3) := by decide +kernel
theorem dX2_held_6 : decode cX2_held 6 = .ok (.lload_n 0, 1) := dc_30 (byA eNcX2_held (p := 6) (v := 30) (by decide +kernel))
theorem dX2_held_7 : decode cX2_held 7 = .ok (.invokestatic 131, 3) := dc_184 (byA eNcX2_held (p := 7) (v := 184) (by decide +kernel)) (byA eNcX2_held (p := 8) (v := 0) (by decide +kernel)) (byA eNcX2_held (p := 9) (v := 131) (by decide +kernel)) rfl
theorem dX2_held_10 : decode cX2_held 10 = .ok (.invokestatic 134, 3) := dc_184 (byA eNcX2_held (p := 10) (v := 184) (by decide +kernel)) (byA eNcX2_held (p := 11) (v := 0) (by decide +kernel)) (byA eNcX2_held (p := 12) (v := 134) (by decide +kernel)) rfl
theorem dX2_held_13 : decode cX2_held 13 = .ok (.lreturn, 1) := dc_173 (byA eNcX2_held (p := 13) (v := 173) (by decide +kernel))
def X2_held (l0 : Int) (μ : Mm) : Rs := some (mX (-1000000) (mN 1000000 l0), μ)
set_option maxHeartbeats 4000000 in
set_option maxRecDepth 100000 in
theorem kX2_held (d : Nat) (hd : 1 ≤ d) {l0 : Int} {μ : Mm} {r : Int} {μ' : Mm} (h : X2_held l0 μ = some (r, μ')) : CC d mX2_held [vL l0] μ r μ' := by
  unfold X2_held at h
  refine V_enter (by decide) (Nat.le_of_ble_eq_true rfl) ?_
  show VV d mX2_held 0 [some (vL l0), none] [] μ r μ'
  refine V_ldc2 (q := 3) (n := -1000000) dX2_held_0 (by unfold rL; omega) kc_X2_127 rfl ?_
  refine V_ldc2 (q := 6) (n := 1000000) dX2_held_3 (by unfold rL; omega) kc_X2_129 rfl ?_
  refine V_lload_n (q := 7) dX2_held_6 rfl rfl rfl ?_
  refine V_lmin (q := 10) mx_X2_131 (by omega) rfl dX2_held_7 rfl ?_
  refine V_lmax (q := 13) mx_X2_134 (by omega) rfl dX2_held_10 rfl ?_
  exact V_lret rfl h dX2_held_13
abbrev mX2_atom : Mth := (yX2_atom, cX2_atom, 4, some .int)
set_option maxRecDepth 100000 in
theorem mi_X2_atom : Cond.instanceMethod yX2_atom ∈ tG ∧ Cond.selects yX2_atom.cls yX2_atom yX2_atom ∈ tG ∧ Cond.initialized yX2_atom.cls ∈ tG ∧ Cond.code yX2_atom cX2_atom 4 (some .int) ∈ tG ∧ (yX2_atom.cls ≠ "java/lang/invoke/MethodHandle" ∧ yX2_atom.cls ≠ "java/lang/invoke/VarHandle" ∧ (parseMethodDescriptor yX2_atom.desc).map (fun d => d.parameters.length) = some 1) ∧ 4 ≤ 60 := ⟨(tG_of (tb3 (List.mem_of_getElem? (i := 24) rfl)) (by decide +kernel)), (tG_of (List.mem_of_getElem? (i := 8) (by decide +kernel)) (by decide +kernel)), (tG_of (tb1 (List.mem_of_getElem? (i := 4) rfl)) (by decide +kernel)), (tG_of (tb3 (List.mem_of_getElem? (i := 25) rfl)) (by decide +kernel)), ⟨by decide, by decide, by decide +kernel⟩, by decide⟩
set_option maxRecDepth 100000 in
theorem mv_X2_124 : mV RX2 124 mX2_atom 1 := ⟨(tG_of (tb3 (List.mem_of_getElem? (i := 22) rfl)) (by decide +kernel)), mi_X2_atom⟩
abbrev mX2_term : Mth := (yX2_term, cX2_term, 6, some .int)
set_option maxRecDepth 100000 in
theorem mi_X2_term : Cond.instanceMethod yX2_term ∈ tG ∧ Cond.selects yX2_term.cls yX2_term yX2_term ∈ tG ∧ Cond.initialized yX2_term.cls ∈ tG ∧ Cond.code yX2_term cX2_term 6 (some .int) ∈ tG ∧ (yX2_term.cls ≠ "java/lang/invoke/MethodHandle" ∧ yX2_term.cls ≠ "java/lang/invoke/VarHandle" ∧ (parseMethodDescriptor yX2_term.desc).map (fun d => d.parameters.length) = some 1) ∧ 6 ≤ 60 := ⟨(tG_of (tb3 (List.mem_of_getElem? (i := 20) rfl)) (by decide +kernel)), (tG_of (List.mem_of_getElem? (i := 7) (by decide +kernel)) (by decide +kernel)), (tG_of (tb1 (List.mem_of_getElem? (i := 4) rfl)) (by decide +kernel)), (tG_of (tb3 (List.mem_of_getElem? (i := 21) rfl)) (by decide +kernel)), ⟨by decide, by decide, by decide +kernel⟩, by decide⟩
set_option maxRecDepth 100000 in
theorem mv_X2_117 : mV RX2 117 mX2_term 1 := ⟨(tG_of (tb3 (List.mem_of_getElem? (i := 18) rfl)) (by decide +kernel)), mi_X2_term⟩
abbrev mX2_sum : Mth := (yX2_sum, cX2_sum, 5, some .int)
set_option maxRecDepth 100000 in
theorem mi_X2_sum : Cond.instanceMethod yX2_sum ∈ tG ∧ Cond.selects yX2_sum.cls yX2_sum yX2_sum ∈ tG ∧ Cond.initialized yX2_sum.cls ∈ tG ∧ Cond.code yX2_sum cX2_sum 5 (some .int) ∈ tG ∧ (yX2_sum.cls ≠ "java/lang/invoke/MethodHandle" ∧ yX2_sum.cls ≠ "java/lang/invoke/VarHandle" ∧ (parseMethodDescriptor yX2_sum.desc).map (fun d => d.parameters.length) = some 1) ∧ 5 ≤ 60 := ⟨(tG_of (tb3 (List.mem_of_getElem? (i := 16) rfl)) (by decide +kernel)), (tG_of (List.mem_of_getElem? (i := 6) (by decide +kernel)) (by decide +kernel)), (tG_of (tb1 (List.mem_of_getElem? (i := 4) rfl)) (by decide +kernel)), (tG_of (tb3 (List.mem_of_getElem? (i := 17) rfl)) (by decide +kernel)), ⟨by decide, by decide, by decide +kernel⟩, by decide⟩
set_option maxRecDepth 100000 in
theorem mv_X2_77 : mV RX2 77 mX2_sum 1 := ⟨(tG_of (tb3 (List.mem_of_getElem? (i := 14) rfl)) (by decide +kernel)), mi_X2_sum⟩
theorem dX2_atom_0 : decode cX2_atom 0 = .ok (.aload_n 0, 1) := dc_42 (byA eNcX2_atom (p := 0) (v := 42) (by decide +kernel))
theorem dX2_atom_1 : decode cX2_atom 1 = .ok (.getfield 9, 3) := dc_180 (byA eNcX2_atom (p := 1) (v := 180) (by decide +kernel)) (byA eNcX2_atom (p := 2) (v := 0) (by decide +kernel)) (byA eNcX2_atom (p := 3) (v := 9) (by decide +kernel)) rfl
theorem dX2_atom_4 : decode cX2_atom 4 = .ok (.invokevirtual 87, 3) := dc_182 (byA eNcX2_atom (p := 4) (v := 182) (by decide +kernel)) (byA eNcX2_atom (p := 5) (v := 0) (by decide +kernel)) (byA eNcX2_atom (p := 6) (v := 87) (by decide +kernel)) rfl
theorem dX2_atom_7 : decode cX2_atom 7 = .ok (.istore_n 2, 1) := dc_61 (byA eNcX2_atom (p := 7) (v := 61) (by decide +kernel))
theorem dX2_atom_8 : decode cX2_atom 8 = .ok (.iload_n 2, 1) := dc_28 (byA eNcX2_atom (p := 8) (v := 28) (by decide +kernel))
theorem dX2_atom_9 : decode cX2_atom 9 = .ok (.invokestatic 136, 3) := dc_184 (byA eNcX2_atom (p := 9) (v := 184) (by decide +kernel)) (byA eNcX2_atom (p := 10) (v := 0) (by decide +kernel)) (byA eNcX2_atom (p := 11) (v := 136) (by decide +kernel)) rfl
theorem dX2_atom_12 : decode cX2_atom 12 = .ok (.ifCond .eq 12, 3) := dc_153 (byA eNcX2_atom (p := 12) (v := 153) (by decide +kernel)) (byA eNcX2_atom (p := 13) (v := 0) (by decide +kernel)) (byA eNcX2_atom (p := 14) (v := 12) (by decide +kernel)) (by decide +kernel)
theorem dX2_atom_15 : decode cX2_atom 15 = .ok (.aload_n 0, 1) := dc_42 (byA eNcX2_atom (p := 15) (v := 42) (by decide +kernel))
theorem dX2_atom_16 : decode cX2_atom 16 = .ok (.getfield 9, 3) := dc_180 (byA eNcX2_atom (p := 16) (v := 180) (by decide +kernel)) (byA eNcX2_atom (p := 17) (v := 0) (by decide +kernel)) (byA eNcX2_atom (p := 18) (v := 9) (by decide +kernel)) rfl
theorem dX2_atom_19 : decode cX2_atom 19 = .ok (.iconst 4, 1) := dc_7 (byA eNcX2_atom (p := 19) (v := 7) (by decide +kernel))
theorem dX2_atom_20 : decode cX2_atom 20 = .ok (.invokevirtual 139, 3) := dc_182 (byA eNcX2_atom (p := 20) (v := 182) (by decide +kernel)) (byA eNcX2_atom (p := 21) (v := 0) (by decide +kernel)) (byA eNcX2_atom (p := 22) (v := 139) (by decide +kernel)) rfl
theorem dX2_atom_23 : decode cX2_atom 23 = .ok (.ireturn, 1) := dc_172 (byA eNcX2_atom (p := 23) (v := 172) (by decide +kernel))
theorem dX2_atom_24 : decode cX2_atom 24 = .ok (.iload_n 2, 1) := dc_28 (byA eNcX2_atom (p := 24) (v := 28) (by decide +kernel))
theorem dX2_atom_25 : decode cX2_atom 25 = .ok (.bipush 91, 2) := dc_16 (byA eNcX2_atom (p := 25) (v := 16) (by decide +kernel)) (byA eNcX2_atom (p := 26) (v := 91) (by decide +kernel)) (by decide +kernel)
theorem dX2_atom_27 : decode cX2_atom 27 = .ok (.if_icmp .ne 35, 3) := dc_160 (byA eNcX2_atom (p := 27) (v := 160) (by decide +kernel)) (byA eNcX2_atom (p := 28) (v := 0) (by decide +kernel)) (byA eNcX2_atom (p := 29) (v := 35) (by decide +kernel)) (by decide +kernel)
theorem dX2_atom_30 : decode cX2_atom 30 = .ok (.iload_n 1, 1) := dc_27 (byA eNcX2_atom (p := 30) (v := 27) (by decide +kernel))
theorem dX2_atom_31 : decode cX2_atom 31 = .ok (.bipush 6, 2) := dc_16 (byA eNcX2_atom (p := 31) (v := 16) (by decide +kernel)) (byA eNcX2_atom (p := 32) (v := 6) (by decide +kernel)) (by decide +kernel)
theorem dX2_atom_33 : decode cX2_atom 33 = .ok (.if_icmp .ge 29, 3) := dc_162 (byA eNcX2_atom (p := 33) (v := 162) (by decide +kernel)) (byA eNcX2_atom (p := 34) (v := 0) (by decide +kernel)) (byA eNcX2_atom (p := 35) (v := 29) (by decide +kernel)) (by decide +kernel)
theorem dX2_atom_36 : decode cX2_atom 36 = .ok (.aload_n 0, 1) := dc_42 (byA eNcX2_atom (p := 36) (v := 42) (by decide +kernel))
theorem dX2_atom_37 : decode cX2_atom 37 = .ok (.getfield 9, 3) := dc_180 (byA eNcX2_atom (p := 37) (v := 180) (by decide +kernel)) (byA eNcX2_atom (p := 38) (v := 0) (by decide +kernel)) (byA eNcX2_atom (p := 39) (v := 9) (by decide +kernel)) rfl
theorem dX2_atom_40 : decode cX2_atom 40 = .ok (.invokevirtual 108, 3) := dc_182 (byA eNcX2_atom (p := 40) (v := 182) (by decide +kernel)) (byA eNcX2_atom (p := 41) (v := 0) (by decide +kernel)) (byA eNcX2_atom (p := 42) (v := 108) (by decide +kernel)) rfl
theorem dX2_atom_43 : decode cX2_atom 43 = .ok (.aload_n 0, 1) := dc_42 (byA eNcX2_atom (p := 43) (v := 42) (by decide +kernel))
theorem dX2_atom_44 : decode cX2_atom 44 = .ok (.iload_n 1, 1) := dc_27 (byA eNcX2_atom (p := 44) (v := 27) (by decide +kernel))
theorem dX2_atom_45 : decode cX2_atom 45 = .ok (.iconst 1, 1) := dc_4 (byA eNcX2_atom (p := 45) (v := 4) (by decide +kernel))
theorem dX2_atom_46 : decode cX2_atom 46 = .ok (.iadd, 1) := dc_96 (byA eNcX2_atom (p := 46) (v := 96) (by decide +kernel))
theorem dX2_atom_47 : decode cX2_atom 47 = .ok (.invokevirtual 77, 3) := dc_182 (byA eNcX2_atom (p := 47) (v := 182) (by decide +kernel)) (byA eNcX2_atom (p := 48) (v := 0) (by decide +kernel)) (byA eNcX2_atom (p := 49) (v := 77) (by decide +kernel)) rfl
theorem dX2_atom_50 : decode cX2_atom 50 = .ok (.istore_n 3, 1) := dc_62 (byA eNcX2_atom (p := 50) (v := 62) (by decide +kernel))
theorem dX2_atom_51 : decode cX2_atom 51 = .ok (.aload_n 0, 1) := dc_42 (byA eNcX2_atom (p := 51) (v := 42) (by decide +kernel))
theorem dX2_atom_52 : decode cX2_atom 52 = .ok (.getfield 9, 3) := dc_180 (byA eNcX2_atom (p := 52) (v := 180) (by decide +kernel)) (byA eNcX2_atom (p := 53) (v := 0) (by decide +kernel)) (byA eNcX2_atom (p := 54) (v := 9) (by decide +kernel)) rfl
theorem dX2_atom_55 : decode cX2_atom 55 = .ok (.bipush 93, 2) := dc_16 (byA eNcX2_atom (p := 55) (v := 16) (by decide +kernel)) (byA eNcX2_atom (p := 56) (v := 93) (by decide +kernel)) (by decide +kernel)
theorem dX2_atom_57 : decode cX2_atom 57 = .ok (.invokevirtual 65, 3) := dc_182 (byA eNcX2_atom (p := 57) (v := 182) (by decide +kernel)) (byA eNcX2_atom (p := 58) (v := 0) (by decide +kernel)) (byA eNcX2_atom (p := 59) (v := 65) (by decide +kernel)) rfl
theorem dX2_atom_60 : decode cX2_atom 60 = .ok (.iload_n 3, 1) := dc_29 (byA eNcX2_atom (p := 60) (v := 29) (by decide +kernel))
theorem dX2_atom_61 : decode cX2_atom 61 = .ok (.ireturn, 1) := dc_172 (byA eNcX2_atom (p := 61) (v := 172) (by decide +kernel))
theorem dX2_atom_62 : decode cX2_atom 62 = .ok (.aload_n 0, 1) := dc_42 (byA eNcX2_atom (p := 62) (v := 42) (by decide +kernel))
theorem dX2_atom_63 : decode cX2_atom 63 = .ok (.iload_n 2, 1) := dc_28 (byA eNcX2_atom (p := 63) (v := 28) (by decide +kernel))
theorem dX2_atom_64 : decode cX2_atom 64 = .ok (.invokevirtual 141, 3) := dc_182 (byA eNcX2_atom (p := 64) (v := 182) (by decide +kernel)) (byA eNcX2_atom (p := 65) (v := 0) (by decide +kernel)) (byA eNcX2_atom (p := 66) (v := 141) (by decide +kernel)) rfl
theorem dX2_atom_67 : decode cX2_atom 67 = .ok (.ireturn, 1) := dc_172 (byA eNcX2_atom (p := 67) (v := 172) (by decide +kernel))
def X2_atom_o (rec : Int → Mm → Rs) (l1 : Int) (μ : Mm) : Rs := bd (X4_peek μ) fun v1 μ2 => bd (X4_isDigit v1 μ2) fun v4 μ5 => if v4 = 0 then (if v1 = 91 then (if 6 ≤ l1 then (bd (X2_letter v1 μ5) fun v13 μ14 => some (v13, μ14)) else (bd (X4_pass μ5) fun v16 μ17 => bd (rec (iA l1 1) μ17) fun v19 μ20 => bd (X4_need 93 μ20) fun v22 μ23 => some (v19, μ23))) else (bd (X2_letter v1 μ5) fun v9 μ10 => some (v9, μ10))) else (bd (X4_number 4 μ5) fun v25 μ26 => some (v25, μ26))
set_option maxHeartbeats 4000000 in
set_option maxRecDepth 100000 in
theorem kX2_atom (d : Nat) {d0 : Nat} (hd : d0 + 2 ≤ d) {rec : Int → Mm → Rs} (hrec : ∀ {q1 : Int} {μ1 : Mm} {r1 : Int} {μ2 : Mm}, rec q1 μ1 = some (r1, μ2) → CC d0 mX2_sum [vR 4, vI q1] μ1 r1 μ2) (hb : 5 ≤ d) {l1 : Int} {μ : Mm} {r : Int} {μ' : Mm} (h : X2_atom_o rec l1 μ = some (r, μ')) : CC d mX2_atom [vR 4, vI l1] μ r μ' := by
  unfold X2_atom_o at h
  refine V_enter (by decide) (Nat.le_of_ble_eq_true rfl) ?_
  show VV d mX2_atom 0 [some (vR 4), some (vI l1), none, none] [] μ r μ'
  refine V_aload_n (q := 1) dX2_atom_0 rfl rfl rfl ?_
  refine V_getC (q := 4) fl_X2_9 rfl rfl rfl dX2_atom_1 rfl ?_
  obtain ⟨v1, μ2, hc3, h⟩ := bd_i h
  refine V_cV1 (q := 7) (v := vI v1) (kX4_peek (d - 1) (by omega) hc3) (by omega) mv_X2_87 rfl rfl rfl rfl rfl rfl dX2_atom_4 rfl ?_
  refine V_istore_n (q := 8) dX2_atom_7 rfl (Nat.le_of_ble_eq_true rfl) trivial rfl ?_
  refine V_iload_n (q := 9) dX2_atom_8 rfl rfl rfl ?_
  obtain ⟨v4, μ5, hc6, h⟩ := bd_i h
  refine V_cS1 (q := 12) (v := vI v4) (kX4_isDigit (d - 1) (by omega) hc6) (by omega) mv_X2_136 rfl rfl rfl rfl dX2_atom_9 rfl ?_
  refine V_ifeq (q := 24) (q2 := 15) dX2_atom_12 (by decide) rfl (fun hc7 => ?_) (fun hc7 => ?_)
  · have h := ifT hc7 h
    refine V_iload_n (q := 25) dX2_atom_24 rfl rfl rfl ?_
    refine V_bipush (q := 27) dX2_atom_25 rfl rfl rfl ?_
    refine V_icmpne (q := 62) (q2 := 30) dX2_atom_27 (by decide) rfl (fun hc8 => ?_) (fun hc8 => ?_)
    · have h := ifF hc8 h
      refine V_aload_n (q := 63) dX2_atom_62 rfl rfl rfl ?_
      refine V_iload_n (q := 64) dX2_atom_63 rfl rfl rfl ?_
      obtain ⟨v9, μ10, hc11, h⟩ := bd_i h
      refine V_cV1 (q := 67) (v := vI v9) (kX2_letter (d - 1) (by omega) hc11) (by omega) mv_X2_141 rfl rfl rfl rfl rfl rfl dX2_atom_64 rfl ?_
      exact V_iret rfl h dX2_atom_67
    · have h := ifT hc8 h
      refine V_iload_n (q := 31) dX2_atom_30 rfl rfl rfl ?_
      refine V_bipush (q := 33) dX2_atom_31 rfl rfl rfl ?_
      refine V_icmpge (q := 62) (q2 := 36) dX2_atom_33 (by decide) rfl (fun hc12 => ?_) (fun hc12 => ?_)
      · have h := ifT hc12 h
        refine V_aload_n (q := 63) dX2_atom_62 rfl rfl rfl ?_
        refine V_iload_n (q := 64) dX2_atom_63 rfl rfl rfl ?_
        obtain ⟨v13, μ14, hc15, h⟩ := bd_i h
        refine V_cV1 (q := 67) (v := vI v13) (kX2_letter (d - 1) (by omega) hc15) (by omega) mv_X2_141 rfl rfl rfl rfl rfl rfl dX2_atom_64 rfl ?_
        exact V_iret rfl h dX2_atom_67
      · have h := ifF hc12 h
        refine V_aload_n (q := 37) dX2_atom_36 rfl rfl rfl ?_
        refine V_getC (q := 40) fl_X2_9 rfl rfl rfl dX2_atom_37 rfl ?_
        obtain ⟨v16, μ17, hc18, h⟩ := bd_i h
        refine V_cV0 (q := 43) (kX4_pass (d - 1) (by omega) hc18) (by omega) mv_X2_108 rfl rfl rfl rfl rfl rfl dX2_atom_40 rfl ?_
        refine V_aload_n (q := 44) dX2_atom_43 rfl rfl rfl ?_
        refine V_iload_n (q := 45) dX2_atom_44 rfl rfl rfl ?_
        refine V_iconst (q := 46) dX2_atom_45 rfl rfl ?_
        refine V_iadd (q := 47) dX2_atom_46 rfl ?_
        obtain ⟨v19, μ20, hc21, h⟩ := bd_i h
        refine V_cV1 (q := 50) (v := vI v19) (hrec hc21) (by omega) mv_X2_77 rfl rfl rfl rfl rfl rfl dX2_atom_47 rfl ?_
        refine V_istore_n (q := 51) dX2_atom_50 rfl (Nat.le_of_ble_eq_true rfl) trivial rfl ?_
        refine V_aload_n (q := 52) dX2_atom_51 rfl rfl rfl ?_
        refine V_getC (q := 55) fl_X2_9 rfl rfl rfl dX2_atom_52 rfl ?_
        refine V_bipush (q := 57) dX2_atom_55 rfl rfl rfl ?_
        obtain ⟨v22, μ23, hc24, h⟩ := bd_i h
        refine V_cV0 (q := 60) (kX4_need (d - 1) (by omega) hc24) (by omega) mv_X2_65 rfl rfl rfl rfl rfl rfl dX2_atom_57 rfl ?_
        refine V_iload_n (q := 61) dX2_atom_60 rfl rfl rfl ?_
        exact V_iret rfl h dX2_atom_61
  · have h := ifF hc7 h
    refine V_aload_n (q := 16) dX2_atom_15 rfl rfl rfl ?_
    refine V_getC (q := 19) fl_X2_9 rfl rfl rfl dX2_atom_16 rfl ?_
    refine V_iconst (q := 20) dX2_atom_19 rfl rfl ?_
    obtain ⟨v25, μ26, hc27, h⟩ := bd_i h
    refine V_cV1 (q := 23) (v := vI v25) (kX4_number (d - 1) (by omega) hc27) (by omega) mv_X2_139 rfl rfl rfl rfl rfl rfl dX2_atom_20 rfl ?_
    exact V_iret rfl h dX2_atom_23
theorem dX2_term_0 : decode cX2_term 0 = .ok (.aload_n 0, 1) := dc_42 (byA eNcX2_term (p := 0) (v := 42) (by decide +kernel))
theorem dX2_term_1 : decode cX2_term 1 = .ok (.iload_n 1, 1) := dc_27 (byA eNcX2_term (p := 1) (v := 27) (by decide +kernel))
theorem dX2_term_2 : decode cX2_term 2 = .ok (.invokevirtual 124, 3) := dc_182 (byA eNcX2_term (p := 2) (v := 182) (by decide +kernel)) (byA eNcX2_term (p := 3) (v := 0) (by decide +kernel)) (byA eNcX2_term (p := 4) (v := 124) (by decide +kernel)) rfl
theorem dX2_term_5 : decode cX2_term 5 = .ok (.i2l, 1) := dc_133 (byA eNcX2_term (p := 5) (v := 133) (by decide +kernel))
theorem dX2_term_6 : decode cX2_term 6 = .ok (.lstore_n 2, 1) := dc_65 (byA eNcX2_term (p := 6) (v := 65) (by decide +kernel))
theorem dX2_term_7 : decode cX2_term 7 = .ok (.iconst 0, 1) := dc_3 (byA eNcX2_term (p := 7) (v := 3) (by decide +kernel))
theorem dX2_term_8 : decode cX2_term 8 = .ok (.istore 4, 2) := dc_54 (byA eNcX2_term (p := 8) (v := 54) (by decide +kernel)) (byA eNcX2_term (p := 9) (v := 4) (by decide +kernel))
theorem dX2_term_10 : decode cX2_term 10 = .ok (.iload 4, 2) := dc_21 (byA eNcX2_term (p := 10) (v := 21) (by decide +kernel)) (byA eNcX2_term (p := 11) (v := 4) (by decide +kernel))
theorem dX2_term_12 : decode cX2_term 12 = .ok (.sipush 160, 3) := dc_17 (byA eNcX2_term (p := 12) (v := 17) (by decide +kernel)) (byA eNcX2_term (p := 13) (v := 0) (by decide +kernel)) (byA eNcX2_term (p := 14) (v := 160) (by decide +kernel)) (by decide +kernel)
theorem dX2_term_15 : decode cX2_term 15 = .ok (.if_icmp .ge 73, 3) := dc_162 (byA eNcX2_term (p := 15) (v := 162) (by decide +kernel)) (byA eNcX2_term (p := 16) (v := 0) (by decide +kernel)) (byA eNcX2_term (p := 17) (v := 73) (by decide +kernel)) (by decide +kernel)
theorem dX2_term_18 : decode cX2_term 18 = .ok (.aload_n 0, 1) := dc_42 (byA eNcX2_term (p := 18) (v := 42) (by decide +kernel))
theorem dX2_term_19 : decode cX2_term 19 = .ok (.getfield 9, 3) := dc_180 (byA eNcX2_term (p := 19) (v := 180) (by decide +kernel)) (byA eNcX2_term (p := 20) (v := 0) (by decide +kernel)) (byA eNcX2_term (p := 21) (v := 9) (by decide +kernel)) rfl
theorem dX2_term_22 : decode cX2_term 22 = .ok (.bipush 42, 2) := dc_16 (byA eNcX2_term (p := 22) (v := 16) (by decide +kernel)) (byA eNcX2_term (p := 23) (v := 42) (by decide +kernel)) (by decide +kernel)
theorem dX2_term_24 : decode cX2_term 24 = .ok (.invokevirtual 81, 3) := dc_182 (byA eNcX2_term (p := 24) (v := 182) (by decide +kernel)) (byA eNcX2_term (p := 25) (v := 0) (by decide +kernel)) (byA eNcX2_term (p := 26) (v := 81) (by decide +kernel)) rfl
theorem dX2_term_27 : decode cX2_term 27 = .ok (.ifCond .eq 18, 3) := dc_153 (byA eNcX2_term (p := 27) (v := 153) (by decide +kernel)) (byA eNcX2_term (p := 28) (v := 0) (by decide +kernel)) (byA eNcX2_term (p := 29) (v := 18) (by decide +kernel)) (by decide +kernel)
theorem dX2_term_30 : decode cX2_term 30 = .ok (.lload_n 2, 1) := dc_32 (byA eNcX2_term (p := 30) (v := 32) (by decide +kernel))
theorem dX2_term_31 : decode cX2_term 31 = .ok (.aload_n 0, 1) := dc_42 (byA eNcX2_term (p := 31) (v := 42) (by decide +kernel))
theorem dX2_term_32 : decode cX2_term 32 = .ok (.iload_n 1, 1) := dc_27 (byA eNcX2_term (p := 32) (v := 27) (by decide +kernel))
theorem dX2_term_33 : decode cX2_term 33 = .ok (.invokevirtual 124, 3) := dc_182 (byA eNcX2_term (p := 33) (v := 182) (by decide +kernel)) (byA eNcX2_term (p := 34) (v := 0) (by decide +kernel)) (byA eNcX2_term (p := 35) (v := 124) (by decide +kernel)) rfl
theorem dX2_term_36 : decode cX2_term 36 = .ok (.i2l, 1) := dc_133 (byA eNcX2_term (p := 36) (v := 133) (by decide +kernel))
theorem dX2_term_37 : decode cX2_term 37 = .ok (.lmul, 1) := dc_105 (byA eNcX2_term (p := 37) (v := 105) (by decide +kernel))
theorem dX2_term_38 : decode cX2_term 38 = .ok (.invokestatic 120, 3) := dc_184 (byA eNcX2_term (p := 38) (v := 184) (by decide +kernel)) (byA eNcX2_term (p := 39) (v := 0) (by decide +kernel)) (byA eNcX2_term (p := 40) (v := 120) (by decide +kernel)) rfl
theorem dX2_term_41 : decode cX2_term 41 = .ok (.lstore_n 2, 1) := dc_65 (byA eNcX2_term (p := 41) (v := 65) (by decide +kernel))
theorem dX2_term_42 : decode cX2_term 42 = .ok (.goto 40, 3) := dc_167 (byA eNcX2_term (p := 42) (v := 167) (by decide +kernel)) (byA eNcX2_term (p := 43) (v := 0) (by decide +kernel)) (byA eNcX2_term (p := 44) (v := 40) (by decide +kernel)) (by decide +kernel)
theorem dX2_term_45 : decode cX2_term 45 = .ok (.aload_n 0, 1) := dc_42 (byA eNcX2_term (p := 45) (v := 42) (by decide +kernel))
theorem dX2_term_46 : decode cX2_term 46 = .ok (.getfield 9, 3) := dc_180 (byA eNcX2_term (p := 46) (v := 180) (by decide +kernel)) (byA eNcX2_term (p := 47) (v := 0) (by decide +kernel)) (byA eNcX2_term (p := 48) (v := 9) (by decide +kernel)) rfl
theorem dX2_term_49 : decode cX2_term 49 = .ok (.bipush 47, 2) := dc_16 (byA eNcX2_term (p := 49) (v := 16) (by decide +kernel)) (byA eNcX2_term (p := 50) (v := 47) (by decide +kernel)) (by decide +kernel)
theorem dX2_term_51 : decode cX2_term 51 = .ok (.invokevirtual 81, 3) := dc_182 (byA eNcX2_term (p := 51) (v := 182) (by decide +kernel)) (byA eNcX2_term (p := 52) (v := 0) (by decide +kernel)) (byA eNcX2_term (p := 53) (v := 81) (by decide +kernel)) rfl
theorem dX2_term_54 : decode cX2_term 54 = .ok (.ifCond .eq 34, 3) := dc_153 (byA eNcX2_term (p := 54) (v := 153) (by decide +kernel)) (byA eNcX2_term (p := 55) (v := 0) (by decide +kernel)) (byA eNcX2_term (p := 56) (v := 34) (by decide +kernel)) (by decide +kernel)
theorem dX2_term_57 : decode cX2_term 57 = .ok (.aload_n 0, 1) := dc_42 (byA eNcX2_term (p := 57) (v := 42) (by decide +kernel))
theorem dX2_term_58 : decode cX2_term 58 = .ok (.iload_n 1, 1) := dc_27 (byA eNcX2_term (p := 58) (v := 27) (by decide +kernel))
theorem dX2_term_59 : decode cX2_term 59 = .ok (.invokevirtual 124, 3) := dc_182 (byA eNcX2_term (p := 59) (v := 182) (by decide +kernel)) (byA eNcX2_term (p := 60) (v := 0) (by decide +kernel)) (byA eNcX2_term (p := 61) (v := 124) (by decide +kernel)) rfl
theorem dX2_term_62 : decode cX2_term 62 = .ok (.istore 5, 2) := dc_54 (byA eNcX2_term (p := 62) (v := 54) (by decide +kernel)) (byA eNcX2_term (p := 63) (v := 5) (by decide +kernel))
theorem dX2_term_64 : decode cX2_term 64 = .ok (.iload 5, 2) := dc_21 (byA eNcX2_term (p := 64) (v := 21) (by decide +kernel)) (byA eNcX2_term (p := 65) (v := 5) (by decide +kernel))
theorem dX2_term_66 : decode cX2_term 66 = .ok (.ifCond .ne 7, 3) := dc_154 (byA eNcX2_term (p := 66) (v := 154) (by decide +kernel)) (byA eNcX2_term (p := 67) (v := 0) (by decide +kernel)) (byA eNcX2_term (p := 68) (v := 7) (by decide +kernel)) (by decide +kernel)
theorem dX2_term_69 : decode cX2_term 69 = .ok (.lconst 0, 1) := dc_9 (byA eNcX2_term (p := 69) (v := 9) (by decide +kernel))
theorem dX2_term_70 : decode cX2_term 70 = .ok (.goto 11, 3) := dc_167 (byA eNcX2_term (p := 70) (v := 167) (by decide +kernel)) (byA eNcX2_term (p := 71) (v := 0) (by decide +kernel)) (byA eNcX2_term (p := 72) (v := 11) (by decide +kernel)) (by decide +kernel)
theorem dX2_term_73 : decode cX2_term 73 = .ok (.lload_n 2, 1) := dc_32 (byA eNcX2_term (p := 73) (v := 32) (by decide +kernel))
theorem dX2_term_74 : decode cX2_term 74 = .ok (.iload 5, 2) := dc_21 (byA eNcX2_term (p := 74) (v := 21) (by decide +kernel)) (byA eNcX2_term (p := 75) (v := 5) (by decide +kernel))
theorem dX2_term_76 : decode cX2_term 76 = .ok (.i2l, 1) := dc_133 (byA eNcX2_term (p := 76) (v := 133) (by decide +kernel))
theorem dX2_term_77 : decode cX2_term 77 = .ok (.ldiv, 1) := dc_109 (byA eNcX2_term (p := 77) (v := 109) (by decide +kernel))
theorem dX2_term_78 : decode cX2_term 78 = .ok (.invokestatic 120, 3) := dc_184 (byA eNcX2_term (p := 78) (v := 184) (by decide +kernel)) (byA eNcX2_term (p := 79) (v := 0) (by decide +kernel)) (byA eNcX2_term (p := 80) (v := 120) (by decide +kernel)) rfl
theorem dX2_term_81 : decode cX2_term 81 = .ok (.lstore_n 2, 1) := dc_65 (byA eNcX2_term (p := 81) (v := 65) (by decide +kernel))
theorem dX2_term_82 : decode cX2_term 82 = .ok (.iinc 4 1, 3) := dc_132 (byA eNcX2_term (p := 82) (v := 132) (by decide +kernel)) (byA eNcX2_term (p := 83) (v := 4) (by decide +kernel)) (byA eNcX2_term (p := 84) (v := 1) (by decide +kernel)) (by decide +kernel)
theorem dX2_term_85 : decode cX2_term 85 = .ok (.goto (-75), 3) := dc_167 (byA eNcX2_term (p := 85) (v := 167) (by decide +kernel)) (byA eNcX2_term (p := 86) (v := 255) (by decide +kernel)) (byA eNcX2_term (p := 87) (v := 181) (by decide +kernel)) (by decide +kernel)
theorem dX2_term_88 : decode cX2_term 88 = .ok (.lload_n 2, 1) := dc_32 (byA eNcX2_term (p := 88) (v := 32) (by decide +kernel))
theorem dX2_term_89 : decode cX2_term 89 = .ok (.l2i, 1) := dc_136 (byA eNcX2_term (p := 89) (v := 136) (by decide +kernel))
theorem dX2_term_90 : decode cX2_term 90 = .ok (.ireturn, 1) := dc_172 (byA eNcX2_term (p := 90) (v := 172) (by decide +kernel))
def X2_term_L10 (rec : Int → Mm → Rs) (l1 : Int) : Nat → Int → Int → Mm → Rs
  | 0, _, _, _ => none
  | n + 1, l2, l4, μ => if 160 ≤ l4 then (some (wI l2, μ)) else (bd (X4_take 42 μ) fun v5 μ6 => if v5 = 0 then (bd (X4_take 47 μ6) fun v9 μ10 => if v9 = 0 then (some (wI l2, μ10)) else (bd (X2_atom_o rec l1 μ10) fun v13 μ14 => if v13 = 0 then (X2_term_L10 rec l1 n 0 (iA l4 1) μ14) else (dZ v13 (bd (X2_held (lD l2 v13) μ14) fun v18 μ19 => X2_term_L10 rec l1 n v18 (iA l4 1) μ19)))) else (bd (X2_atom_o rec l1 μ6) fun v21 μ22 => bd (X2_held (lM l2 v21) μ22) fun v24 μ25 => X2_term_L10 rec l1 n v24 (iA l4 1) μ25))
def X2_term_o (rec : Int → Mm → Rs) (l1 : Int) (μ : Mm) : Rs := bd (X2_atom_o rec l1 μ) fun v1 μ2 => X2_term_L10 rec l1 FU v1 0 μ2
set_option maxHeartbeats 4000000 in
set_option maxRecDepth 100000 in
theorem kX2_term_L10 (d : Nat) {d0 : Nat} (hd : d0 + 3 ≤ d) {rec : Int → Mm → Rs} (hrec : ∀ {q1 : Int} {μ1 : Mm} {r1 : Int} {μ2 : Mm}, rec q1 μ1 = some (r1, μ2) → CC d0 mX2_sum [vR 4, vI q1] μ1 r1 μ2) (hb : 6 ≤ d) {l1 : Int} {r : Int} {μ' : Mm} : ∀ (n : Nat) {l2 l4 : Int} {μ : Mm}, X2_term_L10 rec l1 n l2 l4 μ = some (r, μ') → VV d mX2_term 10 [some (vR 4), some (vI l1), some (vL l2), none, some (vI l4), none] [] μ r μ' := by
  intro n
  induction n with
  | zero => intro l2 l4 μ h; rw [X2_term_L10] at h; cases h
  | succ n ih =>
    intro l2 l4 μ h
    rw [X2_term_L10] at h
    refine V_iload (q := 12) dX2_term_10 rfl rfl ?_
    refine V_sipush (q := 15) dX2_term_12 rfl rfl rfl ?_
    refine V_icmpge (q := 88) (q2 := 18) dX2_term_15 (by decide) rfl (fun hc4 => ?_) (fun hc4 => ?_)
    · have h := ifT hc4 h
      refine V_lload_n (q := 89) dX2_term_88 rfl rfl rfl ?_
      refine V_l2i (q := 90) dX2_term_89 rfl ?_
      exact V_iret rfl h dX2_term_90
    · have h := ifF hc4 h
      refine V_aload_n (q := 19) dX2_term_18 rfl rfl rfl ?_
      refine V_getC (q := 22) fl_X2_9 rfl rfl rfl dX2_term_19 rfl ?_
      refine V_bipush (q := 24) dX2_term_22 rfl rfl rfl ?_
      obtain ⟨v5, μ6, hc7, h⟩ := bd_i h
      refine V_cV1 (q := 27) (v := vI v5) (kX4_take (d - 1) (by omega) hc7) (by omega) mv_X2_81 rfl rfl rfl rfl rfl rfl dX2_term_24 rfl ?_
      refine V_ifeq (q := 45) (q2 := 30) dX2_term_27 (by decide) rfl (fun hc8 => ?_) (fun hc8 => ?_)
      · have h := ifT hc8 h
        refine V_aload_n (q := 46) dX2_term_45 rfl rfl rfl ?_
        refine V_getC (q := 49) fl_X2_9 rfl rfl rfl dX2_term_46 rfl ?_
        refine V_bipush (q := 51) dX2_term_49 rfl rfl rfl ?_
        obtain ⟨v9, μ10, hc11, h⟩ := bd_i h
        refine V_cV1 (q := 54) (v := vI v9) (kX4_take (d - 1) (by omega) hc11) (by omega) mv_X2_81 rfl rfl rfl rfl rfl rfl dX2_term_51 rfl ?_
        refine V_ifeq (q := 88) (q2 := 57) dX2_term_54 (by decide) rfl (fun hc12 => ?_) (fun hc12 => ?_)
        · have h := ifT hc12 h
          refine V_lload_n (q := 89) dX2_term_88 rfl rfl rfl ?_
          refine V_l2i (q := 90) dX2_term_89 rfl ?_
          exact V_iret rfl h dX2_term_90
        · have h := ifF hc12 h
          refine V_aload_n (q := 58) dX2_term_57 rfl rfl rfl ?_
          refine V_iload_n (q := 59) dX2_term_58 rfl rfl rfl ?_
          obtain ⟨v13, μ14, hc15, h⟩ := bd_i h
          refine V_cV1 (q := 62) (v := vI v13) (kX2_atom (d - 1) (by omega) hrec (by omega) hc15) (by omega) mv_X2_124 rfl rfl rfl rfl rfl rfl dX2_term_59 rfl ?_
          refine V_istore (q := 64) dX2_term_62 (Nat.le_of_ble_eq_true rfl) trivial rfl ?_
          refine V_iload (q := 66) dX2_term_64 rfl rfl ?_
          refine V_ifne (q := 73) (q2 := 69) dX2_term_66 (by decide) rfl (fun hc16 => ?_) (fun hc16 => ?_)
          · have h := ifF hc16 h
            refine V_lload_n (q := 74) dX2_term_73 rfl rfl rfl ?_
            refine V_iload (q := 76) dX2_term_74 rfl rfl ?_
            refine V_i2l (q := 77) dX2_term_76 rfl ?_
            obtain ⟨hz17, h⟩ := dZ_i h
            refine V_ldiv (q := 78) dX2_term_77 hz17 rfl ?_
            obtain ⟨v18, μ19, hc20, h⟩ := bd_i h
            refine V_cS1 (q := 81) (v := vL v18) (kX2_held (d - 1) (by omega) hc20) (by omega) mv_X2_120 rfl rfl rfl rfl dX2_term_78 rfl ?_
            refine V_lstore_n (q := 82) dX2_term_81 rfl (Nat.le_of_ble_eq_true rfl) trivial rfl ?_
            refine V_iinc (q := 85) dX2_term_82 rfl (Nat.le_of_ble_eq_true rfl) trivial rfl ?_
            refine V_goto (q := 10) dX2_term_85 (by decide) ?_
            exact V_weak (ih h) (sb_s rfl (sb_s rfl (sb_s rfl (sb_n (sb_s rfl (sb_n sb_0))))))
          · have h := ifT hc16 h
            refine V_lconst (q := 70) dX2_term_69 rfl ?_
            refine V_goto (q := 81) dX2_term_70 (by decide) ?_
            refine V_lstore_n (q := 82) dX2_term_81 rfl (Nat.le_of_ble_eq_true rfl) trivial rfl ?_
            refine V_iinc (q := 85) dX2_term_82 rfl (Nat.le_of_ble_eq_true rfl) trivial rfl ?_
            refine V_goto (q := 10) dX2_term_85 (by decide) ?_
            exact V_weak (ih h) (sb_s rfl (sb_s rfl (sb_s rfl (sb_n (sb_s rfl (sb_n sb_0))))))
      · have h := ifF hc8 h
        refine V_lload_n (q := 31) dX2_term_30 rfl rfl rfl ?_
        refine V_aload_n (q := 32) dX2_term_31 rfl rfl rfl ?_
        refine V_iload_n (q := 33) dX2_term_32 rfl rfl rfl ?_
        obtain ⟨v21, μ22, hc23, h⟩ := bd_i h
        refine V_cV1 (q := 36) (v := vI v21) (kX2_atom (d - 1) (by omega) hrec (by omega) hc23) (by omega) mv_X2_124 rfl rfl rfl rfl rfl rfl dX2_term_33 rfl ?_
        refine V_i2l (q := 37) dX2_term_36 rfl ?_
        refine V_lmul (q := 38) dX2_term_37 rfl ?_
        obtain ⟨v24, μ25, hc26, h⟩ := bd_i h
        refine V_cS1 (q := 41) (v := vL v24) (kX2_held (d - 1) (by omega) hc26) (by omega) mv_X2_120 rfl rfl rfl rfl dX2_term_38 rfl ?_
        refine V_lstore_n (q := 42) dX2_term_41 rfl (Nat.le_of_ble_eq_true rfl) trivial rfl ?_
        refine V_goto (q := 82) dX2_term_42 (by decide) ?_
        refine V_iinc (q := 85) dX2_term_82 rfl (Nat.le_of_ble_eq_true rfl) trivial rfl ?_
        refine V_goto (q := 10) dX2_term_85 (by decide) ?_
        exact V_weak (ih h) (sb_s rfl (sb_s rfl (sb_s rfl (sb_n (sb_s rfl (sb_n sb_0))))))
set_option maxHeartbeats 4000000 in
set_option maxRecDepth 100000 in
theorem kX2_term (d : Nat) {d0 : Nat} (hd : d0 + 3 ≤ d) {rec : Int → Mm → Rs} (hrec : ∀ {q1 : Int} {μ1 : Mm} {r1 : Int} {μ2 : Mm}, rec q1 μ1 = some (r1, μ2) → CC d0 mX2_sum [vR 4, vI q1] μ1 r1 μ2) (hb : 6 ≤ d) {l1 : Int} {μ : Mm} {r : Int} {μ' : Mm} (h : X2_term_o rec l1 μ = some (r, μ')) : CC d mX2_term [vR 4, vI l1] μ r μ' := by
  unfold X2_term_o at h
  refine V_enter (by decide) (Nat.le_of_ble_eq_true rfl) ?_
  show VV d mX2_term 0 [some (vR 4), some (vI l1), none, none, none, none] [] μ r μ'
  refine V_aload_n (q := 1) dX2_term_0 rfl rfl rfl ?_
  refine V_iload_n (q := 2) dX2_term_1 rfl rfl rfl ?_
  obtain ⟨v1, μ2, hc3, h⟩ := bd_i h
  refine V_cV1 (q := 5) (v := vI v1) (kX2_atom (d - 1) (by omega) hrec (by omega) hc3) (by omega) mv_X2_124 rfl rfl rfl rfl rfl rfl dX2_term_2 rfl ?_
  refine V_i2l (q := 6) dX2_term_5 rfl ?_
  refine V_lstore_n (q := 7) dX2_term_6 rfl (Nat.le_of_ble_eq_true rfl) trivial rfl ?_
  refine V_iconst (q := 8) dX2_term_7 rfl rfl ?_
  refine V_istore (q := 10) dX2_term_8 (Nat.le_of_ble_eq_true rfl) trivial rfl ?_
  exact V_weak (kX2_term_L10 d hd hrec hb  FU h) (sb_s rfl (sb_s rfl (sb_s rfl (sb_n (sb_s rfl (sb_n sb_0))))))
theorem dX2_sum_0 : decode cX2_sum 0 = .ok (.aload_n 0, 1) := dc_42 (byA eNcX2_sum (p := 0) (v := 42) (by decide +kernel))
theorem dX2_sum_1 : decode cX2_sum 1 = .ok (.iload_n 1, 1) := dc_27 (byA eNcX2_sum (p := 1) (v := 27) (by decide +kernel))
theorem dX2_sum_2 : decode cX2_sum 2 = .ok (.invokevirtual 117, 3) := dc_182 (byA eNcX2_sum (p := 2) (v := 182) (by decide +kernel)) (byA eNcX2_sum (p := 3) (v := 0) (by decide +kernel)) (byA eNcX2_sum (p := 4) (v := 117) (by decide +kernel)) rfl
theorem dX2_sum_5 : decode cX2_sum 5 = .ok (.i2l, 1) := dc_133 (byA eNcX2_sum (p := 5) (v := 133) (by decide +kernel))
theorem dX2_sum_6 : decode cX2_sum 6 = .ok (.lstore_n 2, 1) := dc_65 (byA eNcX2_sum (p := 6) (v := 65) (by decide +kernel))
theorem dX2_sum_7 : decode cX2_sum 7 = .ok (.iconst 0, 1) := dc_3 (byA eNcX2_sum (p := 7) (v := 3) (by decide +kernel))
theorem dX2_sum_8 : decode cX2_sum 8 = .ok (.istore 4, 2) := dc_54 (byA eNcX2_sum (p := 8) (v := 54) (by decide +kernel)) (byA eNcX2_sum (p := 9) (v := 4) (by decide +kernel))
theorem dX2_sum_10 : decode cX2_sum 10 = .ok (.iload 4, 2) := dc_21 (byA eNcX2_sum (p := 10) (v := 21) (by decide +kernel)) (byA eNcX2_sum (p := 11) (v := 4) (by decide +kernel))
theorem dX2_sum_12 : decode cX2_sum 12 = .ok (.sipush 160, 3) := dc_17 (byA eNcX2_sum (p := 12) (v := 17) (by decide +kernel)) (byA eNcX2_sum (p := 13) (v := 0) (by decide +kernel)) (byA eNcX2_sum (p := 14) (v := 160) (by decide +kernel)) (by decide +kernel)
theorem dX2_sum_15 : decode cX2_sum 15 = .ok (.if_icmp .ge 60, 3) := dc_162 (byA eNcX2_sum (p := 15) (v := 162) (by decide +kernel)) (byA eNcX2_sum (p := 16) (v := 0) (by decide +kernel)) (byA eNcX2_sum (p := 17) (v := 60) (by decide +kernel)) (by decide +kernel)
theorem dX2_sum_18 : decode cX2_sum 18 = .ok (.aload_n 0, 1) := dc_42 (byA eNcX2_sum (p := 18) (v := 42) (by decide +kernel))
theorem dX2_sum_19 : decode cX2_sum 19 = .ok (.getfield 9, 3) := dc_180 (byA eNcX2_sum (p := 19) (v := 180) (by decide +kernel)) (byA eNcX2_sum (p := 20) (v := 0) (by decide +kernel)) (byA eNcX2_sum (p := 21) (v := 9) (by decide +kernel)) rfl
theorem dX2_sum_22 : decode cX2_sum 22 = .ok (.bipush 43, 2) := dc_16 (byA eNcX2_sum (p := 22) (v := 16) (by decide +kernel)) (byA eNcX2_sum (p := 23) (v := 43) (by decide +kernel)) (by decide +kernel)
theorem dX2_sum_24 : decode cX2_sum 24 = .ok (.invokevirtual 81, 3) := dc_182 (byA eNcX2_sum (p := 24) (v := 182) (by decide +kernel)) (byA eNcX2_sum (p := 25) (v := 0) (by decide +kernel)) (byA eNcX2_sum (p := 26) (v := 81) (by decide +kernel)) rfl
theorem dX2_sum_27 : decode cX2_sum 27 = .ok (.ifCond .eq 18, 3) := dc_153 (byA eNcX2_sum (p := 27) (v := 153) (by decide +kernel)) (byA eNcX2_sum (p := 28) (v := 0) (by decide +kernel)) (byA eNcX2_sum (p := 29) (v := 18) (by decide +kernel)) (by decide +kernel)
theorem dX2_sum_30 : decode cX2_sum 30 = .ok (.lload_n 2, 1) := dc_32 (byA eNcX2_sum (p := 30) (v := 32) (by decide +kernel))
theorem dX2_sum_31 : decode cX2_sum 31 = .ok (.aload_n 0, 1) := dc_42 (byA eNcX2_sum (p := 31) (v := 42) (by decide +kernel))
theorem dX2_sum_32 : decode cX2_sum 32 = .ok (.iload_n 1, 1) := dc_27 (byA eNcX2_sum (p := 32) (v := 27) (by decide +kernel))
theorem dX2_sum_33 : decode cX2_sum 33 = .ok (.invokevirtual 117, 3) := dc_182 (byA eNcX2_sum (p := 33) (v := 182) (by decide +kernel)) (byA eNcX2_sum (p := 34) (v := 0) (by decide +kernel)) (byA eNcX2_sum (p := 35) (v := 117) (by decide +kernel)) rfl
theorem dX2_sum_36 : decode cX2_sum 36 = .ok (.i2l, 1) := dc_133 (byA eNcX2_sum (p := 36) (v := 133) (by decide +kernel))
theorem dX2_sum_37 : decode cX2_sum 37 = .ok (.ladd, 1) := dc_97 (byA eNcX2_sum (p := 37) (v := 97) (by decide +kernel))
theorem dX2_sum_38 : decode cX2_sum 38 = .ok (.invokestatic 120, 3) := dc_184 (byA eNcX2_sum (p := 38) (v := 184) (by decide +kernel)) (byA eNcX2_sum (p := 39) (v := 0) (by decide +kernel)) (byA eNcX2_sum (p := 40) (v := 120) (by decide +kernel)) rfl
theorem dX2_sum_41 : decode cX2_sum 41 = .ok (.lstore_n 2, 1) := dc_65 (byA eNcX2_sum (p := 41) (v := 65) (by decide +kernel))
theorem dX2_sum_42 : decode cX2_sum 42 = .ok (.goto 27, 3) := dc_167 (byA eNcX2_sum (p := 42) (v := 167) (by decide +kernel)) (byA eNcX2_sum (p := 43) (v := 0) (by decide +kernel)) (byA eNcX2_sum (p := 44) (v := 27) (by decide +kernel)) (by decide +kernel)
theorem dX2_sum_45 : decode cX2_sum 45 = .ok (.aload_n 0, 1) := dc_42 (byA eNcX2_sum (p := 45) (v := 42) (by decide +kernel))
theorem dX2_sum_46 : decode cX2_sum 46 = .ok (.getfield 9, 3) := dc_180 (byA eNcX2_sum (p := 46) (v := 180) (by decide +kernel)) (byA eNcX2_sum (p := 47) (v := 0) (by decide +kernel)) (byA eNcX2_sum (p := 48) (v := 9) (by decide +kernel)) rfl
theorem dX2_sum_49 : decode cX2_sum 49 = .ok (.bipush 45, 2) := dc_16 (byA eNcX2_sum (p := 49) (v := 16) (by decide +kernel)) (byA eNcX2_sum (p := 50) (v := 45) (by decide +kernel)) (by decide +kernel)
theorem dX2_sum_51 : decode cX2_sum 51 = .ok (.invokevirtual 81, 3) := dc_182 (byA eNcX2_sum (p := 51) (v := 182) (by decide +kernel)) (byA eNcX2_sum (p := 52) (v := 0) (by decide +kernel)) (byA eNcX2_sum (p := 53) (v := 81) (by decide +kernel)) rfl
theorem dX2_sum_54 : decode cX2_sum 54 = .ok (.ifCond .eq 21, 3) := dc_153 (byA eNcX2_sum (p := 54) (v := 153) (by decide +kernel)) (byA eNcX2_sum (p := 55) (v := 0) (by decide +kernel)) (byA eNcX2_sum (p := 56) (v := 21) (by decide +kernel)) (by decide +kernel)
theorem dX2_sum_57 : decode cX2_sum 57 = .ok (.lload_n 2, 1) := dc_32 (byA eNcX2_sum (p := 57) (v := 32) (by decide +kernel))
theorem dX2_sum_58 : decode cX2_sum 58 = .ok (.aload_n 0, 1) := dc_42 (byA eNcX2_sum (p := 58) (v := 42) (by decide +kernel))
theorem dX2_sum_59 : decode cX2_sum 59 = .ok (.iload_n 1, 1) := dc_27 (byA eNcX2_sum (p := 59) (v := 27) (by decide +kernel))
theorem dX2_sum_60 : decode cX2_sum 60 = .ok (.invokevirtual 117, 3) := dc_182 (byA eNcX2_sum (p := 60) (v := 182) (by decide +kernel)) (byA eNcX2_sum (p := 61) (v := 0) (by decide +kernel)) (byA eNcX2_sum (p := 62) (v := 117) (by decide +kernel)) rfl
theorem dX2_sum_63 : decode cX2_sum 63 = .ok (.i2l, 1) := dc_133 (byA eNcX2_sum (p := 63) (v := 133) (by decide +kernel))
theorem dX2_sum_64 : decode cX2_sum 64 = .ok (.lsub, 1) := dc_101 (byA eNcX2_sum (p := 64) (v := 101) (by decide +kernel))
theorem dX2_sum_65 : decode cX2_sum 65 = .ok (.invokestatic 120, 3) := dc_184 (byA eNcX2_sum (p := 65) (v := 184) (by decide +kernel)) (byA eNcX2_sum (p := 66) (v := 0) (by decide +kernel)) (byA eNcX2_sum (p := 67) (v := 120) (by decide +kernel)) rfl
theorem dX2_sum_68 : decode cX2_sum 68 = .ok (.lstore_n 2, 1) := dc_65 (byA eNcX2_sum (p := 68) (v := 65) (by decide +kernel))
theorem dX2_sum_69 : decode cX2_sum 69 = .ok (.iinc 4 1, 3) := dc_132 (byA eNcX2_sum (p := 69) (v := 132) (by decide +kernel)) (byA eNcX2_sum (p := 70) (v := 4) (by decide +kernel)) (byA eNcX2_sum (p := 71) (v := 1) (by decide +kernel)) (by decide +kernel)
theorem dX2_sum_72 : decode cX2_sum 72 = .ok (.goto (-62), 3) := dc_167 (byA eNcX2_sum (p := 72) (v := 167) (by decide +kernel)) (byA eNcX2_sum (p := 73) (v := 255) (by decide +kernel)) (byA eNcX2_sum (p := 74) (v := 194) (by decide +kernel)) (by decide +kernel)
theorem dX2_sum_75 : decode cX2_sum 75 = .ok (.lload_n 2, 1) := dc_32 (byA eNcX2_sum (p := 75) (v := 32) (by decide +kernel))
theorem dX2_sum_76 : decode cX2_sum 76 = .ok (.l2i, 1) := dc_136 (byA eNcX2_sum (p := 76) (v := 136) (by decide +kernel))
theorem dX2_sum_77 : decode cX2_sum 77 = .ok (.ireturn, 1) := dc_172 (byA eNcX2_sum (p := 77) (v := 172) (by decide +kernel))
def X2_sum_L10 (rec : Int → Mm → Rs) (l1 : Int) : Nat → Int → Int → Mm → Rs
  | 0, _, _, _ => none
  | n + 1, l2, l4, μ => if 160 ≤ l4 then (some (wI l2, μ)) else (bd (X4_take 43 μ) fun v5 μ6 => if v5 = 0 then (bd (X4_take 45 μ6) fun v9 μ10 => if v9 = 0 then (some (wI l2, μ10)) else (bd (X2_term_o rec l1 μ10) fun v13 μ14 => bd (X2_held (lS l2 v13) μ14) fun v16 μ17 => X2_sum_L10 rec l1 n v16 (iA l4 1) μ17)) else (bd (X2_term_o rec l1 μ6) fun v19 μ20 => bd (X2_held (lA l2 v19) μ20) fun v22 μ23 => X2_sum_L10 rec l1 n v22 (iA l4 1) μ23))
def X2_sum : Nat → Int → Mm → Rs
  | 0, _, _ => none
  | n + 1, l1, μ => bd (X2_term_o (fun w0 μq => X2_sum n w0 μq) l1 μ) fun v1 μ2 => X2_sum_L10 (fun w0 μq => X2_sum n w0 μq) l1 FU v1 0 μ2
set_option maxHeartbeats 4000000 in
set_option maxRecDepth 100000 in
theorem kX2_sum_L10 (d : Nat) {d0 : Nat} (hd : d0 + 9 ≤ d) (hb : 12 ≤ d) {rec : Int → Mm → Rs} (hrec : ∀ {q1 : Int} {μ1 : Mm} {r1 : Int} {μ2 : Mm}, rec q1 μ1 = some (r1, μ2) → CC d0 mX2_sum [vR 4, vI q1] μ1 r1 μ2) {l1 : Int} {r : Int} {μ' : Mm} : ∀ (n : Nat) {l2 l4 : Int} {μ : Mm}, X2_sum_L10 rec l1 n l2 l4 μ = some (r, μ') → VV d mX2_sum 10 [some (vR 4), some (vI l1), some (vL l2), none, some (vI l4)] [] μ r μ' := by
  intro n
  induction n with
  | zero => intro l2 l4 μ h; rw [X2_sum_L10] at h; cases h
  | succ n ih =>
    intro l2 l4 μ h
    rw [X2_sum_L10] at h
    refine V_iload (q := 12) dX2_sum_10 rfl rfl ?_
    refine V_sipush (q := 15) dX2_sum_12 rfl rfl rfl ?_
    refine V_icmpge (q := 75) (q2 := 18) dX2_sum_15 (by decide) rfl (fun hc4 => ?_) (fun hc4 => ?_)
    · have h := ifT hc4 h
      refine V_lload_n (q := 76) dX2_sum_75 rfl rfl rfl ?_
      refine V_l2i (q := 77) dX2_sum_76 rfl ?_
      exact V_iret rfl h dX2_sum_77
    · have h := ifF hc4 h
      refine V_aload_n (q := 19) dX2_sum_18 rfl rfl rfl ?_
      refine V_getC (q := 22) fl_X2_9 rfl rfl rfl dX2_sum_19 rfl ?_
      refine V_bipush (q := 24) dX2_sum_22 rfl rfl rfl ?_
      obtain ⟨v5, μ6, hc7, h⟩ := bd_i h
      refine V_cV1 (q := 27) (v := vI v5) (kX4_take (d - 1) (by omega) hc7) (by omega) mv_X2_81 rfl rfl rfl rfl rfl rfl dX2_sum_24 rfl ?_
      refine V_ifeq (q := 45) (q2 := 30) dX2_sum_27 (by decide) rfl (fun hc8 => ?_) (fun hc8 => ?_)
      · have h := ifT hc8 h
        refine V_aload_n (q := 46) dX2_sum_45 rfl rfl rfl ?_
        refine V_getC (q := 49) fl_X2_9 rfl rfl rfl dX2_sum_46 rfl ?_
        refine V_bipush (q := 51) dX2_sum_49 rfl rfl rfl ?_
        obtain ⟨v9, μ10, hc11, h⟩ := bd_i h
        refine V_cV1 (q := 54) (v := vI v9) (kX4_take (d - 1) (by omega) hc11) (by omega) mv_X2_81 rfl rfl rfl rfl rfl rfl dX2_sum_51 rfl ?_
        refine V_ifeq (q := 75) (q2 := 57) dX2_sum_54 (by decide) rfl (fun hc12 => ?_) (fun hc12 => ?_)
        · have h := ifT hc12 h
          refine V_lload_n (q := 76) dX2_sum_75 rfl rfl rfl ?_
          refine V_l2i (q := 77) dX2_sum_76 rfl ?_
          exact V_iret rfl h dX2_sum_77
        · have h := ifF hc12 h
          refine V_lload_n (q := 58) dX2_sum_57 rfl rfl rfl ?_
          refine V_aload_n (q := 59) dX2_sum_58 rfl rfl rfl ?_
          refine V_iload_n (q := 60) dX2_sum_59 rfl rfl rfl ?_
          obtain ⟨v13, μ14, hc15, h⟩ := bd_i h
          refine V_cV1 (q := 63) (v := vI v13) (kX2_term (d - 1) (by omega) hrec (by omega) hc15) (by omega) mv_X2_117 rfl rfl rfl rfl rfl rfl dX2_sum_60 rfl ?_
          refine V_i2l (q := 64) dX2_sum_63 rfl ?_
          refine V_lsub (q := 65) dX2_sum_64 rfl ?_
          obtain ⟨v16, μ17, hc18, h⟩ := bd_i h
          refine V_cS1 (q := 68) (v := vL v16) (kX2_held (d - 1) (by omega) hc18) (by omega) mv_X2_120 rfl rfl rfl rfl dX2_sum_65 rfl ?_
          refine V_lstore_n (q := 69) dX2_sum_68 rfl (Nat.le_of_ble_eq_true rfl) trivial rfl ?_
          refine V_iinc (q := 72) dX2_sum_69 rfl (Nat.le_of_ble_eq_true rfl) trivial rfl ?_
          refine V_goto (q := 10) dX2_sum_72 (by decide) ?_
          exact V_weak (ih h) (sb_s rfl (sb_s rfl (sb_s rfl (sb_n (sb_s rfl sb_0)))))
      · have h := ifF hc8 h
        refine V_lload_n (q := 31) dX2_sum_30 rfl rfl rfl ?_
        refine V_aload_n (q := 32) dX2_sum_31 rfl rfl rfl ?_
        refine V_iload_n (q := 33) dX2_sum_32 rfl rfl rfl ?_
        obtain ⟨v19, μ20, hc21, h⟩ := bd_i h
        refine V_cV1 (q := 36) (v := vI v19) (kX2_term (d - 1) (by omega) hrec (by omega) hc21) (by omega) mv_X2_117 rfl rfl rfl rfl rfl rfl dX2_sum_33 rfl ?_
        refine V_i2l (q := 37) dX2_sum_36 rfl ?_
        refine V_ladd (q := 38) dX2_sum_37 rfl ?_
        obtain ⟨v22, μ23, hc24, h⟩ := bd_i h
        refine V_cS1 (q := 41) (v := vL v22) (kX2_held (d - 1) (by omega) hc24) (by omega) mv_X2_120 rfl rfl rfl rfl dX2_sum_38 rfl ?_
        refine V_lstore_n (q := 42) dX2_sum_41 rfl (Nat.le_of_ble_eq_true rfl) trivial rfl ?_
        refine V_goto (q := 69) dX2_sum_42 (by decide) ?_
        refine V_iinc (q := 72) dX2_sum_69 rfl (Nat.le_of_ble_eq_true rfl) trivial rfl ?_
        refine V_goto (q := 10) dX2_sum_72 (by decide) ?_
        exact V_weak (ih h) (sb_s rfl (sb_s rfl (sb_s rfl (sb_n (sb_s rfl sb_0)))))
set_option maxHeartbeats 4000000 in
set_option maxRecDepth 100000 in
theorem kX2_sum : ∀ (n d : Nat) (hd : 10 * n + 13 ≤ d) {l1 : Int} {μ : Mm} {r : Int} {μ' : Mm} (h : X2_sum n l1 μ = some (r, μ')), CC d mX2_sum [vR 4, vI l1] μ r μ' := by
  intro n
  induction n with
  | zero => intro d hd l1   μ r μ' h; rw [X2_sum] at h; cases h
  | succ n ih =>
    intro d hd l1   μ r μ' h
    have hb : 12 ≤ d := by omega
    obtain ⟨d0, hd0⟩ : ∃ z, z = 10 * n + 13 := ⟨_, rfl⟩
    have hd : d0 + 10 ≤ d := by omega
    have hrec : ∀ {q1 : Int} {μ1 : Mm} {r1 : Int} {μ2 : Mm}, ((fun w0 μq => X2_sum n w0 μq)) q1 μ1 = some (r1, μ2) → CC d0 mX2_sum [vR 4, vI q1] μ1 r1 μ2 := fun h1 => ih d0 (by omega) h1
    rw [X2_sum] at h
    refine V_enter (by decide) (Nat.le_of_ble_eq_true rfl) ?_
    show VV d mX2_sum 0 [some (vR 4), some (vI l1), none, none, none] [] μ r μ'
    refine V_aload_n (q := 1) dX2_sum_0 rfl rfl rfl ?_
    refine V_iload_n (q := 2) dX2_sum_1 rfl rfl rfl ?_
    obtain ⟨v1, μ2, hc3, h⟩ := bd_i h
    refine V_cV1 (q := 5) (v := vI v1) (kX2_term (d - 1) (by omega) hrec (by omega) hc3) (by omega) mv_X2_117 rfl rfl rfl rfl rfl rfl dX2_sum_2 rfl ?_
    refine V_i2l (q := 6) dX2_sum_5 rfl ?_
    refine V_lstore_n (q := 7) dX2_sum_6 rfl (Nat.le_of_ble_eq_true rfl) trivial rfl ?_
    refine V_iconst (q := 8) dX2_sum_7 rfl rfl ?_
    refine V_istore (q := 10) dX2_sum_8 (Nat.le_of_ble_eq_true rfl) trivial rfl ?_
    exact V_weak (kX2_sum_L10 d (by omega) hb hrec  FU h) (sb_s rfl (sb_s rfl (sb_s rfl (sb_n (sb_s rfl sb_0)))))
theorem kX2_atom_c (d : Nat) (hd : 135 ≤ d) {l1 : Int} {μ : Mm} {r : Int} {μ' : Mm} (h : X2_atom_o (X2_sum RD) l1 μ = some (r, μ')) : CC d mX2_atom [vR 4, vI l1] μ r μ' := kX2_atom (d0 := 10 * RD + 13) d (by unfold RD; omega) (fun h1 => kX2_sum RD _ (Nat.le_refl _) h1) (by omega) h
theorem kX2_term_c (d : Nat) (hd : 136 ≤ d) {l1 : Int} {μ : Mm} {r : Int} {μ' : Mm} (h : X2_term_o (X2_sum RD) l1 μ = some (r, μ')) : CC d mX2_term [vR 4, vI l1] μ r μ' := kX2_term (d0 := 10 * RD + 13) d (by unfold RD; omega) (fun h1 => kX2_sum RD _ (Nat.le_refl _) h1) (by omega) h
abbrev mX2_isComparison : Mth := (yX2_isComparison, cX2_isComparison, 1, some .boolean)
set_option maxRecDepth 100000 in
theorem mi_X2_isComparison : Cond.static yX2_isComparison ∈ tG ∧ Cond.initialized yX2_isComparison.cls ∈ tG ∧ Cond.code yX2_isComparison cX2_isComparison 1 (some .boolean) ∈ tG ∧ (yX2_isComparison.cls ≠ "java/lang/invoke/MethodHandle" ∧ yX2_isComparison.cls ≠ "java/lang/invoke/VarHandle" ∧ (parseMethodDescriptor yX2_isComparison.desc).map (fun d => d.parameters.length) = some 1) ∧ 1 ≤ 60 := ⟨(tG_of (tb3 (List.mem_of_getElem? (i := 47) rfl)) (by decide +kernel)), (tG_of (tb1 (List.mem_of_getElem? (i := 4) rfl)) (by decide +kernel)), (tG_of (tb3 (List.mem_of_getElem? (i := 48) rfl)) (by decide +kernel)), ⟨by decide, by decide, by decide +kernel⟩, by decide⟩
set_option maxRecDepth 100000 in
theorem mv_X2_93 : mS RX2 93 mX2_isComparison 1 := ⟨(tG_of (tb3 (List.mem_of_getElem? (i := 46) rfl)) (by decide +kernel)), mi_X2_isComparison.1, (tG_of (tb1 (List.mem_of_getElem? (i := 4) rfl)) (by decide +kernel)), mi_X2_isComparison.2⟩
theorem dX2_isComparison_0 : decode cX2_isComparison 0 = .ok (.iload_n 0, 1) := dc_26 (byA eNcX2_isComparison (p := 0) (v := 26) (by decide +kernel))
theorem dX2_isComparison_1 : decode cX2_isComparison 1 = .ok (.bipush 61, 2) := dc_16 (byA eNcX2_isComparison (p := 1) (v := 16) (by decide +kernel)) (byA eNcX2_isComparison (p := 2) (v := 61) (by decide +kernel)) (by decide +kernel)
theorem dX2_isComparison_3 : decode cX2_isComparison 3 = .ok (.if_icmp .eq 15, 3) := dc_159 (byA eNcX2_isComparison (p := 3) (v := 159) (by decide +kernel)) (byA eNcX2_isComparison (p := 4) (v := 0) (by decide +kernel)) (byA eNcX2_isComparison (p := 5) (v := 15) (by decide +kernel)) (by decide +kernel)
theorem dX2_isComparison_6 : decode cX2_isComparison 6 = .ok (.iload_n 0, 1) := dc_26 (byA eNcX2_isComparison (p := 6) (v := 26) (by decide +kernel))
theorem dX2_isComparison_7 : decode cX2_isComparison 7 = .ok (.bipush 60, 2) := dc_16 (byA eNcX2_isComparison (p := 7) (v := 16) (by decide +kernel)) (byA eNcX2_isComparison (p := 8) (v := 60) (by decide +kernel)) (by decide +kernel)
theorem dX2_isComparison_9 : decode cX2_isComparison 9 = .ok (.if_icmp .eq 9, 3) := dc_159 (byA eNcX2_isComparison (p := 9) (v := 159) (by decide +kernel)) (byA eNcX2_isComparison (p := 10) (v := 0) (by decide +kernel)) (byA eNcX2_isComparison (p := 11) (v := 9) (by decide +kernel)) (by decide +kernel)
theorem dX2_isComparison_12 : decode cX2_isComparison 12 = .ok (.iload_n 0, 1) := dc_26 (byA eNcX2_isComparison (p := 12) (v := 26) (by decide +kernel))
theorem dX2_isComparison_13 : decode cX2_isComparison 13 = .ok (.bipush 62, 2) := dc_16 (byA eNcX2_isComparison (p := 13) (v := 16) (by decide +kernel)) (byA eNcX2_isComparison (p := 14) (v := 62) (by decide +kernel)) (by decide +kernel)
theorem dX2_isComparison_15 : decode cX2_isComparison 15 = .ok (.if_icmp .ne 7, 3) := dc_160 (byA eNcX2_isComparison (p := 15) (v := 160) (by decide +kernel)) (byA eNcX2_isComparison (p := 16) (v := 0) (by decide +kernel)) (byA eNcX2_isComparison (p := 17) (v := 7) (by decide +kernel)) (by decide +kernel)
theorem dX2_isComparison_18 : decode cX2_isComparison 18 = .ok (.iconst 1, 1) := dc_4 (byA eNcX2_isComparison (p := 18) (v := 4) (by decide +kernel))
theorem dX2_isComparison_19 : decode cX2_isComparison 19 = .ok (.goto 4, 3) := dc_167 (byA eNcX2_isComparison (p := 19) (v := 167) (by decide +kernel)) (byA eNcX2_isComparison (p := 20) (v := 0) (by decide +kernel)) (byA eNcX2_isComparison (p := 21) (v := 4) (by decide +kernel)) (by decide +kernel)
theorem dX2_isComparison_22 : decode cX2_isComparison 22 = .ok (.iconst 0, 1) := dc_3 (byA eNcX2_isComparison (p := 22) (v := 3) (by decide +kernel))
theorem dX2_isComparison_23 : decode cX2_isComparison 23 = .ok (.ireturn, 1) := dc_172 (byA eNcX2_isComparison (p := 23) (v := 172) (by decide +kernel))
def X2_isComparison (l0 : Int) (μ : Mm) : Rs := if l0 = 61 then (some (1, μ)) else (if l0 = 60 then (some (1, μ)) else (if l0 = 62 then (some (1, μ)) else (some (0, μ))))
set_option maxHeartbeats 4000000 in
set_option maxRecDepth 100000 in
theorem kX2_isComparison (d : Nat) (hd : 1 ≤ d) {l0 : Int} {μ : Mm} {r : Int} {μ' : Mm} (h : X2_isComparison l0 μ = some (r, μ')) : CC d mX2_isComparison [vI l0] μ r μ' := by
  unfold X2_isComparison at h
  refine V_enter (by decide) (Nat.le_of_ble_eq_true rfl) ?_
  show VV d mX2_isComparison 0 [some (vI l0)] [] μ r μ'
  refine V_iload_n (q := 1) dX2_isComparison_0 rfl rfl rfl ?_
  refine V_bipush (q := 3) dX2_isComparison_1 rfl rfl rfl ?_
  refine V_icmpeq (q := 18) (q2 := 6) dX2_isComparison_3 (by decide) rfl (fun hc1 => ?_) (fun hc1 => ?_)
  · have h := ifT hc1 h
    refine V_iconst (q := 19) dX2_isComparison_18 rfl rfl ?_
    refine V_goto (q := 23) dX2_isComparison_19 (by decide) ?_
    exact V_zret rfl (Or.inr rfl) h dX2_isComparison_23
  · have h := ifF hc1 h
    refine V_iload_n (q := 7) dX2_isComparison_6 rfl rfl rfl ?_
    refine V_bipush (q := 9) dX2_isComparison_7 rfl rfl rfl ?_
    refine V_icmpeq (q := 18) (q2 := 12) dX2_isComparison_9 (by decide) rfl (fun hc2 => ?_) (fun hc2 => ?_)
    · have h := ifT hc2 h
      refine V_iconst (q := 19) dX2_isComparison_18 rfl rfl ?_
      refine V_goto (q := 23) dX2_isComparison_19 (by decide) ?_
      exact V_zret rfl (Or.inr rfl) h dX2_isComparison_23
    · have h := ifF hc2 h
      refine V_iload_n (q := 13) dX2_isComparison_12 rfl rfl rfl ?_
      refine V_bipush (q := 15) dX2_isComparison_13 rfl rfl rfl ?_
      refine V_icmpne (q := 22) (q2 := 18) dX2_isComparison_15 (by decide) rfl (fun hc3 => ?_) (fun hc3 => ?_)
      · have h := ifF hc3 h
        refine V_iconst (q := 23) dX2_isComparison_22 rfl rfl ?_
        exact V_zret rfl (Or.inl rfl) h dX2_isComparison_23
      · have h := ifT hc3 h
        refine V_iconst (q := 19) dX2_isComparison_18 rfl rfl ?_
        refine V_goto (q := 23) dX2_isComparison_19 (by decide) ?_
        exact V_zret rfl (Or.inr rfl) h dX2_isComparison_23
abbrev mX2_startsCondition : Mth := (yX2_startsCondition, cX2_startsCondition, 4, some .boolean)
set_option maxRecDepth 100000 in
theorem mi_X2_startsCondition : Cond.instanceMethod yX2_startsCondition ∈ tG ∧ Cond.selects yX2_startsCondition.cls yX2_startsCondition yX2_startsCondition ∈ tG ∧ Cond.initialized yX2_startsCondition.cls ∈ tG ∧ Cond.code yX2_startsCondition cX2_startsCondition 4 (some .boolean) ∈ tG ∧ (yX2_startsCondition.cls ≠ "java/lang/invoke/MethodHandle" ∧ yX2_startsCondition.cls ≠ "java/lang/invoke/VarHandle" ∧ (parseMethodDescriptor yX2_startsCondition.desc).map (fun d => d.parameters.length) = some 0) ∧ 4 ≤ 60 := ⟨(tG_of (tb3 (List.mem_of_getElem? (i := 11) rfl)) (by decide +kernel)), (tG_of (List.mem_of_getElem? (i := 5) (by decide +kernel)) (by decide +kernel)), (tG_of (tb1 (List.mem_of_getElem? (i := 4) rfl)) (by decide +kernel)), (tG_of (tb3 (List.mem_of_getElem? (i := 12) rfl)) (by decide +kernel)), ⟨by decide, by decide, by decide +kernel⟩, by decide⟩
set_option maxRecDepth 100000 in
theorem mv_X2_69 : mV RX2 69 mX2_startsCondition 0 := ⟨(tG_of (tb3 (List.mem_of_getElem? (i := 9) rfl)) (by decide +kernel)), mi_X2_startsCondition⟩
theorem dX2_startsCondition_0 : decode cX2_startsCondition 0 = .ok (.aload_n 0, 1) := dc_42 (byA eNcX2_startsCondition (p := 0) (v := 42) (by decide +kernel))
theorem dX2_startsCondition_1 : decode cX2_startsCondition 1 = .ok (.getfield 9, 3) := dc_180 (byA eNcX2_startsCondition (p := 1) (v := 180) (by decide +kernel)) (byA eNcX2_startsCondition (p := 2) (v := 0) (by decide +kernel)) (byA eNcX2_startsCondition (p := 3) (v := 9) (by decide +kernel)) rfl
theorem dX2_startsCondition_4 : decode cX2_startsCondition 4 = .ok (.invokevirtual 87, 3) := dc_182 (byA eNcX2_startsCondition (p := 4) (v := 182) (by decide +kernel)) (byA eNcX2_startsCondition (p := 5) (v := 0) (by decide +kernel)) (byA eNcX2_startsCondition (p := 6) (v := 87) (by decide +kernel)) rfl
theorem dX2_startsCondition_7 : decode cX2_startsCondition 7 = .ok (.istore_n 1, 1) := dc_60 (byA eNcX2_startsCondition (p := 7) (v := 60) (by decide +kernel))
theorem dX2_startsCondition_8 : decode cX2_startsCondition 8 = .ok (.iload_n 1, 1) := dc_27 (byA eNcX2_startsCondition (p := 8) (v := 27) (by decide +kernel))
theorem dX2_startsCondition_9 : decode cX2_startsCondition 9 = .ok (.bipush 33, 2) := dc_16 (byA eNcX2_startsCondition (p := 9) (v := 16) (by decide +kernel)) (byA eNcX2_startsCondition (p := 10) (v := 33) (by decide +kernel)) (by decide +kernel)
theorem dX2_startsCondition_11 : decode cX2_startsCondition 11 = .ok (.if_icmp .eq 9, 3) := dc_159 (byA eNcX2_startsCondition (p := 11) (v := 159) (by decide +kernel)) (byA eNcX2_startsCondition (p := 12) (v := 0) (by decide +kernel)) (byA eNcX2_startsCondition (p := 13) (v := 9) (by decide +kernel)) (by decide +kernel)
theorem dX2_startsCondition_14 : decode cX2_startsCondition 14 = .ok (.iload_n 1, 1) := dc_27 (byA eNcX2_startsCondition (p := 14) (v := 27) (by decide +kernel))
theorem dX2_startsCondition_15 : decode cX2_startsCondition 15 = .ok (.bipush 40, 2) := dc_16 (byA eNcX2_startsCondition (p := 15) (v := 16) (by decide +kernel)) (byA eNcX2_startsCondition (p := 16) (v := 40) (by decide +kernel)) (by decide +kernel)
theorem dX2_startsCondition_17 : decode cX2_startsCondition 17 = .ok (.if_icmp .ne 5, 3) := dc_160 (byA eNcX2_startsCondition (p := 17) (v := 160) (by decide +kernel)) (byA eNcX2_startsCondition (p := 18) (v := 0) (by decide +kernel)) (byA eNcX2_startsCondition (p := 19) (v := 5) (by decide +kernel)) (by decide +kernel)
theorem dX2_startsCondition_20 : decode cX2_startsCondition 20 = .ok (.iconst 1, 1) := dc_4 (byA eNcX2_startsCondition (p := 20) (v := 4) (by decide +kernel))
theorem dX2_startsCondition_21 : decode cX2_startsCondition 21 = .ok (.ireturn, 1) := dc_172 (byA eNcX2_startsCondition (p := 21) (v := 172) (by decide +kernel))
theorem dX2_startsCondition_22 : decode cX2_startsCondition 22 = .ok (.aload_n 0, 1) := dc_42 (byA eNcX2_startsCondition (p := 22) (v := 42) (by decide +kernel))
theorem dX2_startsCondition_23 : decode cX2_startsCondition 23 = .ok (.getfield 9, 3) := dc_180 (byA eNcX2_startsCondition (p := 23) (v := 180) (by decide +kernel)) (byA eNcX2_startsCondition (p := 24) (v := 0) (by decide +kernel)) (byA eNcX2_startsCondition (p := 25) (v := 9) (by decide +kernel)) rfl
theorem dX2_startsCondition_26 : decode cX2_startsCondition 26 = .ok (.getfield 90, 3) := dc_180 (byA eNcX2_startsCondition (p := 26) (v := 180) (by decide +kernel)) (byA eNcX2_startsCondition (p := 27) (v := 0) (by decide +kernel)) (byA eNcX2_startsCondition (p := 28) (v := 90) (by decide +kernel)) rfl
theorem dX2_startsCondition_29 : decode cX2_startsCondition 29 = .ok (.istore_n 2, 1) := dc_61 (byA eNcX2_startsCondition (p := 29) (v := 61) (by decide +kernel))
theorem dX2_startsCondition_30 : decode cX2_startsCondition 30 = .ok (.aload_n 0, 1) := dc_42 (byA eNcX2_startsCondition (p := 30) (v := 42) (by decide +kernel))
theorem dX2_startsCondition_31 : decode cX2_startsCondition 31 = .ok (.iconst 0, 1) := dc_3 (byA eNcX2_startsCondition (p := 31) (v := 3) (by decide +kernel))
theorem dX2_startsCondition_32 : decode cX2_startsCondition 32 = .ok (.invokevirtual 77, 3) := dc_182 (byA eNcX2_startsCondition (p := 32) (v := 182) (by decide +kernel)) (byA eNcX2_startsCondition (p := 33) (v := 0) (by decide +kernel)) (byA eNcX2_startsCondition (p := 34) (v := 77) (by decide +kernel)) rfl
theorem dX2_startsCondition_35 : decode cX2_startsCondition 35 = .ok (.pop, 1) := dc_87 (byA eNcX2_startsCondition (p := 35) (v := 87) (by decide +kernel))
theorem dX2_startsCondition_36 : decode cX2_startsCondition 36 = .ok (.aload_n 0, 1) := dc_42 (byA eNcX2_startsCondition (p := 36) (v := 42) (by decide +kernel))
theorem dX2_startsCondition_37 : decode cX2_startsCondition 37 = .ok (.getfield 9, 3) := dc_180 (byA eNcX2_startsCondition (p := 37) (v := 180) (by decide +kernel)) (byA eNcX2_startsCondition (p := 38) (v := 0) (by decide +kernel)) (byA eNcX2_startsCondition (p := 39) (v := 9) (by decide +kernel)) rfl
theorem dX2_startsCondition_40 : decode cX2_startsCondition 40 = .ok (.invokevirtual 87, 3) := dc_182 (byA eNcX2_startsCondition (p := 40) (v := 182) (by decide +kernel)) (byA eNcX2_startsCondition (p := 41) (v := 0) (by decide +kernel)) (byA eNcX2_startsCondition (p := 42) (v := 87) (by decide +kernel)) rfl
theorem dX2_startsCondition_43 : decode cX2_startsCondition 43 = .ok (.invokestatic 93, 3) := dc_184 (byA eNcX2_startsCondition (p := 43) (v := 184) (by decide +kernel)) (byA eNcX2_startsCondition (p := 44) (v := 0) (by decide +kernel)) (byA eNcX2_startsCondition (p := 45) (v := 93) (by decide +kernel)) rfl
theorem dX2_startsCondition_46 : decode cX2_startsCondition 46 = .ok (.istore_n 3, 1) := dc_62 (byA eNcX2_startsCondition (p := 46) (v := 62) (by decide +kernel))
theorem dX2_startsCondition_47 : decode cX2_startsCondition 47 = .ok (.aload_n 0, 1) := dc_42 (byA eNcX2_startsCondition (p := 47) (v := 42) (by decide +kernel))
theorem dX2_startsCondition_48 : decode cX2_startsCondition 48 = .ok (.getfield 9, 3) := dc_180 (byA eNcX2_startsCondition (p := 48) (v := 180) (by decide +kernel)) (byA eNcX2_startsCondition (p := 49) (v := 0) (by decide +kernel)) (byA eNcX2_startsCondition (p := 50) (v := 9) (by decide +kernel)) rfl
theorem dX2_startsCondition_51 : decode cX2_startsCondition 51 = .ok (.iload_n 2, 1) := dc_28 (byA eNcX2_startsCondition (p := 51) (v := 28) (by decide +kernel))
theorem dX2_startsCondition_52 : decode cX2_startsCondition 52 = .ok (.putfield 90, 3) := dc_181 (byA eNcX2_startsCondition (p := 52) (v := 181) (by decide +kernel)) (byA eNcX2_startsCondition (p := 53) (v := 0) (by decide +kernel)) (byA eNcX2_startsCondition (p := 54) (v := 90) (by decide +kernel)) rfl
theorem dX2_startsCondition_55 : decode cX2_startsCondition 55 = .ok (.iload_n 3, 1) := dc_29 (byA eNcX2_startsCondition (p := 55) (v := 29) (by decide +kernel))
theorem dX2_startsCondition_56 : decode cX2_startsCondition 56 = .ok (.ireturn, 1) := dc_172 (byA eNcX2_startsCondition (p := 56) (v := 172) (by decide +kernel))
def X2_startsCondition (μ : Mm) : Rs := bd (X4_peek μ) fun v1 μ2 => if v1 = 33 then (some (1, μ2)) else (if v1 = 40 then (some (1, μ2)) else (bd (X2_sum RD 0 μ2) fun v6 μ7 => bd (X4_peek μ7) fun v9 μ10 => bd (X2_isComparison v9 μ10) fun v12 μ13 => sF μ13 3 1 (μ2 3 1) fun μ15 => rZ v12 μ15))
set_option maxHeartbeats 4000000 in
set_option maxRecDepth 100000 in
theorem kX2_startsCondition (d : Nat) (hd : 134 ≤ d) {μ : Mm} {r : Int} {μ' : Mm} (h : X2_startsCondition μ = some (r, μ')) : CC d mX2_startsCondition [vR 4] μ r μ' := by
  unfold X2_startsCondition at h
  refine V_enter (by decide) (Nat.le_of_ble_eq_true rfl) ?_
  show VV d mX2_startsCondition 0 [some (vR 4), none, none, none] [] μ r μ'
  refine V_aload_n (q := 1) dX2_startsCondition_0 rfl rfl rfl ?_
  refine V_getC (q := 4) fl_X2_9 rfl rfl rfl dX2_startsCondition_1 rfl ?_
  obtain ⟨v1, μ2, hc3, h⟩ := bd_i h
  refine V_cV1 (q := 7) (v := vI v1) (kX4_peek (d - 1) (by omega) hc3) (by omega) mv_X2_87 rfl rfl rfl rfl rfl rfl dX2_startsCondition_4 rfl ?_
  refine V_istore_n (q := 8) dX2_startsCondition_7 rfl (Nat.le_of_ble_eq_true rfl) trivial rfl ?_
  refine V_iload_n (q := 9) dX2_startsCondition_8 rfl rfl rfl ?_
  refine V_bipush (q := 11) dX2_startsCondition_9 rfl rfl rfl ?_
  refine V_icmpeq (q := 20) (q2 := 14) dX2_startsCondition_11 (by decide) rfl (fun hc4 => ?_) (fun hc4 => ?_)
  · have h := ifT hc4 h
    refine V_iconst (q := 21) dX2_startsCondition_20 rfl rfl ?_
    exact V_zret rfl (Or.inr rfl) h dX2_startsCondition_21
  · have h := ifF hc4 h
    refine V_iload_n (q := 15) dX2_startsCondition_14 rfl rfl rfl ?_
    refine V_bipush (q := 17) dX2_startsCondition_15 rfl rfl rfl ?_
    refine V_icmpne (q := 22) (q2 := 20) dX2_startsCondition_17 (by decide) rfl (fun hc5 => ?_) (fun hc5 => ?_)
    · have h := ifF hc5 h
      refine V_aload_n (q := 23) dX2_startsCondition_22 rfl rfl rfl ?_
      refine V_getC (q := 26) fl_X2_9 rfl rfl rfl dX2_startsCondition_23 rfl ?_
      refine V_getI (q := 29) fl_X2_90 rfl rfl rfl dX2_startsCondition_26 rfl ?_
      refine V_istore_n (q := 30) dX2_startsCondition_29 rfl (Nat.le_of_ble_eq_true rfl) trivial rfl ?_
      refine V_aload_n (q := 31) dX2_startsCondition_30 rfl rfl rfl ?_
      refine V_iconst (q := 32) dX2_startsCondition_31 rfl rfl ?_
      obtain ⟨v6, μ7, hc8, h⟩ := bd_i h
      refine V_cV1 (q := 35) (v := vI v6) (kX2_sum RD (d - 1) (by unfold RD; omega) hc8) (by omega) mv_X2_77 rfl rfl rfl rfl rfl rfl dX2_startsCondition_32 rfl ?_
      refine V_pop (q := 36) dX2_startsCondition_35 trivial rfl ?_
      refine V_aload_n (q := 37) dX2_startsCondition_36 rfl rfl rfl ?_
      refine V_getC (q := 40) fl_X2_9 rfl rfl rfl dX2_startsCondition_37 rfl ?_
      obtain ⟨v9, μ10, hc11, h⟩ := bd_i h
      refine V_cV1 (q := 43) (v := vI v9) (kX4_peek (d - 1) (by omega) hc11) (by omega) mv_X2_87 rfl rfl rfl rfl rfl rfl dX2_startsCondition_40 rfl ?_
      obtain ⟨v12, μ13, hc14, h⟩ := bd_i h
      refine V_cS1 (q := 46) (v := vI v12) (kX2_isComparison (d - 1) (by omega) hc14) (by omega) mv_X2_93 rfl rfl rfl rfl dX2_startsCondition_43 rfl ?_
      refine V_istore_n (q := 47) dX2_startsCondition_46 rfl (Nat.le_of_ble_eq_true rfl) trivial rfl ?_
      refine V_aload_n (q := 48) dX2_startsCondition_47 rfl rfl rfl ?_
      refine V_getC (q := 51) fl_X2_9 rfl rfl rfl dX2_startsCondition_48 rfl ?_
      refine V_iload_n (q := 52) dX2_startsCondition_51 rfl rfl rfl ?_
      have h := sF_i h
      refine V_putI (q := 55) fl_X2_90 rfl rfl rfl dX2_startsCondition_52 rfl ?_
      refine V_iload_n (q := 56) dX2_startsCondition_55 rfl rfl rfl ?_
      obtain ⟨hz16, h⟩ := rZ_i h
      exact V_zret rfl hz16 h dX2_startsCondition_56
    · have h := ifT hc5 h
      refine V_iconst (q := 21) dX2_startsCondition_20 rfl rfl ?_
      exact V_zret rfl (Or.inr rfl) h dX2_startsCondition_21
abbrev mX2_comparison : Mth := (yX2_comparison, cX2_comparison, 5, some .boolean)
set_option maxRecDepth 100000 in
theorem mi_X2_comparison : Cond.instanceMethod yX2_comparison ∈ tG ∧ Cond.selects yX2_comparison.cls yX2_comparison yX2_comparison ∈ tG ∧ Cond.initialized yX2_comparison.cls ∈ tG ∧ Cond.code yX2_comparison cX2_comparison 5 (some .boolean) ∈ tG ∧ (yX2_comparison.cls ≠ "java/lang/invoke/MethodHandle" ∧ yX2_comparison.cls ≠ "java/lang/invoke/VarHandle" ∧ (parseMethodDescriptor yX2_comparison.desc).map (fun d => d.parameters.length) = some 1) ∧ 5 ≤ 60 := ⟨(tG_of (tb3 (List.mem_of_getElem? (i := 63) rfl)) (by decide +kernel)), (tG_of (List.mem_of_getElem? (i := 13) (by decide +kernel)) (by decide +kernel)), (tG_of (tb1 (List.mem_of_getElem? (i := 4) rfl)) (by decide +kernel)), (tG_of (tb3 (List.mem_of_getElem? (i := 64) rfl)) (by decide +kernel)), ⟨by decide, by decide, by decide +kernel⟩, by decide⟩
set_option maxRecDepth 100000 in
theorem mv_X2_102 : mV RX2 102 mX2_comparison 1 := ⟨(tG_of (tb3 (List.mem_of_getElem? (i := 61) rfl)) (by decide +kernel)), mi_X2_comparison⟩
theorem dX2_comparison_0 : decode cX2_comparison 0 = .ok (.aload_n 0, 1) := dc_42 (byA eNcX2_comparison (p := 0) (v := 42) (by decide +kernel))
theorem dX2_comparison_1 : decode cX2_comparison 1 = .ok (.iload_n 1, 1) := dc_27 (byA eNcX2_comparison (p := 1) (v := 27) (by decide +kernel))
theorem dX2_comparison_2 : decode cX2_comparison 2 = .ok (.invokevirtual 77, 3) := dc_182 (byA eNcX2_comparison (p := 2) (v := 182) (by decide +kernel)) (byA eNcX2_comparison (p := 3) (v := 0) (by decide +kernel)) (byA eNcX2_comparison (p := 4) (v := 77) (by decide +kernel)) rfl
theorem dX2_comparison_5 : decode cX2_comparison 5 = .ok (.istore_n 2, 1) := dc_61 (byA eNcX2_comparison (p := 5) (v := 61) (by decide +kernel))
theorem dX2_comparison_6 : decode cX2_comparison 6 = .ok (.aload_n 0, 1) := dc_42 (byA eNcX2_comparison (p := 6) (v := 42) (by decide +kernel))
theorem dX2_comparison_7 : decode cX2_comparison 7 = .ok (.getfield 9, 3) := dc_180 (byA eNcX2_comparison (p := 7) (v := 180) (by decide +kernel)) (byA eNcX2_comparison (p := 8) (v := 0) (by decide +kernel)) (byA eNcX2_comparison (p := 9) (v := 9) (by decide +kernel)) rfl
theorem dX2_comparison_10 : decode cX2_comparison 10 = .ok (.invokevirtual 87, 3) := dc_182 (byA eNcX2_comparison (p := 10) (v := 182) (by decide +kernel)) (byA eNcX2_comparison (p := 11) (v := 0) (by decide +kernel)) (byA eNcX2_comparison (p := 12) (v := 87) (by decide +kernel)) rfl
theorem dX2_comparison_13 : decode cX2_comparison 13 = .ok (.istore_n 3, 1) := dc_62 (byA eNcX2_comparison (p := 13) (v := 62) (by decide +kernel))
theorem dX2_comparison_14 : decode cX2_comparison 14 = .ok (.iload_n 3, 1) := dc_29 (byA eNcX2_comparison (p := 14) (v := 29) (by decide +kernel))
theorem dX2_comparison_15 : decode cX2_comparison 15 = .ok (.invokestatic 93, 3) := dc_184 (byA eNcX2_comparison (p := 15) (v := 184) (by decide +kernel)) (byA eNcX2_comparison (p := 16) (v := 0) (by decide +kernel)) (byA eNcX2_comparison (p := 17) (v := 93) (by decide +kernel)) rfl
theorem dX2_comparison_18 : decode cX2_comparison 18 = .ok (.ifCond .ne 19, 3) := dc_154 (byA eNcX2_comparison (p := 18) (v := 154) (by decide +kernel)) (byA eNcX2_comparison (p := 19) (v := 0) (by decide +kernel)) (byA eNcX2_comparison (p := 20) (v := 19) (by decide +kernel)) (by decide +kernel)
theorem dX2_comparison_21 : decode cX2_comparison 21 = .ok (.aload_n 0, 1) := dc_42 (byA eNcX2_comparison (p := 21) (v := 42) (by decide +kernel))
theorem dX2_comparison_22 : decode cX2_comparison 22 = .ok (.getfield 9, 3) := dc_180 (byA eNcX2_comparison (p := 22) (v := 180) (by decide +kernel)) (byA eNcX2_comparison (p := 23) (v := 0) (by decide +kernel)) (byA eNcX2_comparison (p := 24) (v := 9) (by decide +kernel)) rfl
theorem dX2_comparison_25 : decode cX2_comparison 25 = .ok (.aload_n 0, 1) := dc_42 (byA eNcX2_comparison (p := 25) (v := 42) (by decide +kernel))
theorem dX2_comparison_26 : decode cX2_comparison 26 = .ok (.getfield 9, 3) := dc_180 (byA eNcX2_comparison (p := 26) (v := 180) (by decide +kernel)) (byA eNcX2_comparison (p := 27) (v := 0) (by decide +kernel)) (byA eNcX2_comparison (p := 28) (v := 9) (by decide +kernel)) rfl
theorem dX2_comparison_29 : decode cX2_comparison 29 = .ok (.getfield 90, 3) := dc_180 (byA eNcX2_comparison (p := 29) (v := 180) (by decide +kernel)) (byA eNcX2_comparison (p := 30) (v := 0) (by decide +kernel)) (byA eNcX2_comparison (p := 31) (v := 90) (by decide +kernel)) rfl
theorem dX2_comparison_32 : decode cX2_comparison 32 = .ok (.invokevirtual 105, 3) := dc_182 (byA eNcX2_comparison (p := 32) (v := 182) (by decide +kernel)) (byA eNcX2_comparison (p := 33) (v := 0) (by decide +kernel)) (byA eNcX2_comparison (p := 34) (v := 105) (by decide +kernel)) rfl
theorem dX2_comparison_35 : decode cX2_comparison 35 = .ok (.iconst 0, 1) := dc_3 (byA eNcX2_comparison (p := 35) (v := 3) (by decide +kernel))
theorem dX2_comparison_36 : decode cX2_comparison 36 = .ok (.ireturn, 1) := dc_172 (byA eNcX2_comparison (p := 36) (v := 172) (by decide +kernel))
theorem dX2_comparison_37 : decode cX2_comparison 37 = .ok (.aload_n 0, 1) := dc_42 (byA eNcX2_comparison (p := 37) (v := 42) (by decide +kernel))
theorem dX2_comparison_38 : decode cX2_comparison 38 = .ok (.getfield 9, 3) := dc_180 (byA eNcX2_comparison (p := 38) (v := 180) (by decide +kernel)) (byA eNcX2_comparison (p := 39) (v := 0) (by decide +kernel)) (byA eNcX2_comparison (p := 40) (v := 9) (by decide +kernel)) rfl
theorem dX2_comparison_41 : decode cX2_comparison 41 = .ok (.invokevirtual 108, 3) := dc_182 (byA eNcX2_comparison (p := 41) (v := 182) (by decide +kernel)) (byA eNcX2_comparison (p := 42) (v := 0) (by decide +kernel)) (byA eNcX2_comparison (p := 43) (v := 108) (by decide +kernel)) rfl
theorem dX2_comparison_44 : decode cX2_comparison 44 = .ok (.aload_n 0, 1) := dc_42 (byA eNcX2_comparison (p := 44) (v := 42) (by decide +kernel))
theorem dX2_comparison_45 : decode cX2_comparison 45 = .ok (.iload_n 1, 1) := dc_27 (byA eNcX2_comparison (p := 45) (v := 27) (by decide +kernel))
theorem dX2_comparison_46 : decode cX2_comparison 46 = .ok (.invokevirtual 77, 3) := dc_182 (byA eNcX2_comparison (p := 46) (v := 182) (by decide +kernel)) (byA eNcX2_comparison (p := 47) (v := 0) (by decide +kernel)) (byA eNcX2_comparison (p := 48) (v := 77) (by decide +kernel)) rfl
theorem dX2_comparison_49 : decode cX2_comparison 49 = .ok (.istore 4, 2) := dc_54 (byA eNcX2_comparison (p := 49) (v := 54) (by decide +kernel)) (byA eNcX2_comparison (p := 50) (v := 4) (by decide +kernel))
theorem dX2_comparison_51 : decode cX2_comparison 51 = .ok (.iload_n 3, 1) := dc_29 (byA eNcX2_comparison (p := 51) (v := 29) (by decide +kernel))
theorem dX2_comparison_52 : decode cX2_comparison 52 = .ok (.bipush 61, 2) := dc_16 (byA eNcX2_comparison (p := 52) (v := 16) (by decide +kernel)) (byA eNcX2_comparison (p := 53) (v := 61) (by decide +kernel)) (by decide +kernel)
theorem dX2_comparison_54 : decode cX2_comparison 54 = .ok (.if_icmp .ne 15, 3) := dc_160 (byA eNcX2_comparison (p := 54) (v := 160) (by decide +kernel)) (byA eNcX2_comparison (p := 55) (v := 0) (by decide +kernel)) (byA eNcX2_comparison (p := 56) (v := 15) (by decide +kernel)) (by decide +kernel)
theorem dX2_comparison_57 : decode cX2_comparison 57 = .ok (.iload_n 2, 1) := dc_28 (byA eNcX2_comparison (p := 57) (v := 28) (by decide +kernel))
theorem dX2_comparison_58 : decode cX2_comparison 58 = .ok (.iload 4, 2) := dc_21 (byA eNcX2_comparison (p := 58) (v := 21) (by decide +kernel)) (byA eNcX2_comparison (p := 59) (v := 4) (by decide +kernel))
theorem dX2_comparison_60 : decode cX2_comparison 60 = .ok (.if_icmp .ne 7, 3) := dc_160 (byA eNcX2_comparison (p := 60) (v := 160) (by decide +kernel)) (byA eNcX2_comparison (p := 61) (v := 0) (by decide +kernel)) (byA eNcX2_comparison (p := 62) (v := 7) (by decide +kernel)) (by decide +kernel)
theorem dX2_comparison_63 : decode cX2_comparison 63 = .ok (.iconst 1, 1) := dc_4 (byA eNcX2_comparison (p := 63) (v := 4) (by decide +kernel))
theorem dX2_comparison_64 : decode cX2_comparison 64 = .ok (.goto 4, 3) := dc_167 (byA eNcX2_comparison (p := 64) (v := 167) (by decide +kernel)) (byA eNcX2_comparison (p := 65) (v := 0) (by decide +kernel)) (byA eNcX2_comparison (p := 66) (v := 4) (by decide +kernel)) (by decide +kernel)
theorem dX2_comparison_67 : decode cX2_comparison 67 = .ok (.iconst 0, 1) := dc_3 (byA eNcX2_comparison (p := 67) (v := 3) (by decide +kernel))
theorem dX2_comparison_68 : decode cX2_comparison 68 = .ok (.ireturn, 1) := dc_172 (byA eNcX2_comparison (p := 68) (v := 172) (by decide +kernel))
theorem dX2_comparison_69 : decode cX2_comparison 69 = .ok (.iload_n 3, 1) := dc_29 (byA eNcX2_comparison (p := 69) (v := 29) (by decide +kernel))
theorem dX2_comparison_70 : decode cX2_comparison 70 = .ok (.bipush 60, 2) := dc_16 (byA eNcX2_comparison (p := 70) (v := 16) (by decide +kernel)) (byA eNcX2_comparison (p := 71) (v := 60) (by decide +kernel)) (by decide +kernel)
theorem dX2_comparison_72 : decode cX2_comparison 72 = .ok (.if_icmp .ne 17, 3) := dc_160 (byA eNcX2_comparison (p := 72) (v := 160) (by decide +kernel)) (byA eNcX2_comparison (p := 73) (v := 0) (by decide +kernel)) (byA eNcX2_comparison (p := 74) (v := 17) (by decide +kernel)) (by decide +kernel)
theorem dX2_comparison_75 : decode cX2_comparison 75 = .ok (.iload_n 2, 1) := dc_28 (byA eNcX2_comparison (p := 75) (v := 28) (by decide +kernel))
theorem dX2_comparison_76 : decode cX2_comparison 76 = .ok (.iload 4, 2) := dc_21 (byA eNcX2_comparison (p := 76) (v := 21) (by decide +kernel)) (byA eNcX2_comparison (p := 77) (v := 4) (by decide +kernel))
theorem dX2_comparison_78 : decode cX2_comparison 78 = .ok (.if_icmp .ge 7, 3) := dc_162 (byA eNcX2_comparison (p := 78) (v := 162) (by decide +kernel)) (byA eNcX2_comparison (p := 79) (v := 0) (by decide +kernel)) (byA eNcX2_comparison (p := 80) (v := 7) (by decide +kernel)) (by decide +kernel)
theorem dX2_comparison_81 : decode cX2_comparison 81 = .ok (.iconst 1, 1) := dc_4 (byA eNcX2_comparison (p := 81) (v := 4) (by decide +kernel))
theorem dX2_comparison_82 : decode cX2_comparison 82 = .ok (.goto 18, 3) := dc_167 (byA eNcX2_comparison (p := 82) (v := 167) (by decide +kernel)) (byA eNcX2_comparison (p := 83) (v := 0) (by decide +kernel)) (byA eNcX2_comparison (p := 84) (v := 18) (by decide +kernel)) (by decide +kernel)
theorem dX2_comparison_85 : decode cX2_comparison 85 = .ok (.iconst 0, 1) := dc_3 (byA eNcX2_comparison (p := 85) (v := 3) (by decide +kernel))
theorem dX2_comparison_86 : decode cX2_comparison 86 = .ok (.goto 14, 3) := dc_167 (byA eNcX2_comparison (p := 86) (v := 167) (by decide +kernel)) (byA eNcX2_comparison (p := 87) (v := 0) (by decide +kernel)) (byA eNcX2_comparison (p := 88) (v := 14) (by decide +kernel)) (by decide +kernel)
theorem dX2_comparison_89 : decode cX2_comparison 89 = .ok (.iload_n 2, 1) := dc_28 (byA eNcX2_comparison (p := 89) (v := 28) (by decide +kernel))
theorem dX2_comparison_90 : decode cX2_comparison 90 = .ok (.iload 4, 2) := dc_21 (byA eNcX2_comparison (p := 90) (v := 21) (by decide +kernel)) (byA eNcX2_comparison (p := 91) (v := 4) (by decide +kernel))
theorem dX2_comparison_92 : decode cX2_comparison 92 = .ok (.if_icmp .le 7, 3) := dc_164 (byA eNcX2_comparison (p := 92) (v := 164) (by decide +kernel)) (byA eNcX2_comparison (p := 93) (v := 0) (by decide +kernel)) (byA eNcX2_comparison (p := 94) (v := 7) (by decide +kernel)) (by decide +kernel)
theorem dX2_comparison_95 : decode cX2_comparison 95 = .ok (.iconst 1, 1) := dc_4 (byA eNcX2_comparison (p := 95) (v := 4) (by decide +kernel))
theorem dX2_comparison_96 : decode cX2_comparison 96 = .ok (.goto 4, 3) := dc_167 (byA eNcX2_comparison (p := 96) (v := 167) (by decide +kernel)) (byA eNcX2_comparison (p := 97) (v := 0) (by decide +kernel)) (byA eNcX2_comparison (p := 98) (v := 4) (by decide +kernel)) (by decide +kernel)
theorem dX2_comparison_99 : decode cX2_comparison 99 = .ok (.iconst 0, 1) := dc_3 (byA eNcX2_comparison (p := 99) (v := 3) (by decide +kernel))
theorem dX2_comparison_100 : decode cX2_comparison 100 = .ok (.ireturn, 1) := dc_172 (byA eNcX2_comparison (p := 100) (v := 172) (by decide +kernel))
def X2_comparison (l1 : Int) (μ : Mm) : Rs := bd (X2_sum RD l1 μ) fun v1 μ2 => bd (X4_peek μ2) fun v4 μ5 => bd (X2_isComparison v4 μ5) fun v7 μ8 => if v7 = 0 then (bd (X4_refuseAt (μ8 3 1) μ8) fun v22 μ23 => some (0, μ23)) else (bd (X4_pass μ8) fun v11 μ12 => bd (X2_sum RD l1 μ12) fun v14 μ15 => if v4 = 61 then (if v1 = v14 then (some (1, μ15)) else (some (0, μ15))) else (if v4 = 60 then (if v14 ≤ v1 then (some (0, μ15)) else (some (1, μ15))) else (if v1 ≤ v14 then (some (0, μ15)) else (some (1, μ15)))))
set_option maxHeartbeats 4000000 in
set_option maxRecDepth 100000 in
theorem kX2_comparison (d : Nat) (hd : 134 ≤ d) {l1 : Int} {μ : Mm} {r : Int} {μ' : Mm} (h : X2_comparison l1 μ = some (r, μ')) : CC d mX2_comparison [vR 4, vI l1] μ r μ' := by
  unfold X2_comparison at h
  refine V_enter (by decide) (Nat.le_of_ble_eq_true rfl) ?_
  show VV d mX2_comparison 0 [some (vR 4), some (vI l1), none, none, none] [] μ r μ'
  refine V_aload_n (q := 1) dX2_comparison_0 rfl rfl rfl ?_
  refine V_iload_n (q := 2) dX2_comparison_1 rfl rfl rfl ?_
  obtain ⟨v1, μ2, hc3, h⟩ := bd_i h
  refine V_cV1 (q := 5) (v := vI v1) (kX2_sum RD (d - 1) (by unfold RD; omega) hc3) (by omega) mv_X2_77 rfl rfl rfl rfl rfl rfl dX2_comparison_2 rfl ?_
  refine V_istore_n (q := 6) dX2_comparison_5 rfl (Nat.le_of_ble_eq_true rfl) trivial rfl ?_
  refine V_aload_n (q := 7) dX2_comparison_6 rfl rfl rfl ?_
  refine V_getC (q := 10) fl_X2_9 rfl rfl rfl dX2_comparison_7 rfl ?_
  obtain ⟨v4, μ5, hc6, h⟩ := bd_i h
  refine V_cV1 (q := 13) (v := vI v4) (kX4_peek (d - 1) (by omega) hc6) (by omega) mv_X2_87 rfl rfl rfl rfl rfl rfl dX2_comparison_10 rfl ?_
  refine V_istore_n (q := 14) dX2_comparison_13 rfl (Nat.le_of_ble_eq_true rfl) trivial rfl ?_
  refine V_iload_n (q := 15) dX2_comparison_14 rfl rfl rfl ?_
  obtain ⟨v7, μ8, hc9, h⟩ := bd_i h
  refine V_cS1 (q := 18) (v := vI v7) (kX2_isComparison (d - 1) (by omega) hc9) (by omega) mv_X2_93 rfl rfl rfl rfl dX2_comparison_15 rfl ?_
  refine V_ifne (q := 37) (q2 := 21) dX2_comparison_18 (by decide) rfl (fun hc10 => ?_) (fun hc10 => ?_)
  · have h := ifF hc10 h
    refine V_aload_n (q := 38) dX2_comparison_37 rfl rfl rfl ?_
    refine V_getC (q := 41) fl_X2_9 rfl rfl rfl dX2_comparison_38 rfl ?_
    obtain ⟨v11, μ12, hc13, h⟩ := bd_i h
    refine V_cV0 (q := 44) (kX4_pass (d - 1) (by omega) hc13) (by omega) mv_X2_108 rfl rfl rfl rfl rfl rfl dX2_comparison_41 rfl ?_
    refine V_aload_n (q := 45) dX2_comparison_44 rfl rfl rfl ?_
    refine V_iload_n (q := 46) dX2_comparison_45 rfl rfl rfl ?_
    obtain ⟨v14, μ15, hc16, h⟩ := bd_i h
    refine V_cV1 (q := 49) (v := vI v14) (kX2_sum RD (d - 1) (by unfold RD; omega) hc16) (by omega) mv_X2_77 rfl rfl rfl rfl rfl rfl dX2_comparison_46 rfl ?_
    refine V_istore (q := 51) dX2_comparison_49 (Nat.le_of_ble_eq_true rfl) trivial rfl ?_
    refine V_iload_n (q := 52) dX2_comparison_51 rfl rfl rfl ?_
    refine V_bipush (q := 54) dX2_comparison_52 rfl rfl rfl ?_
    refine V_icmpne (q := 69) (q2 := 57) dX2_comparison_54 (by decide) rfl (fun hc17 => ?_) (fun hc17 => ?_)
    · have h := ifF hc17 h
      refine V_iload_n (q := 70) dX2_comparison_69 rfl rfl rfl ?_
      refine V_bipush (q := 72) dX2_comparison_70 rfl rfl rfl ?_
      refine V_icmpne (q := 89) (q2 := 75) dX2_comparison_72 (by decide) rfl (fun hc18 => ?_) (fun hc18 => ?_)
      · have h := ifF hc18 h
        refine V_iload_n (q := 90) dX2_comparison_89 rfl rfl rfl ?_
        refine V_iload (q := 92) dX2_comparison_90 rfl rfl ?_
        refine V_icmple (q := 99) (q2 := 95) dX2_comparison_92 (by decide) rfl (fun hc19 => ?_) (fun hc19 => ?_)
        · have h := ifT hc19 h
          refine V_iconst (q := 100) dX2_comparison_99 rfl rfl ?_
          exact V_zret rfl (Or.inl rfl) h dX2_comparison_100
        · have h := ifF hc19 h
          refine V_iconst (q := 96) dX2_comparison_95 rfl rfl ?_
          refine V_goto (q := 100) dX2_comparison_96 (by decide) ?_
          exact V_zret rfl (Or.inr rfl) h dX2_comparison_100
      · have h := ifT hc18 h
        refine V_iload_n (q := 76) dX2_comparison_75 rfl rfl rfl ?_
        refine V_iload (q := 78) dX2_comparison_76 rfl rfl ?_
        refine V_icmpge (q := 85) (q2 := 81) dX2_comparison_78 (by decide) rfl (fun hc20 => ?_) (fun hc20 => ?_)
        · have h := ifT hc20 h
          refine V_iconst (q := 86) dX2_comparison_85 rfl rfl ?_
          refine V_goto (q := 100) dX2_comparison_86 (by decide) ?_
          exact V_zret rfl (Or.inl rfl) h dX2_comparison_100
        · have h := ifF hc20 h
          refine V_iconst (q := 82) dX2_comparison_81 rfl rfl ?_
          refine V_goto (q := 100) dX2_comparison_82 (by decide) ?_
          exact V_zret rfl (Or.inr rfl) h dX2_comparison_100
    · have h := ifT hc17 h
      refine V_iload_n (q := 58) dX2_comparison_57 rfl rfl rfl ?_
      refine V_iload (q := 60) dX2_comparison_58 rfl rfl ?_
      refine V_icmpne (q := 67) (q2 := 63) dX2_comparison_60 (by decide) rfl (fun hc21 => ?_) (fun hc21 => ?_)
      · have h := ifF hc21 h
        refine V_iconst (q := 68) dX2_comparison_67 rfl rfl ?_
        exact V_zret rfl (Or.inl rfl) h dX2_comparison_68
      · have h := ifT hc21 h
        refine V_iconst (q := 64) dX2_comparison_63 rfl rfl ?_
        refine V_goto (q := 68) dX2_comparison_64 (by decide) ?_
        exact V_zret rfl (Or.inr rfl) h dX2_comparison_68
  · have h := ifT hc10 h
    refine V_aload_n (q := 22) dX2_comparison_21 rfl rfl rfl ?_
    refine V_getC (q := 25) fl_X2_9 rfl rfl rfl dX2_comparison_22 rfl ?_
    refine V_aload_n (q := 26) dX2_comparison_25 rfl rfl rfl ?_
    refine V_getC (q := 29) fl_X2_9 rfl rfl rfl dX2_comparison_26 rfl ?_
    refine V_getI (q := 32) fl_X2_90 rfl rfl rfl dX2_comparison_29 rfl ?_
    obtain ⟨v22, μ23, hc24, h⟩ := bd_i h
    refine V_cV0 (q := 35) (kX4_refuseAt (d - 1) (by omega) hc24) (by omega) mv_X2_105 rfl rfl rfl rfl rfl rfl dX2_comparison_32 rfl ?_
    refine V_iconst (q := 36) dX2_comparison_35 rfl rfl ?_
    exact V_zret rfl (Or.inl rfl) h dX2_comparison_36
abbrev mX2_truth : Mth := (yX2_truth, cX2_truth, 4, some .boolean)
set_option maxRecDepth 100000 in
theorem mi_X2_truth : Cond.instanceMethod yX2_truth ∈ tG ∧ Cond.selects yX2_truth.cls yX2_truth yX2_truth ∈ tG ∧ Cond.initialized yX2_truth.cls ∈ tG ∧ Cond.code yX2_truth cX2_truth 4 (some .boolean) ∈ tG ∧ (yX2_truth.cls ≠ "java/lang/invoke/MethodHandle" ∧ yX2_truth.cls ≠ "java/lang/invoke/VarHandle" ∧ (parseMethodDescriptor yX2_truth.desc).map (fun d => d.parameters.length) = some 1) ∧ 4 ≤ 60 := ⟨(tG_of (tb3 (List.mem_of_getElem? (i := 55) rfl)) (by decide +kernel)), (tG_of (List.mem_of_getElem? (i := 11) (by decide +kernel)) (by decide +kernel)), (tG_of (tb1 (List.mem_of_getElem? (i := 4) rfl)) (by decide +kernel)), (tG_of (tb3 (List.mem_of_getElem? (i := 56) rfl)) (by decide +kernel)), ⟨by decide, by decide, by decide +kernel⟩, by decide⟩
set_option maxRecDepth 100000 in
theorem mv_X2_96 : mV RX2 96 mX2_truth 1 := ⟨(tG_of (tb3 (List.mem_of_getElem? (i := 53) rfl)) (by decide +kernel)), mi_X2_truth⟩
abbrev mX2_condition : Mth := (yX2_condition, cX2_condition, 4, some .boolean)
set_option maxRecDepth 100000 in
theorem mi_X2_condition : Cond.instanceMethod yX2_condition ∈ tG ∧ Cond.selects yX2_condition.cls yX2_condition yX2_condition ∈ tG ∧ Cond.initialized yX2_condition.cls ∈ tG ∧ Cond.code yX2_condition cX2_condition 4 (some .boolean) ∈ tG ∧ (yX2_condition.cls ≠ "java/lang/invoke/MethodHandle" ∧ yX2_condition.cls ≠ "java/lang/invoke/VarHandle" ∧ (parseMethodDescriptor yX2_condition.desc).map (fun d => d.parameters.length) = some 1) ∧ 4 ≤ 60 := ⟨(tG_of (tb3 (List.mem_of_getElem? (i := 51) rfl)) (by decide +kernel)), (tG_of (List.mem_of_getElem? (i := 10) (by decide +kernel)) (by decide +kernel)), (tG_of (tb1 (List.mem_of_getElem? (i := 4) rfl)) (by decide +kernel)), (tG_of (tb3 (List.mem_of_getElem? (i := 52) rfl)) (by decide +kernel)), ⟨by decide, by decide, by decide +kernel⟩, by decide⟩
set_option maxRecDepth 100000 in
theorem mv_X2_73 : mV RX2 73 mX2_condition 1 := ⟨(tG_of (tb3 (List.mem_of_getElem? (i := 49) rfl)) (by decide +kernel)), mi_X2_condition⟩
abbrev mX2_enclosed : Mth := (yX2_enclosed, cX2_enclosed, 3, some .boolean)
set_option maxRecDepth 100000 in
theorem mi_X2_enclosed : Cond.instanceMethod yX2_enclosed ∈ tG ∧ Cond.selects yX2_enclosed.cls yX2_enclosed yX2_enclosed ∈ tG ∧ Cond.initialized yX2_enclosed.cls ∈ tG ∧ Cond.code yX2_enclosed cX2_enclosed 3 (some .boolean) ∈ tG ∧ (yX2_enclosed.cls ≠ "java/lang/invoke/MethodHandle" ∧ yX2_enclosed.cls ≠ "java/lang/invoke/VarHandle" ∧ (parseMethodDescriptor yX2_enclosed.desc).map (fun d => d.parameters.length) = some 1) ∧ 3 ≤ 60 := ⟨(tG_of (tb3 (List.mem_of_getElem? (i := 71) rfl)) (by decide +kernel)), (tG_of (List.mem_of_getElem? (i := 15) (by decide +kernel)) (by decide +kernel)), (tG_of (tb1 (List.mem_of_getElem? (i := 4) rfl)) (by decide +kernel)), (tG_of (tb3 (List.mem_of_getElem? (i := 72) rfl)) (by decide +kernel)), ⟨by decide, by decide, by decide +kernel⟩, by decide⟩
set_option maxRecDepth 100000 in
theorem mv_X2_114 : mV RX2 114 mX2_enclosed 1 := ⟨(tG_of (tb3 (List.mem_of_getElem? (i := 69) rfl)) (by decide +kernel)), mi_X2_enclosed⟩
abbrev mX2_denied : Mth := (yX2_denied, cX2_denied, 2, some .boolean)
set_option maxRecDepth 100000 in
theorem mi_X2_denied : Cond.instanceMethod yX2_denied ∈ tG ∧ Cond.selects yX2_denied.cls yX2_denied yX2_denied ∈ tG ∧ Cond.initialized yX2_denied.cls ∈ tG ∧ Cond.code yX2_denied cX2_denied 2 (some .boolean) ∈ tG ∧ (yX2_denied.cls ≠ "java/lang/invoke/MethodHandle" ∧ yX2_denied.cls ≠ "java/lang/invoke/VarHandle" ∧ (parseMethodDescriptor yX2_denied.desc).map (fun d => d.parameters.length) = some 1) ∧ 2 ≤ 60 := ⟨(tG_of (tb3 (List.mem_of_getElem? (i := 67) rfl)) (by decide +kernel)), (tG_of (List.mem_of_getElem? (i := 14) (by decide +kernel)) (by decide +kernel)), (tG_of (tb1 (List.mem_of_getElem? (i := 4) rfl)) (by decide +kernel)), (tG_of (tb3 (List.mem_of_getElem? (i := 68) rfl)) (by decide +kernel)), ⟨by decide, by decide, by decide +kernel⟩, by decide⟩
set_option maxRecDepth 100000 in
theorem mv_X2_111 : mV RX2 111 mX2_denied 1 := ⟨(tG_of (tb3 (List.mem_of_getElem? (i := 65) rfl)) (by decide +kernel)), mi_X2_denied⟩
abbrev mX2_unit : Mth := (yX2_unit, cX2_unit, 3, some .boolean)
set_option maxRecDepth 100000 in
theorem mi_X2_unit : Cond.instanceMethod yX2_unit ∈ tG ∧ Cond.selects yX2_unit.cls yX2_unit yX2_unit ∈ tG ∧ Cond.initialized yX2_unit.cls ∈ tG ∧ Cond.code yX2_unit cX2_unit 3 (some .boolean) ∈ tG ∧ (yX2_unit.cls ≠ "java/lang/invoke/MethodHandle" ∧ yX2_unit.cls ≠ "java/lang/invoke/VarHandle" ∧ (parseMethodDescriptor yX2_unit.desc).map (fun d => d.parameters.length) = some 1) ∧ 3 ≤ 60 := ⟨(tG_of (tb3 (List.mem_of_getElem? (i := 59) rfl)) (by decide +kernel)), (tG_of (List.mem_of_getElem? (i := 12) (by decide +kernel)) (by decide +kernel)), (tG_of (tb1 (List.mem_of_getElem? (i := 4) rfl)) (by decide +kernel)), (tG_of (tb3 (List.mem_of_getElem? (i := 60) rfl)) (by decide +kernel)), ⟨by decide, by decide, by decide +kernel⟩, by decide⟩
set_option maxRecDepth 100000 in
theorem mv_X2_99 : mV RX2 99 mX2_unit 1 := ⟨(tG_of (tb3 (List.mem_of_getElem? (i := 57) rfl)) (by decide +kernel)), mi_X2_unit⟩
theorem dX2_truth_0 : decode cX2_truth 0 = .ok (.aload_n 0, 1) := dc_42 (byA eNcX2_truth (p := 0) (v := 42) (by decide +kernel))
theorem dX2_truth_1 : decode cX2_truth 1 = .ok (.iload_n 1, 1) := dc_27 (byA eNcX2_truth (p := 1) (v := 27) (by decide +kernel))
theorem dX2_truth_2 : decode cX2_truth 2 = .ok (.invokevirtual 99, 3) := dc_182 (byA eNcX2_truth (p := 2) (v := 182) (by decide +kernel)) (byA eNcX2_truth (p := 3) (v := 0) (by decide +kernel)) (byA eNcX2_truth (p := 4) (v := 99) (by decide +kernel)) rfl
theorem dX2_truth_5 : decode cX2_truth 5 = .ok (.istore_n 2, 1) := dc_61 (byA eNcX2_truth (p := 5) (v := 61) (by decide +kernel))
theorem dX2_truth_6 : decode cX2_truth 6 = .ok (.iconst 0, 1) := dc_3 (byA eNcX2_truth (p := 6) (v := 3) (by decide +kernel))
theorem dX2_truth_7 : decode cX2_truth 7 = .ok (.istore_n 3, 1) := dc_62 (byA eNcX2_truth (p := 7) (v := 62) (by decide +kernel))
theorem dX2_truth_8 : decode cX2_truth 8 = .ok (.iload_n 3, 1) := dc_29 (byA eNcX2_truth (p := 8) (v := 29) (by decide +kernel))
theorem dX2_truth_9 : decode cX2_truth 9 = .ok (.sipush 160, 3) := dc_17 (byA eNcX2_truth (p := 9) (v := 17) (by decide +kernel)) (byA eNcX2_truth (p := 10) (v := 0) (by decide +kernel)) (byA eNcX2_truth (p := 11) (v := 160) (by decide +kernel)) (by decide +kernel)
theorem dX2_truth_12 : decode cX2_truth 12 = .ok (.if_icmp .ge 39, 3) := dc_162 (byA eNcX2_truth (p := 12) (v := 162) (by decide +kernel)) (byA eNcX2_truth (p := 13) (v := 0) (by decide +kernel)) (byA eNcX2_truth (p := 14) (v := 39) (by decide +kernel)) (by decide +kernel)
theorem dX2_truth_15 : decode cX2_truth 15 = .ok (.aload_n 0, 1) := dc_42 (byA eNcX2_truth (p := 15) (v := 42) (by decide +kernel))
theorem dX2_truth_16 : decode cX2_truth 16 = .ok (.getfield 9, 3) := dc_180 (byA eNcX2_truth (p := 16) (v := 180) (by decide +kernel)) (byA eNcX2_truth (p := 17) (v := 0) (by decide +kernel)) (byA eNcX2_truth (p := 18) (v := 9) (by decide +kernel)) rfl
theorem dX2_truth_19 : decode cX2_truth 19 = .ok (.bipush 38, 2) := dc_16 (byA eNcX2_truth (p := 19) (v := 16) (by decide +kernel)) (byA eNcX2_truth (p := 20) (v := 38) (by decide +kernel)) (by decide +kernel)
theorem dX2_truth_21 : decode cX2_truth 21 = .ok (.invokevirtual 81, 3) := dc_182 (byA eNcX2_truth (p := 21) (v := 182) (by decide +kernel)) (byA eNcX2_truth (p := 22) (v := 0) (by decide +kernel)) (byA eNcX2_truth (p := 23) (v := 81) (by decide +kernel)) rfl
theorem dX2_truth_24 : decode cX2_truth 24 = .ok (.ifCond .eq 27, 3) := dc_153 (byA eNcX2_truth (p := 24) (v := 153) (by decide +kernel)) (byA eNcX2_truth (p := 25) (v := 0) (by decide +kernel)) (byA eNcX2_truth (p := 26) (v := 27) (by decide +kernel)) (by decide +kernel)
theorem dX2_truth_27 : decode cX2_truth 27 = .ok (.aload_n 0, 1) := dc_42 (byA eNcX2_truth (p := 27) (v := 42) (by decide +kernel))
theorem dX2_truth_28 : decode cX2_truth 28 = .ok (.iload_n 1, 1) := dc_27 (byA eNcX2_truth (p := 28) (v := 27) (by decide +kernel))
theorem dX2_truth_29 : decode cX2_truth 29 = .ok (.invokevirtual 99, 3) := dc_182 (byA eNcX2_truth (p := 29) (v := 182) (by decide +kernel)) (byA eNcX2_truth (p := 30) (v := 0) (by decide +kernel)) (byA eNcX2_truth (p := 31) (v := 99) (by decide +kernel)) rfl
theorem dX2_truth_32 : decode cX2_truth 32 = .ok (.ifCond .eq 11, 3) := dc_153 (byA eNcX2_truth (p := 32) (v := 153) (by decide +kernel)) (byA eNcX2_truth (p := 33) (v := 0) (by decide +kernel)) (byA eNcX2_truth (p := 34) (v := 11) (by decide +kernel)) (by decide +kernel)
theorem dX2_truth_35 : decode cX2_truth 35 = .ok (.iload_n 2, 1) := dc_28 (byA eNcX2_truth (p := 35) (v := 28) (by decide +kernel))
theorem dX2_truth_36 : decode cX2_truth 36 = .ok (.ifCond .eq 7, 3) := dc_153 (byA eNcX2_truth (p := 36) (v := 153) (by decide +kernel)) (byA eNcX2_truth (p := 37) (v := 0) (by decide +kernel)) (byA eNcX2_truth (p := 38) (v := 7) (by decide +kernel)) (by decide +kernel)
theorem dX2_truth_39 : decode cX2_truth 39 = .ok (.iconst 1, 1) := dc_4 (byA eNcX2_truth (p := 39) (v := 4) (by decide +kernel))
theorem dX2_truth_40 : decode cX2_truth 40 = .ok (.goto 4, 3) := dc_167 (byA eNcX2_truth (p := 40) (v := 167) (by decide +kernel)) (byA eNcX2_truth (p := 41) (v := 0) (by decide +kernel)) (byA eNcX2_truth (p := 42) (v := 4) (by decide +kernel)) (by decide +kernel)
theorem dX2_truth_43 : decode cX2_truth 43 = .ok (.iconst 0, 1) := dc_3 (byA eNcX2_truth (p := 43) (v := 3) (by decide +kernel))
theorem dX2_truth_44 : decode cX2_truth 44 = .ok (.istore_n 2, 1) := dc_61 (byA eNcX2_truth (p := 44) (v := 61) (by decide +kernel))
theorem dX2_truth_45 : decode cX2_truth 45 = .ok (.iinc 3 1, 3) := dc_132 (byA eNcX2_truth (p := 45) (v := 132) (by decide +kernel)) (byA eNcX2_truth (p := 46) (v := 3) (by decide +kernel)) (byA eNcX2_truth (p := 47) (v := 1) (by decide +kernel)) (by decide +kernel)
theorem dX2_truth_48 : decode cX2_truth 48 = .ok (.goto (-40), 3) := dc_167 (byA eNcX2_truth (p := 48) (v := 167) (by decide +kernel)) (byA eNcX2_truth (p := 49) (v := 255) (by decide +kernel)) (byA eNcX2_truth (p := 50) (v := 216) (by decide +kernel)) (by decide +kernel)
theorem dX2_truth_51 : decode cX2_truth 51 = .ok (.iload_n 2, 1) := dc_28 (byA eNcX2_truth (p := 51) (v := 28) (by decide +kernel))
theorem dX2_truth_52 : decode cX2_truth 52 = .ok (.ireturn, 1) := dc_172 (byA eNcX2_truth (p := 52) (v := 172) (by decide +kernel))
def X2_truth_L8 (rec : Int → Mm → Rs) (l1 : Int) : Nat → Int → Int → Mm → Rs
  | 0, _, _, _ => none
  | n + 1, l2, l3, μ => if 160 ≤ l3 then (rZ l2 μ) else (bd (X4_take 38 μ) fun v6 μ7 => if v6 = 0 then (rZ l2 μ7) else (bd (rec l1 μ7) fun v11 μ12 => if v11 = 0 then (X2_truth_L8 rec l1 n 0 (iA l3 1) μ12) else (if l2 = 0 then (X2_truth_L8 rec l1 n 0 (iA l3 1) μ12) else (X2_truth_L8 rec l1 n 1 (iA l3 1) μ12))))
def X2_truth_o (rec : Int → Mm → Rs) (l1 : Int) (μ : Mm) : Rs := bd (rec l1 μ) fun v1 μ2 => X2_truth_L8 rec l1 FU v1 0 μ2
set_option maxHeartbeats 4000000 in
set_option maxRecDepth 100000 in
theorem kX2_truth_L8 (d : Nat) {d0 : Nat} (hd : d0 + 2 ≤ d) {rec : Int → Mm → Rs} (hrec : ∀ {q1 : Int} {μ1 : Mm} {r1 : Int} {μ2 : Mm}, rec q1 μ1 = some (r1, μ2) → CC d0 mX2_unit [vR 4, vI q1] μ1 r1 μ2) (hb : 137 ≤ d) {l1 : Int} {r : Int} {μ' : Mm} : ∀ (n : Nat) {l2 l3 : Int} {μ : Mm}, X2_truth_L8 rec l1 n l2 l3 μ = some (r, μ') → VV d mX2_truth 8 [some (vR 4), some (vI l1), some (vI l2), some (vI l3)] [] μ r μ' := by
  intro n
  induction n with
  | zero => intro l2 l3 μ h; rw [X2_truth_L8] at h; cases h
  | succ n ih =>
    intro l2 l3 μ h
    rw [X2_truth_L8] at h
    refine V_iload_n (q := 9) dX2_truth_8 rfl rfl rfl ?_
    refine V_sipush (q := 12) dX2_truth_9 rfl rfl rfl ?_
    refine V_icmpge (q := 51) (q2 := 15) dX2_truth_12 (by decide) rfl (fun hc4 => ?_) (fun hc4 => ?_)
    · have h := ifT hc4 h
      refine V_iload_n (q := 52) dX2_truth_51 rfl rfl rfl ?_
      obtain ⟨hz5, h⟩ := rZ_i h
      exact V_zret rfl hz5 h dX2_truth_52
    · have h := ifF hc4 h
      refine V_aload_n (q := 16) dX2_truth_15 rfl rfl rfl ?_
      refine V_getC (q := 19) fl_X2_9 rfl rfl rfl dX2_truth_16 rfl ?_
      refine V_bipush (q := 21) dX2_truth_19 rfl rfl rfl ?_
      obtain ⟨v6, μ7, hc8, h⟩ := bd_i h
      refine V_cV1 (q := 24) (v := vI v6) (kX4_take (d - 1) (by omega) hc8) (by omega) mv_X2_81 rfl rfl rfl rfl rfl rfl dX2_truth_21 rfl ?_
      refine V_ifeq (q := 51) (q2 := 27) dX2_truth_24 (by decide) rfl (fun hc9 => ?_) (fun hc9 => ?_)
      · have h := ifT hc9 h
        refine V_iload_n (q := 52) dX2_truth_51 rfl rfl rfl ?_
        obtain ⟨hz10, h⟩ := rZ_i h
        exact V_zret rfl hz10 h dX2_truth_52
      · have h := ifF hc9 h
        refine V_aload_n (q := 28) dX2_truth_27 rfl rfl rfl ?_
        refine V_iload_n (q := 29) dX2_truth_28 rfl rfl rfl ?_
        obtain ⟨v11, μ12, hc13, h⟩ := bd_i h
        refine V_cV1 (q := 32) (v := vI v11) (hrec hc13) (by omega) mv_X2_99 rfl rfl rfl rfl rfl rfl dX2_truth_29 rfl ?_
        refine V_ifeq (q := 43) (q2 := 35) dX2_truth_32 (by decide) rfl (fun hc14 => ?_) (fun hc14 => ?_)
        · have h := ifT hc14 h
          refine V_iconst (q := 44) dX2_truth_43 rfl rfl ?_
          refine V_istore_n (q := 45) dX2_truth_44 rfl (Nat.le_of_ble_eq_true rfl) trivial rfl ?_
          refine V_iinc (q := 48) dX2_truth_45 rfl (Nat.le_of_ble_eq_true rfl) trivial rfl ?_
          refine V_goto (q := 8) dX2_truth_48 (by decide) ?_
          exact V_weak (ih h) (sb_s rfl (sb_s rfl (sb_s rfl (sb_s rfl sb_0))))
        · have h := ifF hc14 h
          refine V_iload_n (q := 36) dX2_truth_35 rfl rfl rfl ?_
          refine V_ifeq (q := 43) (q2 := 39) dX2_truth_36 (by decide) rfl (fun hc15 => ?_) (fun hc15 => ?_)
          · have h := ifT hc15 h
            refine V_iconst (q := 44) dX2_truth_43 rfl rfl ?_
            refine V_istore_n (q := 45) dX2_truth_44 rfl (Nat.le_of_ble_eq_true rfl) trivial rfl ?_
            refine V_iinc (q := 48) dX2_truth_45 rfl (Nat.le_of_ble_eq_true rfl) trivial rfl ?_
            refine V_goto (q := 8) dX2_truth_48 (by decide) ?_
            exact V_weak (ih h) (sb_s rfl (sb_s rfl (sb_s rfl (sb_s rfl sb_0))))
          · have h := ifF hc15 h
            refine V_iconst (q := 40) dX2_truth_39 rfl rfl ?_
            refine V_goto (q := 44) dX2_truth_40 (by decide) ?_
            refine V_istore_n (q := 45) dX2_truth_44 rfl (Nat.le_of_ble_eq_true rfl) trivial rfl ?_
            refine V_iinc (q := 48) dX2_truth_45 rfl (Nat.le_of_ble_eq_true rfl) trivial rfl ?_
            refine V_goto (q := 8) dX2_truth_48 (by decide) ?_
            exact V_weak (ih h) (sb_s rfl (sb_s rfl (sb_s rfl (sb_s rfl sb_0))))
set_option maxHeartbeats 4000000 in
set_option maxRecDepth 100000 in
theorem kX2_truth (d : Nat) {d0 : Nat} (hd : d0 + 2 ≤ d) {rec : Int → Mm → Rs} (hrec : ∀ {q1 : Int} {μ1 : Mm} {r1 : Int} {μ2 : Mm}, rec q1 μ1 = some (r1, μ2) → CC d0 mX2_unit [vR 4, vI q1] μ1 r1 μ2) (hb : 137 ≤ d) {l1 : Int} {μ : Mm} {r : Int} {μ' : Mm} (h : X2_truth_o rec l1 μ = some (r, μ')) : CC d mX2_truth [vR 4, vI l1] μ r μ' := by
  unfold X2_truth_o at h
  refine V_enter (by decide) (Nat.le_of_ble_eq_true rfl) ?_
  show VV d mX2_truth 0 [some (vR 4), some (vI l1), none, none] [] μ r μ'
  refine V_aload_n (q := 1) dX2_truth_0 rfl rfl rfl ?_
  refine V_iload_n (q := 2) dX2_truth_1 rfl rfl rfl ?_
  obtain ⟨v1, μ2, hc3, h⟩ := bd_i h
  refine V_cV1 (q := 5) (v := vI v1) (hrec hc3) (by omega) mv_X2_99 rfl rfl rfl rfl rfl rfl dX2_truth_2 rfl ?_
  refine V_istore_n (q := 6) dX2_truth_5 rfl (Nat.le_of_ble_eq_true rfl) trivial rfl ?_
  refine V_iconst (q := 7) dX2_truth_6 rfl rfl ?_
  refine V_istore_n (q := 8) dX2_truth_7 rfl (Nat.le_of_ble_eq_true rfl) trivial rfl ?_
  exact V_weak (kX2_truth_L8 d hd hrec hb  FU h) (sb_s rfl (sb_s rfl (sb_s rfl (sb_s rfl sb_0))))
theorem dX2_condition_0 : decode cX2_condition 0 = .ok (.aload_n 0, 1) := dc_42 (byA eNcX2_condition (p := 0) (v := 42) (by decide +kernel))
theorem dX2_condition_1 : decode cX2_condition 1 = .ok (.iload_n 1, 1) := dc_27 (byA eNcX2_condition (p := 1) (v := 27) (by decide +kernel))
theorem dX2_condition_2 : decode cX2_condition 2 = .ok (.invokevirtual 96, 3) := dc_182 (byA eNcX2_condition (p := 2) (v := 182) (by decide +kernel)) (byA eNcX2_condition (p := 3) (v := 0) (by decide +kernel)) (byA eNcX2_condition (p := 4) (v := 96) (by decide +kernel)) rfl
theorem dX2_condition_5 : decode cX2_condition 5 = .ok (.istore_n 2, 1) := dc_61 (byA eNcX2_condition (p := 5) (v := 61) (by decide +kernel))
theorem dX2_condition_6 : decode cX2_condition 6 = .ok (.iconst 0, 1) := dc_3 (byA eNcX2_condition (p := 6) (v := 3) (by decide +kernel))
theorem dX2_condition_7 : decode cX2_condition 7 = .ok (.istore_n 3, 1) := dc_62 (byA eNcX2_condition (p := 7) (v := 62) (by decide +kernel))
theorem dX2_condition_8 : decode cX2_condition 8 = .ok (.iload_n 3, 1) := dc_29 (byA eNcX2_condition (p := 8) (v := 29) (by decide +kernel))
theorem dX2_condition_9 : decode cX2_condition 9 = .ok (.sipush 160, 3) := dc_17 (byA eNcX2_condition (p := 9) (v := 17) (by decide +kernel)) (byA eNcX2_condition (p := 10) (v := 0) (by decide +kernel)) (byA eNcX2_condition (p := 11) (v := 160) (by decide +kernel)) (by decide +kernel)
theorem dX2_condition_12 : decode cX2_condition 12 = .ok (.if_icmp .ge 39, 3) := dc_162 (byA eNcX2_condition (p := 12) (v := 162) (by decide +kernel)) (byA eNcX2_condition (p := 13) (v := 0) (by decide +kernel)) (byA eNcX2_condition (p := 14) (v := 39) (by decide +kernel)) (by decide +kernel)
theorem dX2_condition_15 : decode cX2_condition 15 = .ok (.aload_n 0, 1) := dc_42 (byA eNcX2_condition (p := 15) (v := 42) (by decide +kernel))
theorem dX2_condition_16 : decode cX2_condition 16 = .ok (.getfield 9, 3) := dc_180 (byA eNcX2_condition (p := 16) (v := 180) (by decide +kernel)) (byA eNcX2_condition (p := 17) (v := 0) (by decide +kernel)) (byA eNcX2_condition (p := 18) (v := 9) (by decide +kernel)) rfl
theorem dX2_condition_19 : decode cX2_condition 19 = .ok (.bipush 124, 2) := dc_16 (byA eNcX2_condition (p := 19) (v := 16) (by decide +kernel)) (byA eNcX2_condition (p := 20) (v := 124) (by decide +kernel)) (by decide +kernel)
theorem dX2_condition_21 : decode cX2_condition 21 = .ok (.invokevirtual 81, 3) := dc_182 (byA eNcX2_condition (p := 21) (v := 182) (by decide +kernel)) (byA eNcX2_condition (p := 22) (v := 0) (by decide +kernel)) (byA eNcX2_condition (p := 23) (v := 81) (by decide +kernel)) rfl
theorem dX2_condition_24 : decode cX2_condition 24 = .ok (.ifCond .eq 27, 3) := dc_153 (byA eNcX2_condition (p := 24) (v := 153) (by decide +kernel)) (byA eNcX2_condition (p := 25) (v := 0) (by decide +kernel)) (byA eNcX2_condition (p := 26) (v := 27) (by decide +kernel)) (by decide +kernel)
theorem dX2_condition_27 : decode cX2_condition 27 = .ok (.aload_n 0, 1) := dc_42 (byA eNcX2_condition (p := 27) (v := 42) (by decide +kernel))
theorem dX2_condition_28 : decode cX2_condition 28 = .ok (.iload_n 1, 1) := dc_27 (byA eNcX2_condition (p := 28) (v := 27) (by decide +kernel))
theorem dX2_condition_29 : decode cX2_condition 29 = .ok (.invokevirtual 96, 3) := dc_182 (byA eNcX2_condition (p := 29) (v := 182) (by decide +kernel)) (byA eNcX2_condition (p := 30) (v := 0) (by decide +kernel)) (byA eNcX2_condition (p := 31) (v := 96) (by decide +kernel)) rfl
theorem dX2_condition_32 : decode cX2_condition 32 = .ok (.ifCond .ne 7, 3) := dc_154 (byA eNcX2_condition (p := 32) (v := 154) (by decide +kernel)) (byA eNcX2_condition (p := 33) (v := 0) (by decide +kernel)) (byA eNcX2_condition (p := 34) (v := 7) (by decide +kernel)) (by decide +kernel)
theorem dX2_condition_35 : decode cX2_condition 35 = .ok (.iload_n 2, 1) := dc_28 (byA eNcX2_condition (p := 35) (v := 28) (by decide +kernel))
theorem dX2_condition_36 : decode cX2_condition 36 = .ok (.ifCond .eq 7, 3) := dc_153 (byA eNcX2_condition (p := 36) (v := 153) (by decide +kernel)) (byA eNcX2_condition (p := 37) (v := 0) (by decide +kernel)) (byA eNcX2_condition (p := 38) (v := 7) (by decide +kernel)) (by decide +kernel)
theorem dX2_condition_39 : decode cX2_condition 39 = .ok (.iconst 1, 1) := dc_4 (byA eNcX2_condition (p := 39) (v := 4) (by decide +kernel))
theorem dX2_condition_40 : decode cX2_condition 40 = .ok (.goto 4, 3) := dc_167 (byA eNcX2_condition (p := 40) (v := 167) (by decide +kernel)) (byA eNcX2_condition (p := 41) (v := 0) (by decide +kernel)) (byA eNcX2_condition (p := 42) (v := 4) (by decide +kernel)) (by decide +kernel)
theorem dX2_condition_43 : decode cX2_condition 43 = .ok (.iconst 0, 1) := dc_3 (byA eNcX2_condition (p := 43) (v := 3) (by decide +kernel))
theorem dX2_condition_44 : decode cX2_condition 44 = .ok (.istore_n 2, 1) := dc_61 (byA eNcX2_condition (p := 44) (v := 61) (by decide +kernel))
theorem dX2_condition_45 : decode cX2_condition 45 = .ok (.iinc 3 1, 3) := dc_132 (byA eNcX2_condition (p := 45) (v := 132) (by decide +kernel)) (byA eNcX2_condition (p := 46) (v := 3) (by decide +kernel)) (byA eNcX2_condition (p := 47) (v := 1) (by decide +kernel)) (by decide +kernel)
theorem dX2_condition_48 : decode cX2_condition 48 = .ok (.goto (-40), 3) := dc_167 (byA eNcX2_condition (p := 48) (v := 167) (by decide +kernel)) (byA eNcX2_condition (p := 49) (v := 255) (by decide +kernel)) (byA eNcX2_condition (p := 50) (v := 216) (by decide +kernel)) (by decide +kernel)
theorem dX2_condition_51 : decode cX2_condition 51 = .ok (.iload_n 2, 1) := dc_28 (byA eNcX2_condition (p := 51) (v := 28) (by decide +kernel))
theorem dX2_condition_52 : decode cX2_condition 52 = .ok (.ireturn, 1) := dc_172 (byA eNcX2_condition (p := 52) (v := 172) (by decide +kernel))
def X2_condition_L8 (rec : Int → Mm → Rs) (l1 : Int) : Nat → Int → Int → Mm → Rs
  | 0, _, _, _ => none
  | n + 1, l2, l3, μ => if 160 ≤ l3 then (rZ l2 μ) else (bd (X4_take 124 μ) fun v6 μ7 => if v6 = 0 then (rZ l2 μ7) else (bd (X2_truth_o rec l1 μ7) fun v11 μ12 => if v11 = 0 then (if l2 = 0 then (X2_condition_L8 rec l1 n 0 (iA l3 1) μ12) else (X2_condition_L8 rec l1 n 1 (iA l3 1) μ12)) else (X2_condition_L8 rec l1 n 1 (iA l3 1) μ12)))
def X2_condition_o (rec : Int → Mm → Rs) (l1 : Int) (μ : Mm) : Rs := bd (X2_truth_o rec l1 μ) fun v1 μ2 => X2_condition_L8 rec l1 FU v1 0 μ2
set_option maxHeartbeats 4000000 in
set_option maxRecDepth 100000 in
theorem kX2_condition_L8 (d : Nat) {d0 : Nat} (hd : d0 + 3 ≤ d) {rec : Int → Mm → Rs} (hrec : ∀ {q1 : Int} {μ1 : Mm} {r1 : Int} {μ2 : Mm}, rec q1 μ1 = some (r1, μ2) → CC d0 mX2_unit [vR 4, vI q1] μ1 r1 μ2) (hb : 138 ≤ d) {l1 : Int} {r : Int} {μ' : Mm} : ∀ (n : Nat) {l2 l3 : Int} {μ : Mm}, X2_condition_L8 rec l1 n l2 l3 μ = some (r, μ') → VV d mX2_condition 8 [some (vR 4), some (vI l1), some (vI l2), some (vI l3)] [] μ r μ' := by
  intro n
  induction n with
  | zero => intro l2 l3 μ h; rw [X2_condition_L8] at h; cases h
  | succ n ih =>
    intro l2 l3 μ h
    rw [X2_condition_L8] at h
    refine V_iload_n (q := 9) dX2_condition_8 rfl rfl rfl ?_
    refine V_sipush (q := 12) dX2_condition_9 rfl rfl rfl ?_
    refine V_icmpge (q := 51) (q2 := 15) dX2_condition_12 (by decide) rfl (fun hc4 => ?_) (fun hc4 => ?_)
    · have h := ifT hc4 h
      refine V_iload_n (q := 52) dX2_condition_51 rfl rfl rfl ?_
      obtain ⟨hz5, h⟩ := rZ_i h
      exact V_zret rfl hz5 h dX2_condition_52
    · have h := ifF hc4 h
      refine V_aload_n (q := 16) dX2_condition_15 rfl rfl rfl ?_
      refine V_getC (q := 19) fl_X2_9 rfl rfl rfl dX2_condition_16 rfl ?_
      refine V_bipush (q := 21) dX2_condition_19 rfl rfl rfl ?_
      obtain ⟨v6, μ7, hc8, h⟩ := bd_i h
      refine V_cV1 (q := 24) (v := vI v6) (kX4_take (d - 1) (by omega) hc8) (by omega) mv_X2_81 rfl rfl rfl rfl rfl rfl dX2_condition_21 rfl ?_
      refine V_ifeq (q := 51) (q2 := 27) dX2_condition_24 (by decide) rfl (fun hc9 => ?_) (fun hc9 => ?_)
      · have h := ifT hc9 h
        refine V_iload_n (q := 52) dX2_condition_51 rfl rfl rfl ?_
        obtain ⟨hz10, h⟩ := rZ_i h
        exact V_zret rfl hz10 h dX2_condition_52
      · have h := ifF hc9 h
        refine V_aload_n (q := 28) dX2_condition_27 rfl rfl rfl ?_
        refine V_iload_n (q := 29) dX2_condition_28 rfl rfl rfl ?_
        obtain ⟨v11, μ12, hc13, h⟩ := bd_i h
        refine V_cV1 (q := 32) (v := vI v11) (kX2_truth (d - 1) (by omega) hrec (by omega) hc13) (by omega) mv_X2_96 rfl rfl rfl rfl rfl rfl dX2_condition_29 rfl ?_
        refine V_ifne (q := 39) (q2 := 35) dX2_condition_32 (by decide) rfl (fun hc14 => ?_) (fun hc14 => ?_)
        · have h := ifF hc14 h
          refine V_iconst (q := 40) dX2_condition_39 rfl rfl ?_
          refine V_goto (q := 44) dX2_condition_40 (by decide) ?_
          refine V_istore_n (q := 45) dX2_condition_44 rfl (Nat.le_of_ble_eq_true rfl) trivial rfl ?_
          refine V_iinc (q := 48) dX2_condition_45 rfl (Nat.le_of_ble_eq_true rfl) trivial rfl ?_
          refine V_goto (q := 8) dX2_condition_48 (by decide) ?_
          exact V_weak (ih h) (sb_s rfl (sb_s rfl (sb_s rfl (sb_s rfl sb_0))))
        · have h := ifT hc14 h
          refine V_iload_n (q := 36) dX2_condition_35 rfl rfl rfl ?_
          refine V_ifeq (q := 43) (q2 := 39) dX2_condition_36 (by decide) rfl (fun hc15 => ?_) (fun hc15 => ?_)
          · have h := ifT hc15 h
            refine V_iconst (q := 44) dX2_condition_43 rfl rfl ?_
            refine V_istore_n (q := 45) dX2_condition_44 rfl (Nat.le_of_ble_eq_true rfl) trivial rfl ?_
            refine V_iinc (q := 48) dX2_condition_45 rfl (Nat.le_of_ble_eq_true rfl) trivial rfl ?_
            refine V_goto (q := 8) dX2_condition_48 (by decide) ?_
            exact V_weak (ih h) (sb_s rfl (sb_s rfl (sb_s rfl (sb_s rfl sb_0))))
          · have h := ifF hc15 h
            refine V_iconst (q := 40) dX2_condition_39 rfl rfl ?_
            refine V_goto (q := 44) dX2_condition_40 (by decide) ?_
            refine V_istore_n (q := 45) dX2_condition_44 rfl (Nat.le_of_ble_eq_true rfl) trivial rfl ?_
            refine V_iinc (q := 48) dX2_condition_45 rfl (Nat.le_of_ble_eq_true rfl) trivial rfl ?_
            refine V_goto (q := 8) dX2_condition_48 (by decide) ?_
            exact V_weak (ih h) (sb_s rfl (sb_s rfl (sb_s rfl (sb_s rfl sb_0))))
set_option maxHeartbeats 4000000 in
set_option maxRecDepth 100000 in
theorem kX2_condition (d : Nat) {d0 : Nat} (hd : d0 + 3 ≤ d) {rec : Int → Mm → Rs} (hrec : ∀ {q1 : Int} {μ1 : Mm} {r1 : Int} {μ2 : Mm}, rec q1 μ1 = some (r1, μ2) → CC d0 mX2_unit [vR 4, vI q1] μ1 r1 μ2) (hb : 138 ≤ d) {l1 : Int} {μ : Mm} {r : Int} {μ' : Mm} (h : X2_condition_o rec l1 μ = some (r, μ')) : CC d mX2_condition [vR 4, vI l1] μ r μ' := by
  unfold X2_condition_o at h
  refine V_enter (by decide) (Nat.le_of_ble_eq_true rfl) ?_
  show VV d mX2_condition 0 [some (vR 4), some (vI l1), none, none] [] μ r μ'
  refine V_aload_n (q := 1) dX2_condition_0 rfl rfl rfl ?_
  refine V_iload_n (q := 2) dX2_condition_1 rfl rfl rfl ?_
  obtain ⟨v1, μ2, hc3, h⟩ := bd_i h
  refine V_cV1 (q := 5) (v := vI v1) (kX2_truth (d - 1) (by omega) hrec (by omega) hc3) (by omega) mv_X2_96 rfl rfl rfl rfl rfl rfl dX2_condition_2 rfl ?_
  refine V_istore_n (q := 6) dX2_condition_5 rfl (Nat.le_of_ble_eq_true rfl) trivial rfl ?_
  refine V_iconst (q := 7) dX2_condition_6 rfl rfl ?_
  refine V_istore_n (q := 8) dX2_condition_7 rfl (Nat.le_of_ble_eq_true rfl) trivial rfl ?_
  exact V_weak (kX2_condition_L8 d hd hrec hb  FU h) (sb_s rfl (sb_s rfl (sb_s rfl (sb_s rfl sb_0))))
theorem dX2_enclosed_0 : decode cX2_enclosed 0 = .ok (.aload_n 0, 1) := dc_42 (byA eNcX2_enclosed (p := 0) (v := 42) (by decide +kernel))
theorem dX2_enclosed_1 : decode cX2_enclosed 1 = .ok (.iload_n 1, 1) := dc_27 (byA eNcX2_enclosed (p := 1) (v := 27) (by decide +kernel))
theorem dX2_enclosed_2 : decode cX2_enclosed 2 = .ok (.invokevirtual 73, 3) := dc_182 (byA eNcX2_enclosed (p := 2) (v := 182) (by decide +kernel)) (byA eNcX2_enclosed (p := 3) (v := 0) (by decide +kernel)) (byA eNcX2_enclosed (p := 4) (v := 73) (by decide +kernel)) rfl
theorem dX2_enclosed_5 : decode cX2_enclosed 5 = .ok (.istore_n 2, 1) := dc_61 (byA eNcX2_enclosed (p := 5) (v := 61) (by decide +kernel))
theorem dX2_enclosed_6 : decode cX2_enclosed 6 = .ok (.aload_n 0, 1) := dc_42 (byA eNcX2_enclosed (p := 6) (v := 42) (by decide +kernel))
theorem dX2_enclosed_7 : decode cX2_enclosed 7 = .ok (.getfield 9, 3) := dc_180 (byA eNcX2_enclosed (p := 7) (v := 180) (by decide +kernel)) (byA eNcX2_enclosed (p := 8) (v := 0) (by decide +kernel)) (byA eNcX2_enclosed (p := 9) (v := 9) (by decide +kernel)) rfl
theorem dX2_enclosed_10 : decode cX2_enclosed 10 = .ok (.bipush 41, 2) := dc_16 (byA eNcX2_enclosed (p := 10) (v := 16) (by decide +kernel)) (byA eNcX2_enclosed (p := 11) (v := 41) (by decide +kernel)) (by decide +kernel)
theorem dX2_enclosed_12 : decode cX2_enclosed 12 = .ok (.invokevirtual 65, 3) := dc_182 (byA eNcX2_enclosed (p := 12) (v := 182) (by decide +kernel)) (byA eNcX2_enclosed (p := 13) (v := 0) (by decide +kernel)) (byA eNcX2_enclosed (p := 14) (v := 65) (by decide +kernel)) rfl
theorem dX2_enclosed_15 : decode cX2_enclosed 15 = .ok (.iload_n 2, 1) := dc_28 (byA eNcX2_enclosed (p := 15) (v := 28) (by decide +kernel))
theorem dX2_enclosed_16 : decode cX2_enclosed 16 = .ok (.ireturn, 1) := dc_172 (byA eNcX2_enclosed (p := 16) (v := 172) (by decide +kernel))
def X2_enclosed_o (rec : Int → Mm → Rs) (l1 : Int) (μ : Mm) : Rs := bd (X2_condition_o rec l1 μ) fun v1 μ2 => bd (X4_need 41 μ2) fun v4 μ5 => rZ v1 μ5
set_option maxHeartbeats 4000000 in
set_option maxRecDepth 100000 in
theorem kX2_enclosed (d : Nat) {d0 : Nat} (hd : d0 + 4 ≤ d) {rec : Int → Mm → Rs} (hrec : ∀ {q1 : Int} {μ1 : Mm} {r1 : Int} {μ2 : Mm}, rec q1 μ1 = some (r1, μ2) → CC d0 mX2_unit [vR 4, vI q1] μ1 r1 μ2) (hb : 139 ≤ d) {l1 : Int} {μ : Mm} {r : Int} {μ' : Mm} (h : X2_enclosed_o rec l1 μ = some (r, μ')) : CC d mX2_enclosed [vR 4, vI l1] μ r μ' := by
  unfold X2_enclosed_o at h
  refine V_enter (by decide) (Nat.le_of_ble_eq_true rfl) ?_
  show VV d mX2_enclosed 0 [some (vR 4), some (vI l1), none] [] μ r μ'
  refine V_aload_n (q := 1) dX2_enclosed_0 rfl rfl rfl ?_
  refine V_iload_n (q := 2) dX2_enclosed_1 rfl rfl rfl ?_
  obtain ⟨v1, μ2, hc3, h⟩ := bd_i h
  refine V_cV1 (q := 5) (v := vI v1) (kX2_condition (d - 1) (by omega) hrec (by omega) hc3) (by omega) mv_X2_73 rfl rfl rfl rfl rfl rfl dX2_enclosed_2 rfl ?_
  refine V_istore_n (q := 6) dX2_enclosed_5 rfl (Nat.le_of_ble_eq_true rfl) trivial rfl ?_
  refine V_aload_n (q := 7) dX2_enclosed_6 rfl rfl rfl ?_
  refine V_getC (q := 10) fl_X2_9 rfl rfl rfl dX2_enclosed_7 rfl ?_
  refine V_bipush (q := 12) dX2_enclosed_10 rfl rfl rfl ?_
  obtain ⟨v4, μ5, hc6, h⟩ := bd_i h
  refine V_cV0 (q := 15) (kX4_need (d - 1) (by omega) hc6) (by omega) mv_X2_65 rfl rfl rfl rfl rfl rfl dX2_enclosed_12 rfl ?_
  refine V_iload_n (q := 16) dX2_enclosed_15 rfl rfl rfl ?_
  obtain ⟨hz7, h⟩ := rZ_i h
  exact V_zret rfl hz7 h dX2_enclosed_16
theorem dX2_denied_0 : decode cX2_denied 0 = .ok (.aload_n 0, 1) := dc_42 (byA eNcX2_denied (p := 0) (v := 42) (by decide +kernel))
theorem dX2_denied_1 : decode cX2_denied 1 = .ok (.iload_n 1, 1) := dc_27 (byA eNcX2_denied (p := 1) (v := 27) (by decide +kernel))
theorem dX2_denied_2 : decode cX2_denied 2 = .ok (.invokevirtual 99, 3) := dc_182 (byA eNcX2_denied (p := 2) (v := 182) (by decide +kernel)) (byA eNcX2_denied (p := 3) (v := 0) (by decide +kernel)) (byA eNcX2_denied (p := 4) (v := 99) (by decide +kernel)) rfl
theorem dX2_denied_5 : decode cX2_denied 5 = .ok (.ifCond .ne 7, 3) := dc_154 (byA eNcX2_denied (p := 5) (v := 154) (by decide +kernel)) (byA eNcX2_denied (p := 6) (v := 0) (by decide +kernel)) (byA eNcX2_denied (p := 7) (v := 7) (by decide +kernel)) (by decide +kernel)
theorem dX2_denied_8 : decode cX2_denied 8 = .ok (.iconst 1, 1) := dc_4 (byA eNcX2_denied (p := 8) (v := 4) (by decide +kernel))
theorem dX2_denied_9 : decode cX2_denied 9 = .ok (.goto 4, 3) := dc_167 (byA eNcX2_denied (p := 9) (v := 167) (by decide +kernel)) (byA eNcX2_denied (p := 10) (v := 0) (by decide +kernel)) (byA eNcX2_denied (p := 11) (v := 4) (by decide +kernel)) (by decide +kernel)
theorem dX2_denied_12 : decode cX2_denied 12 = .ok (.iconst 0, 1) := dc_3 (byA eNcX2_denied (p := 12) (v := 3) (by decide +kernel))
theorem dX2_denied_13 : decode cX2_denied 13 = .ok (.ireturn, 1) := dc_172 (byA eNcX2_denied (p := 13) (v := 172) (by decide +kernel))
def X2_denied_o (rec : Int → Mm → Rs) (l1 : Int) (μ : Mm) : Rs := bd (rec l1 μ) fun v1 μ2 => if v1 = 0 then (some (1, μ2)) else (some (0, μ2))
set_option maxHeartbeats 4000000 in
set_option maxRecDepth 100000 in
theorem kX2_denied (d : Nat) {d0 : Nat} (hd : d0 + 2 ≤ d) {rec : Int → Mm → Rs} (hrec : ∀ {q1 : Int} {μ1 : Mm} {r1 : Int} {μ2 : Mm}, rec q1 μ1 = some (r1, μ2) → CC d0 mX2_unit [vR 4, vI q1] μ1 r1 μ2) (hb : 137 ≤ d) {l1 : Int} {μ : Mm} {r : Int} {μ' : Mm} (h : X2_denied_o rec l1 μ = some (r, μ')) : CC d mX2_denied [vR 4, vI l1] μ r μ' := by
  unfold X2_denied_o at h
  refine V_enter (by decide) (Nat.le_of_ble_eq_true rfl) ?_
  show VV d mX2_denied 0 [some (vR 4), some (vI l1)] [] μ r μ'
  refine V_aload_n (q := 1) dX2_denied_0 rfl rfl rfl ?_
  refine V_iload_n (q := 2) dX2_denied_1 rfl rfl rfl ?_
  obtain ⟨v1, μ2, hc3, h⟩ := bd_i h
  refine V_cV1 (q := 5) (v := vI v1) (hrec hc3) (by omega) mv_X2_99 rfl rfl rfl rfl rfl rfl dX2_denied_2 rfl ?_
  refine V_ifne (q := 12) (q2 := 8) dX2_denied_5 (by decide) rfl (fun hc4 => ?_) (fun hc4 => ?_)
  · have h := ifF hc4 h
    refine V_iconst (q := 13) dX2_denied_12 rfl rfl ?_
    exact V_zret rfl (Or.inl rfl) h dX2_denied_13
  · have h := ifT hc4 h
    refine V_iconst (q := 9) dX2_denied_8 rfl rfl ?_
    refine V_goto (q := 13) dX2_denied_9 (by decide) ?_
    exact V_zret rfl (Or.inr rfl) h dX2_denied_13
