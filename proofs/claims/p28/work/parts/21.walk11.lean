abbrev mX11_open : Mth := (yX11_open, cX11_open, 2, none)
set_option maxRecDepth 100000 in
theorem mi_X11_open : Cond.instanceMethod yX11_open ∈ tG ∧ Cond.selects yX11_open.cls yX11_open yX11_open ∈ tG ∧ Cond.initialized yX11_open.cls ∈ tG ∧ Cond.code yX11_open cX11_open 2 (none) ∈ tG ∧ (yX11_open.cls ≠ "java/lang/invoke/MethodHandle" ∧ yX11_open.cls ≠ "java/lang/invoke/VarHandle" ∧ (parseMethodDescriptor yX11_open.desc).map (fun d => d.parameters.length) = some 1) ∧ 2 ≤ 60 := ⟨(tG_of (tb6 (List.mem_of_getElem? (i := 96) rfl)) (by decide +kernel)), (tG_of (List.mem_of_getElem? (i := 56) (by decide +kernel)) (by decide +kernel)), (tG_of (tb1 (List.mem_of_getElem? (i := 12) rfl)) (by decide +kernel)), (tG_of (tb6 (List.mem_of_getElem? (i := 97) rfl)) (by decide +kernel)), ⟨by decide, by decide, by decide +kernel⟩, by decide⟩
set_option maxRecDepth 100000 in
theorem mv_X11_179 : mV RX11 179 mX11_open 1 := ⟨(tG_of (tb6 (List.mem_of_getElem? (i := 94) rfl)) (by decide +kernel)), mi_X11_open⟩
theorem dX11_open_0 : decode cX11_open 0 = .ok (.aload_n 0, 1) := dc_42 (byA eNcX11_open (p := 0) (v := 42) (by decide +kernel))
theorem dX11_open_1 : decode cX11_open 1 = .ok (.iload_n 1, 1) := dc_27 (byA eNcX11_open (p := 1) (v := 27) (by decide +kernel))
theorem dX11_open_2 : decode cX11_open 2 = .ok (.putfield 118, 3) := dc_181 (byA eNcX11_open (p := 2) (v := 181) (by decide +kernel)) (byA eNcX11_open (p := 3) (v := 0) (by decide +kernel)) (byA eNcX11_open (p := 4) (v := 118) (by decide +kernel)) rfl
theorem dX11_open_5 : decode cX11_open 5 = .ok (.aload_n 0, 1) := dc_42 (byA eNcX11_open (p := 5) (v := 42) (by decide +kernel))
theorem dX11_open_6 : decode cX11_open 6 = .ok (.iconst 0, 1) := dc_3 (byA eNcX11_open (p := 6) (v := 3) (by decide +kernel))
theorem dX11_open_7 : decode cX11_open 7 = .ok (.putfield 108, 3) := dc_181 (byA eNcX11_open (p := 7) (v := 181) (by decide +kernel)) (byA eNcX11_open (p := 8) (v := 0) (by decide +kernel)) (byA eNcX11_open (p := 9) (v := 108) (by decide +kernel)) rfl
theorem dX11_open_10 : decode cX11_open 10 = .ok (.aload_n 0, 1) := dc_42 (byA eNcX11_open (p := 10) (v := 42) (by decide +kernel))
theorem dX11_open_11 : decode cX11_open 11 = .ok (.iconst (-1), 1) := dc_2 (byA eNcX11_open (p := 11) (v := 2) (by decide +kernel))
theorem dX11_open_12 : decode cX11_open 12 = .ok (.putfield 115, 3) := dc_181 (byA eNcX11_open (p := 12) (v := 181) (by decide +kernel)) (byA eNcX11_open (p := 13) (v := 0) (by decide +kernel)) (byA eNcX11_open (p := 14) (v := 115) (by decide +kernel)) rfl
theorem dX11_open_15 : decode cX11_open 15 = .ok (.aload_n 0, 1) := dc_42 (byA eNcX11_open (p := 15) (v := 42) (by decide +kernel))
theorem dX11_open_16 : decode cX11_open 16 = .ok (.iconst 0, 1) := dc_3 (byA eNcX11_open (p := 16) (v := 3) (by decide +kernel))
theorem dX11_open_17 : decode cX11_open 17 = .ok (.putfield 121, 3) := dc_181 (byA eNcX11_open (p := 17) (v := 181) (by decide +kernel)) (byA eNcX11_open (p := 18) (v := 0) (by decide +kernel)) (byA eNcX11_open (p := 19) (v := 121) (by decide +kernel)) rfl
theorem dX11_open_20 : decode cX11_open 20 = .ok (.aload_n 0, 1) := dc_42 (byA eNcX11_open (p := 20) (v := 42) (by decide +kernel))
theorem dX11_open_21 : decode cX11_open 21 = .ok (.getfield 19, 3) := dc_180 (byA eNcX11_open (p := 21) (v := 180) (by decide +kernel)) (byA eNcX11_open (p := 22) (v := 0) (by decide +kernel)) (byA eNcX11_open (p := 23) (v := 19) (by decide +kernel)) rfl
theorem dX11_open_24 : decode cX11_open 24 = .ok (.iload_n 1, 1) := dc_27 (byA eNcX11_open (p := 24) (v := 27) (by decide +kernel))
theorem dX11_open_25 : decode cX11_open 25 = .ok (.iconst 0, 1) := dc_3 (byA eNcX11_open (p := 25) (v := 3) (by decide +kernel))
theorem dX11_open_26 : decode cX11_open 26 = .ok (.iastore, 1) := dc_79 (byA eNcX11_open (p := 26) (v := 79) (by decide +kernel))
theorem dX11_open_27 : decode cX11_open 27 = .ok (.aload_n 0, 1) := dc_42 (byA eNcX11_open (p := 27) (v := 42) (by decide +kernel))
theorem dX11_open_28 : decode cX11_open 28 = .ok (.getfield 22, 3) := dc_180 (byA eNcX11_open (p := 28) (v := 180) (by decide +kernel)) (byA eNcX11_open (p := 29) (v := 0) (by decide +kernel)) (byA eNcX11_open (p := 30) (v := 22) (by decide +kernel)) rfl
theorem dX11_open_31 : decode cX11_open 31 = .ok (.iload_n 1, 1) := dc_27 (byA eNcX11_open (p := 31) (v := 27) (by decide +kernel))
theorem dX11_open_32 : decode cX11_open 32 = .ok (.iconst 0, 1) := dc_3 (byA eNcX11_open (p := 32) (v := 3) (by decide +kernel))
theorem dX11_open_33 : decode cX11_open 33 = .ok (.iastore, 1) := dc_79 (byA eNcX11_open (p := 33) (v := 79) (by decide +kernel))
theorem dX11_open_34 : decode cX11_open 34 = .ok (.return_, 1) := dc_177 (byA eNcX11_open (p := 34) (v := 177) (by decide +kernel))
def X11_open (l1 : Int) (μ : Mm) : Rs := sF μ 70 14 l1 fun μ1 => sF μ1 70 3 0 fun μ2 => sF μ2 70 4 (-1) fun μ3 => sF μ3 70 5 0 fun μ4 => stA μ4 74 l1 0 fun μ5 => stA μ5 75 l1 0 fun μ7 => some (0, μ7)
set_option maxHeartbeats 4000000 in
set_option maxRecDepth 100000 in
theorem kX11_open (d : Nat) (hd : 1 ≤ d) {l1 : Int} {μ : Mm} {r : Int} {μ' : Mm} (h : X11_open l1 μ = some (r, μ')) : CC d mX11_open [vR 70, vI l1] μ r μ' := by
  unfold X11_open at h
  refine V_enter (by decide) (Nat.le_of_ble_eq_true rfl) ?_
  show VV d mX11_open 0 [some (vR 70), some (vI l1)] [] μ r μ'
  refine V_aload_n (q := 1) dX11_open_0 rfl rfl rfl ?_
  refine V_iload_n (q := 2) dX11_open_1 rfl rfl rfl ?_
  have h := sF_i h
  refine V_putI (q := 5) fl_X11_118 rfl rfl rfl dX11_open_2 rfl ?_
  refine V_aload_n (q := 6) dX11_open_5 rfl rfl rfl ?_
  refine V_iconst (q := 7) dX11_open_6 rfl rfl ?_
  have h := sF_i h
  refine V_putI (q := 10) fl_X11_108 rfl rfl rfl dX11_open_7 rfl ?_
  refine V_aload_n (q := 11) dX11_open_10 rfl rfl rfl ?_
  refine V_iconst (q := 12) dX11_open_11 rfl rfl ?_
  have h := sF_i h
  refine V_putI (q := 15) fl_X11_115 rfl rfl rfl dX11_open_12 rfl ?_
  refine V_aload_n (q := 16) dX11_open_15 rfl rfl rfl ?_
  refine V_iconst (q := 17) dX11_open_16 rfl rfl ?_
  have h := sF_i h
  refine V_putI (q := 20) fl_X11_121 rfl rfl rfl dX11_open_17 rfl ?_
  refine V_aload_n (q := 21) dX11_open_20 rfl rfl rfl ?_
  refine V_getO (q := 24) (t := 74) fl_X11_19 rfl rfl rfl rfl dX11_open_21 rfl ?_
  refine V_iload_n (q := 25) dX11_open_24 rfl rfl rfl ?_
  refine V_iconst (q := 26) dX11_open_25 rfl rfl ?_
  obtain ⟨hi6, h⟩ := stA_i h
  refine V_iastore (q := 27) rfl hi6 dX11_open_26 rfl ?_
  refine V_aload_n (q := 28) dX11_open_27 rfl rfl rfl ?_
  refine V_getO (q := 31) (t := 75) fl_X11_22 rfl rfl rfl rfl dX11_open_28 rfl ?_
  refine V_iload_n (q := 32) dX11_open_31 rfl rfl rfl ?_
  refine V_iconst (q := 33) dX11_open_32 rfl rfl ?_
  obtain ⟨hi8, h⟩ := stA_i h
  refine V_iastore (q := 34) rfl hi8 dX11_open_33 rfl ?_
  exact V_vret rfl h dX11_open_34
abbrev mX11_atEnd : Mth := (yX11_atEnd, cX11_atEnd, 1, some .int)
set_option maxRecDepth 100000 in
theorem mi_X11_atEnd : Cond.instanceMethod yX11_atEnd ∈ tG ∧ Cond.selects yX11_atEnd.cls yX11_atEnd yX11_atEnd ∈ tG ∧ Cond.initialized yX11_atEnd.cls ∈ tG ∧ Cond.code yX11_atEnd cX11_atEnd 1 (some .int) ∈ tG ∧ (yX11_atEnd.cls ≠ "java/lang/invoke/MethodHandle" ∧ yX11_atEnd.cls ≠ "java/lang/invoke/VarHandle" ∧ (parseMethodDescriptor yX11_atEnd.desc).map (fun d => d.parameters.length) = some 0) ∧ 1 ≤ 60 := ⟨(tG_of (tb6 (List.mem_of_getElem? (i := 88) rfl)) (by decide +kernel)), (tG_of (List.mem_of_getElem? (i := 54) (by decide +kernel)) (by decide +kernel)), (tG_of (tb1 (List.mem_of_getElem? (i := 12) rfl)) (by decide +kernel)), (tG_of (tb6 (List.mem_of_getElem? (i := 89) rfl)) (by decide +kernel)), ⟨by decide, by decide, by decide +kernel⟩, by decide⟩
set_option maxRecDepth 100000 in
theorem mv_X11_185 : mV RX11 185 mX11_atEnd 0 := ⟨(tG_of (tb6 (List.mem_of_getElem? (i := 86) rfl)) (by decide +kernel)), mi_X11_atEnd⟩
theorem dX11_atEnd_0 : decode cX11_atEnd 0 = .ok (.aload_n 0, 1) := dc_42 (byA eNcX11_atEnd (p := 0) (v := 42) (by decide +kernel))
theorem dX11_atEnd_1 : decode cX11_atEnd 1 = .ok (.getfield 115, 3) := dc_180 (byA eNcX11_atEnd (p := 1) (v := 180) (by decide +kernel)) (byA eNcX11_atEnd (p := 2) (v := 0) (by decide +kernel)) (byA eNcX11_atEnd (p := 3) (v := 115) (by decide +kernel)) rfl
theorem dX11_atEnd_4 : decode cX11_atEnd 4 = .ok (.iconst (-1), 1) := dc_2 (byA eNcX11_atEnd (p := 4) (v := 2) (by decide +kernel))
theorem dX11_atEnd_5 : decode cX11_atEnd 5 = .ok (.if_icmp .ne 15, 3) := dc_160 (byA eNcX11_atEnd (p := 5) (v := 160) (by decide +kernel)) (byA eNcX11_atEnd (p := 6) (v := 0) (by decide +kernel)) (byA eNcX11_atEnd (p := 7) (v := 15) (by decide +kernel)) (by decide +kernel)
theorem dX11_atEnd_8 : decode cX11_atEnd 8 = .ok (.aload_n 0, 1) := dc_42 (byA eNcX11_atEnd (p := 8) (v := 42) (by decide +kernel))
theorem dX11_atEnd_9 : decode cX11_atEnd 9 = .ok (.invokevirtual 127, 3) := dc_182 (byA eNcX11_atEnd (p := 9) (v := 182) (by decide +kernel)) (byA eNcX11_atEnd (p := 10) (v := 0) (by decide +kernel)) (byA eNcX11_atEnd (p := 11) (v := 127) (by decide +kernel)) rfl
theorem dX11_atEnd_12 : decode cX11_atEnd 12 = .ok (.iconst (-1), 1) := dc_2 (byA eNcX11_atEnd (p := 12) (v := 2) (by decide +kernel))
theorem dX11_atEnd_13 : decode cX11_atEnd 13 = .ok (.if_icmp .eq 7, 3) := dc_159 (byA eNcX11_atEnd (p := 13) (v := 159) (by decide +kernel)) (byA eNcX11_atEnd (p := 14) (v := 0) (by decide +kernel)) (byA eNcX11_atEnd (p := 15) (v := 7) (by decide +kernel)) (by decide +kernel)
theorem dX11_atEnd_16 : decode cX11_atEnd 16 = .ok (.aload_n 0, 1) := dc_42 (byA eNcX11_atEnd (p := 16) (v := 42) (by decide +kernel))
theorem dX11_atEnd_17 : decode cX11_atEnd 17 = .ok (.invokevirtual 124, 3) := dc_182 (byA eNcX11_atEnd (p := 17) (v := 182) (by decide +kernel)) (byA eNcX11_atEnd (p := 18) (v := 0) (by decide +kernel)) (byA eNcX11_atEnd (p := 19) (v := 124) (by decide +kernel)) rfl
theorem dX11_atEnd_20 : decode cX11_atEnd 20 = .ok (.aload_n 0, 1) := dc_42 (byA eNcX11_atEnd (p := 20) (v := 42) (by decide +kernel))
theorem dX11_atEnd_21 : decode cX11_atEnd 21 = .ok (.getfield 115, 3) := dc_180 (byA eNcX11_atEnd (p := 21) (v := 180) (by decide +kernel)) (byA eNcX11_atEnd (p := 22) (v := 0) (by decide +kernel)) (byA eNcX11_atEnd (p := 23) (v := 115) (by decide +kernel)) rfl
theorem dX11_atEnd_24 : decode cX11_atEnd 24 = .ok (.ireturn, 1) := dc_172 (byA eNcX11_atEnd (p := 24) (v := 172) (by decide +kernel))
def X11_atEnd (μ : Mm) : Rs := if (μ 70 4) = (-1) then (bd (X11_look μ) fun v2 μ3 => if v2 = (-1) then (some (μ3 70 4, μ3)) else (bd (X11_bad μ3) fun v6 μ7 => some (μ7 70 4, μ7))) else (some (μ 70 4, μ))
set_option maxHeartbeats 4000000 in
set_option maxRecDepth 100000 in
theorem kX11_atEnd (d : Nat) (hd : 3 ≤ d) {μ : Mm} {r : Int} {μ' : Mm} (h : X11_atEnd μ = some (r, μ')) : CC d mX11_atEnd [vR 70] μ r μ' := by
  unfold X11_atEnd at h
  refine V_enter (by decide) (Nat.le_of_ble_eq_true rfl) ?_
  show VV d mX11_atEnd 0 [some (vR 70)] [] μ r μ'
  refine V_aload_n (q := 1) dX11_atEnd_0 rfl rfl rfl ?_
  refine V_getI (q := 4) fl_X11_115 rfl rfl rfl dX11_atEnd_1 rfl ?_
  refine V_iconst (q := 5) dX11_atEnd_4 rfl rfl ?_
  refine V_icmpne (q := 20) (q2 := 8) dX11_atEnd_5 (by decide) rfl (fun hc1 => ?_) (fun hc1 => ?_)
  · have h := ifF hc1 h
    refine V_aload_n (q := 21) dX11_atEnd_20 rfl rfl rfl ?_
    refine V_getI (q := 24) fl_X11_115 rfl rfl rfl dX11_atEnd_21 rfl ?_
    exact V_iret rfl h dX11_atEnd_24
  · have h := ifT hc1 h
    refine V_aload_n (q := 9) dX11_atEnd_8 rfl rfl rfl ?_
    obtain ⟨v2, μ3, hc4, h⟩ := bd_i h
    refine V_cV1 (q := 12) (v := vI v2) (kX11_look (d - 1) (by omega) hc4) (by omega) mv_X11_127 rfl rfl rfl rfl rfl rfl dX11_atEnd_9 rfl ?_
    refine V_iconst (q := 13) dX11_atEnd_12 rfl rfl ?_
    refine V_icmpeq (q := 20) (q2 := 16) dX11_atEnd_13 (by decide) rfl (fun hc5 => ?_) (fun hc5 => ?_)
    · have h := ifT hc5 h
      refine V_aload_n (q := 21) dX11_atEnd_20 rfl rfl rfl ?_
      refine V_getI (q := 24) fl_X11_115 rfl rfl rfl dX11_atEnd_21 rfl ?_
      exact V_iret rfl h dX11_atEnd_24
    · have h := ifF hc5 h
      refine V_aload_n (q := 17) dX11_atEnd_16 rfl rfl rfl ?_
      obtain ⟨v6, μ7, hc8, h⟩ := bd_i h
      refine V_cV0 (q := 20) (kX11_bad (d - 1) (by omega) hc8) (by omega) mv_X11_124 rfl rfl rfl rfl rfl rfl dX11_atEnd_17 rfl ?_
      refine V_aload_n (q := 21) dX11_atEnd_20 rfl rfl rfl ?_
      refine V_getI (q := 24) fl_X11_115 rfl rfl rfl dX11_atEnd_21 rfl ?_
      exact V_iret rfl h dX11_atEnd_24
abbrev mX11_readLaw : Mth := (yX11_readLaw, cX11_readLaw, 2, some .int)
set_option maxRecDepth 100000 in
theorem mi_X11_readLaw : Cond.instanceMethod yX11_readLaw ∈ tG ∧ Cond.selects yX11_readLaw.cls yX11_readLaw yX11_readLaw ∈ tG ∧ Cond.initialized yX11_readLaw.cls ∈ tG ∧ Cond.code yX11_readLaw cX11_readLaw 2 (some .int) ∈ tG ∧ (yX11_readLaw.cls ≠ "java/lang/invoke/MethodHandle" ∧ yX11_readLaw.cls ≠ "java/lang/invoke/VarHandle" ∧ (parseMethodDescriptor yX11_readLaw.desc).map (fun d => d.parameters.length) = some 1) ∧ 2 ≤ 60 := ⟨(tG_of (tb6 (List.mem_of_getElem? (i := 92) rfl)) (by decide +kernel)), (tG_of (List.mem_of_getElem? (i := 55) (by decide +kernel)) (by decide +kernel)), (tG_of (tb1 (List.mem_of_getElem? (i := 12) rfl)) (by decide +kernel)), (tG_of (tb6 (List.mem_of_getElem? (i := 93) rfl)) (by decide +kernel)), ⟨by decide, by decide, by decide +kernel⟩, by decide⟩
set_option maxRecDepth 100000 in
theorem mv_X11_249 : mV RX11 249 mX11_readLaw 1 := ⟨(tG_of (tb6 (List.mem_of_getElem? (i := 90) rfl)) (by decide +kernel)), mi_X11_readLaw⟩
theorem dX11_readLaw_0 : decode cX11_readLaw 0 = .ok (.aload_n 0, 1) := dc_42 (byA eNcX11_readLaw (p := 0) (v := 42) (by decide +kernel))
theorem dX11_readLaw_1 : decode cX11_readLaw 1 = .ok (.iload_n 1, 1) := dc_27 (byA eNcX11_readLaw (p := 1) (v := 27) (by decide +kernel))
theorem dX11_readLaw_2 : decode cX11_readLaw 2 = .ok (.invokevirtual 179, 3) := dc_182 (byA eNcX11_readLaw (p := 2) (v := 182) (by decide +kernel)) (byA eNcX11_readLaw (p := 3) (v := 0) (by decide +kernel)) (byA eNcX11_readLaw (p := 4) (v := 179) (by decide +kernel)) rfl
theorem dX11_readLaw_5 : decode cX11_readLaw 5 = .ok (.aload_n 0, 1) := dc_42 (byA eNcX11_readLaw (p := 5) (v := 42) (by decide +kernel))
theorem dX11_readLaw_6 : decode cX11_readLaw 6 = .ok (.invokevirtual 182, 3) := dc_182 (byA eNcX11_readLaw (p := 6) (v := 182) (by decide +kernel)) (byA eNcX11_readLaw (p := 7) (v := 0) (by decide +kernel)) (byA eNcX11_readLaw (p := 8) (v := 182) (by decide +kernel)) rfl
theorem dX11_readLaw_9 : decode cX11_readLaw 9 = .ok (.aload_n 0, 1) := dc_42 (byA eNcX11_readLaw (p := 9) (v := 42) (by decide +kernel))
theorem dX11_readLaw_10 : decode cX11_readLaw 10 = .ok (.getfield 115, 3) := dc_180 (byA eNcX11_readLaw (p := 10) (v := 180) (by decide +kernel)) (byA eNcX11_readLaw (p := 11) (v := 0) (by decide +kernel)) (byA eNcX11_readLaw (p := 12) (v := 115) (by decide +kernel)) rfl
theorem dX11_readLaw_13 : decode cX11_readLaw 13 = .ok (.iconst (-1), 1) := dc_2 (byA eNcX11_readLaw (p := 13) (v := 2) (by decide +kernel))
theorem dX11_readLaw_14 : decode cX11_readLaw 14 = .ok (.if_icmp .ne 29, 3) := dc_160 (byA eNcX11_readLaw (p := 14) (v := 160) (by decide +kernel)) (byA eNcX11_readLaw (p := 15) (v := 0) (by decide +kernel)) (byA eNcX11_readLaw (p := 16) (v := 29) (by decide +kernel)) (by decide +kernel)
theorem dX11_readLaw_17 : decode cX11_readLaw 17 = .ok (.aload_n 0, 1) := dc_42 (byA eNcX11_readLaw (p := 17) (v := 42) (by decide +kernel))
theorem dX11_readLaw_18 : decode cX11_readLaw 18 = .ok (.invokevirtual 127, 3) := dc_182 (byA eNcX11_readLaw (p := 18) (v := 182) (by decide +kernel)) (byA eNcX11_readLaw (p := 19) (v := 0) (by decide +kernel)) (byA eNcX11_readLaw (p := 20) (v := 127) (by decide +kernel)) rfl
theorem dX11_readLaw_21 : decode cX11_readLaw 21 = .ok (.bipush 59, 2) := dc_16 (byA eNcX11_readLaw (p := 21) (v := 16) (by decide +kernel)) (byA eNcX11_readLaw (p := 22) (v := 59) (by decide +kernel)) (by decide +kernel)
theorem dX11_readLaw_23 : decode cX11_readLaw 23 = .ok (.if_icmp .ne 20, 3) := dc_160 (byA eNcX11_readLaw (p := 23) (v := 160) (by decide +kernel)) (byA eNcX11_readLaw (p := 24) (v := 0) (by decide +kernel)) (byA eNcX11_readLaw (p := 25) (v := 20) (by decide +kernel)) (by decide +kernel)
theorem dX11_readLaw_26 : decode cX11_readLaw 26 = .ok (.aload_n 0, 1) := dc_42 (byA eNcX11_readLaw (p := 26) (v := 42) (by decide +kernel))
theorem dX11_readLaw_27 : decode cX11_readLaw 27 = .ok (.dup, 1) := dc_89 (byA eNcX11_readLaw (p := 27) (v := 89) (by decide +kernel))
theorem dX11_readLaw_28 : decode cX11_readLaw 28 = .ok (.getfield 108, 3) := dc_180 (byA eNcX11_readLaw (p := 28) (v := 180) (by decide +kernel)) (byA eNcX11_readLaw (p := 29) (v := 0) (by decide +kernel)) (byA eNcX11_readLaw (p := 30) (v := 108) (by decide +kernel)) rfl
theorem dX11_readLaw_31 : decode cX11_readLaw 31 = .ok (.iconst 1, 1) := dc_4 (byA eNcX11_readLaw (p := 31) (v := 4) (by decide +kernel))
theorem dX11_readLaw_32 : decode cX11_readLaw 32 = .ok (.iadd, 1) := dc_96 (byA eNcX11_readLaw (p := 32) (v := 96) (by decide +kernel))
theorem dX11_readLaw_33 : decode cX11_readLaw 33 = .ok (.putfield 108, 3) := dc_181 (byA eNcX11_readLaw (p := 33) (v := 181) (by decide +kernel)) (byA eNcX11_readLaw (p := 34) (v := 0) (by decide +kernel)) (byA eNcX11_readLaw (p := 35) (v := 108) (by decide +kernel)) rfl
theorem dX11_readLaw_36 : decode cX11_readLaw 36 = .ok (.aload_n 0, 1) := dc_42 (byA eNcX11_readLaw (p := 36) (v := 42) (by decide +kernel))
theorem dX11_readLaw_37 : decode cX11_readLaw 37 = .ok (.invokevirtual 182, 3) := dc_182 (byA eNcX11_readLaw (p := 37) (v := 182) (by decide +kernel)) (byA eNcX11_readLaw (p := 38) (v := 0) (by decide +kernel)) (byA eNcX11_readLaw (p := 39) (v := 182) (by decide +kernel)) rfl
theorem dX11_readLaw_40 : decode cX11_readLaw 40 = .ok (.goto (-31), 3) := dc_167 (byA eNcX11_readLaw (p := 40) (v := 167) (by decide +kernel)) (byA eNcX11_readLaw (p := 41) (v := 255) (by decide +kernel)) (byA eNcX11_readLaw (p := 42) (v := 225) (by decide +kernel)) (by decide +kernel)
theorem dX11_readLaw_43 : decode cX11_readLaw 43 = .ok (.aload_n 0, 1) := dc_42 (byA eNcX11_readLaw (p := 43) (v := 42) (by decide +kernel))
theorem dX11_readLaw_44 : decode cX11_readLaw 44 = .ok (.invokevirtual 185, 3) := dc_182 (byA eNcX11_readLaw (p := 44) (v := 182) (by decide +kernel)) (byA eNcX11_readLaw (p := 45) (v := 0) (by decide +kernel)) (byA eNcX11_readLaw (p := 46) (v := 185) (by decide +kernel)) rfl
theorem dX11_readLaw_47 : decode cX11_readLaw 47 = .ok (.ireturn, 1) := dc_172 (byA eNcX11_readLaw (p := 47) (v := 172) (by decide +kernel))
def X11_readLaw_L9 (k43 : Mm → Rs) : Nat → Mm → Rs
  | 0, _ => none
  | n + 1, μ => if (μ 70 4) = (-1) then (bd (X11_look μ) fun v8 μ9 => if v8 = 59 then (sF μ9 70 3 (iA (μ9 70 3) 1) fun μ12 => bd (X11_clause μ12) fun v13 μ14 => X11_readLaw_L9 k43 n μ14) else (k43 μ9)) else (k43 μ)
def X11_readLaw (l1 : Int) (μ : Mm) : Rs := bd (X11_open l1 μ) fun v1 μ2 => bd (X11_clause μ2) fun v4 μ5 => X11_readLaw_L9 (fun μ16 => bd (X11_atEnd μ16) fun v17 μ18 => some (v17, μ18)) FU μ5
set_option maxHeartbeats 4000000 in
set_option maxRecDepth 100000 in
theorem kX11_readLaw_L9 (d : Nat) (hd : 272 ≤ d) {k43 : Mm → Rs} {r : Int} {μ' : Mm} (hk_43 : ∀ (μ1 : Mm), k43 μ1 = some (r, μ') → VV d mX11_readLaw 43 [some (vR 70), none] [] μ1 r μ') : ∀ (n : Nat) {μ : Mm}, X11_readLaw_L9 k43 n μ = some (r, μ') → VV d mX11_readLaw 9 [some (vR 70), none] [] μ r μ' := by
  intro n
  induction n with
  | zero => intro μ h; rw [X11_readLaw_L9] at h; cases h
  | succ n ih =>
    intro μ h
    rw [X11_readLaw_L9] at h
    refine V_aload_n (q := 10) dX11_readLaw_9 rfl rfl rfl ?_
    refine V_getI (q := 13) fl_X11_115 rfl rfl rfl dX11_readLaw_10 rfl ?_
    refine V_iconst (q := 14) dX11_readLaw_13 rfl rfl ?_
    refine V_icmpne (q := 43) (q2 := 17) dX11_readLaw_14 (by decide) rfl (fun hc7 => ?_) (fun hc7 => ?_)
    · have h := ifF hc7 h
      exact V_weak (hk_43 _ h) (sb_s rfl (sb_n sb_0))
    · have h := ifT hc7 h
      refine V_aload_n (q := 18) dX11_readLaw_17 rfl rfl rfl ?_
      obtain ⟨v8, μ9, hc10, h⟩ := bd_i h
      refine V_cV1 (q := 21) (v := vI v8) (kX11_look (d - 1) (by omega) hc10) (by omega) mv_X11_127 rfl rfl rfl rfl rfl rfl dX11_readLaw_18 rfl ?_
      refine V_bipush (q := 23) dX11_readLaw_21 rfl rfl rfl ?_
      refine V_icmpne (q := 43) (q2 := 26) dX11_readLaw_23 (by decide) rfl (fun hc11 => ?_) (fun hc11 => ?_)
      · have h := ifF hc11 h
        exact V_weak (hk_43 _ h) (sb_s rfl (sb_n sb_0))
      · have h := ifT hc11 h
        refine V_aload_n (q := 27) dX11_readLaw_26 rfl rfl rfl ?_
        refine V_dup (q := 28) dX11_readLaw_27 trivial rfl ?_
        refine V_getI (q := 31) fl_X11_108 rfl rfl rfl dX11_readLaw_28 rfl ?_
        refine V_iconst (q := 32) dX11_readLaw_31 rfl rfl ?_
        refine V_iadd (q := 33) dX11_readLaw_32 rfl ?_
        have h := sF_i h
        refine V_putI (q := 36) fl_X11_108 rfl rfl rfl dX11_readLaw_33 rfl ?_
        refine V_aload_n (q := 37) dX11_readLaw_36 rfl rfl rfl ?_
        obtain ⟨v13, μ14, hc15, h⟩ := bd_i h
        refine V_cV0 (q := 40) (kX11_clause (d - 1) (by omega) hc15) (by omega) mv_X11_182 rfl rfl rfl rfl rfl rfl dX11_readLaw_37 rfl ?_
        refine V_goto (q := 9) dX11_readLaw_40 (by decide) ?_
        exact V_weak (ih h) (sb_s rfl (sb_n sb_0))
set_option maxHeartbeats 4000000 in
set_option maxRecDepth 100000 in
theorem kX11_readLaw (d : Nat) (hd : 272 ≤ d) {l1 : Int} {μ : Mm} {r : Int} {μ' : Mm} (h : X11_readLaw l1 μ = some (r, μ')) : CC d mX11_readLaw [vR 70, vI l1] μ r μ' := by
  unfold X11_readLaw at h
  refine V_enter (by decide) (Nat.le_of_ble_eq_true rfl) ?_
  show VV d mX11_readLaw 0 [some (vR 70), some (vI l1)] [] μ r μ'
  refine V_aload_n (q := 1) dX11_readLaw_0 rfl rfl rfl ?_
  refine V_iload_n (q := 2) dX11_readLaw_1 rfl rfl rfl ?_
  obtain ⟨v1, μ2, hc3, h⟩ := bd_i h
  refine V_cV0 (q := 5) (kX11_open (d - 1) (by omega) hc3) (by omega) mv_X11_179 rfl rfl rfl rfl rfl rfl dX11_readLaw_2 rfl ?_
  refine V_aload_n (q := 6) dX11_readLaw_5 rfl rfl rfl ?_
  obtain ⟨v4, μ5, hc6, h⟩ := bd_i h
  refine V_cV0 (q := 9) (kX11_clause (d - 1) (by omega) hc6) (by omega) mv_X11_182 rfl rfl rfl rfl rfl rfl dX11_readLaw_6 rfl ?_
  refine V_weak (kX11_readLaw_L9 d hd (fun μ16 h => ?_) FU h) (sb_s rfl (sb_n sb_0))
  refine V_aload_n (q := 44) dX11_readLaw_43 rfl rfl rfl ?_
  obtain ⟨v17, μ18, hc19, h⟩ := bd_i h
  refine V_cV1 (q := 47) (v := vI v17) (kX11_atEnd (d - 1) (by omega) hc19) (by omega) mv_X11_185 rfl rfl rfl rfl rfl rfl dX11_readLaw_44 rfl ?_
  exact V_iret rfl h dX11_readLaw_47
abbrev mX11_bounded : Mth := (yX11_bounded, cX11_bounded, 2, some .int)
set_option maxRecDepth 100000 in
theorem mi_X11_bounded : Cond.static yX11_bounded ∈ tG ∧ Cond.initialized yX11_bounded.cls ∈ tG ∧ Cond.code yX11_bounded cX11_bounded 2 (some .int) ∈ tG ∧ (yX11_bounded.cls ≠ "java/lang/invoke/MethodHandle" ∧ yX11_bounded.cls ≠ "java/lang/invoke/VarHandle" ∧ (parseMethodDescriptor yX11_bounded.desc).map (fun d => d.parameters.length) = some 1) ∧ 2 ≤ 60 := ⟨(tG_of (tb6 (List.mem_of_getElem? (i := 225) rfl)) (by decide +kernel)), (tG_of (tb1 (List.mem_of_getElem? (i := 12) rfl)) (by decide +kernel)), (tG_of (tb6 (List.mem_of_getElem? (i := 226) rfl)) (by decide +kernel)), ⟨by decide, by decide, by decide +kernel⟩, by decide⟩
set_option maxRecDepth 100000 in
theorem mv_X11_201 : mS RX11 201 mX11_bounded 1 := ⟨(tG_of (tb6 (List.mem_of_getElem? (i := 224) rfl)) (by decide +kernel)), mi_X11_bounded.1, (tG_of (tb1 (List.mem_of_getElem? (i := 12) rfl)) (by decide +kernel)), mi_X11_bounded.2⟩
theorem dX11_bounded_0 : decode cX11_bounded 0 = .ok (.ldc2_w 188, 3) := by decide +kernel
theorem dX11_bounded_3 : decode cX11_bounded 3 = .ok (.ldc2_w 190, 3) := by decide +kernel
theorem dX11_bounded_6 : decode cX11_bounded 6 = .ok (.lload_n 0, 1) := dc_30 (byA eNcX11_bounded (p := 6) (v := 30) (by decide +kernel))
theorem dX11_bounded_7 : decode cX11_bounded 7 = .ok (.invokestatic 192, 3) := dc_184 (byA eNcX11_bounded (p := 7) (v := 184) (by decide +kernel)) (byA eNcX11_bounded (p := 8) (v := 0) (by decide +kernel)) (byA eNcX11_bounded (p := 9) (v := 192) (by decide +kernel)) rfl
theorem dX11_bounded_10 : decode cX11_bounded 10 = .ok (.invokestatic 198, 3) := dc_184 (byA eNcX11_bounded (p := 10) (v := 184) (by decide +kernel)) (byA eNcX11_bounded (p := 11) (v := 0) (by decide +kernel)) (byA eNcX11_bounded (p := 12) (v := 198) (by decide +kernel)) rfl
theorem dX11_bounded_13 : decode cX11_bounded 13 = .ok (.l2i, 1) := dc_136 (byA eNcX11_bounded (p := 13) (v := 136) (by decide +kernel))
theorem dX11_bounded_14 : decode cX11_bounded 14 = .ok (.ireturn, 1) := dc_172 (byA eNcX11_bounded (p := 14) (v := 172) (by decide +kernel))
def X11_bounded (l0 : Int) (μ : Mm) : Rs := some (wI (mX (-1000000) (mN 1000000 l0)), μ)
set_option maxHeartbeats 4000000 in
set_option maxRecDepth 100000 in
theorem kX11_bounded (d : Nat) (hd : 1 ≤ d) {l0 : Int} {μ : Mm} {r : Int} {μ' : Mm} (h : X11_bounded l0 μ = some (r, μ')) : CC d mX11_bounded [vL l0] μ r μ' := by
  unfold X11_bounded at h
  refine V_enter (by decide) (Nat.le_of_ble_eq_true rfl) ?_
  show VV d mX11_bounded 0 [some (vL l0), none] [] μ r μ'
  refine V_ldc2 (q := 3) (n := -1000000) dX11_bounded_0 (by unfold rL; omega) kc_X11_188 rfl ?_
  refine V_ldc2 (q := 6) (n := 1000000) dX11_bounded_3 (by unfold rL; omega) kc_X11_190 rfl ?_
  refine V_lload_n (q := 7) dX11_bounded_6 rfl rfl rfl ?_
  refine V_lmin (q := 10) mx_X11_192 (by omega) rfl dX11_bounded_7 rfl ?_
  refine V_lmax (q := 13) mx_X11_198 (by omega) rfl dX11_bounded_10 rfl ?_
  refine V_l2i (q := 14) dX11_bounded_13 rfl ?_
  exact V_iret rfl h dX11_bounded_14
abbrev mX11_worked : Mth := (yX11_worked, cX11_worked, 5, some .int)
set_option maxRecDepth 100000 in
theorem mi_X11_worked : Cond.static yX11_worked ∈ tG ∧ Cond.initialized yX11_worked.cls ∈ tG ∧ Cond.code yX11_worked cX11_worked 5 (some .int) ∈ tG ∧ (yX11_worked.cls ≠ "java/lang/invoke/MethodHandle" ∧ yX11_worked.cls ≠ "java/lang/invoke/VarHandle" ∧ (parseMethodDescriptor yX11_worked.desc).map (fun d => d.parameters.length) = some 3) ∧ 5 ≤ 60 := ⟨(tG_of (tb6 (List.mem_of_getElem? (i := 222) rfl)) (by decide +kernel)), (tG_of (tb1 (List.mem_of_getElem? (i := 12) rfl)) (by decide +kernel)), (tG_of (tb6 (List.mem_of_getElem? (i := 223) rfl)) (by decide +kernel)), ⟨by decide, by decide, by decide +kernel⟩, by decide⟩
set_option maxRecDepth 100000 in
theorem mv_X11_205 : mS RX11 205 mX11_worked 3 := ⟨(tG_of (tb6 (List.mem_of_getElem? (i := 221) rfl)) (by decide +kernel)), mi_X11_worked.1, (tG_of (tb1 (List.mem_of_getElem? (i := 12) rfl)) (by decide +kernel)), mi_X11_worked.2⟩
theorem dX11_worked_0 : decode cX11_worked 0 = .ok (.iload_n 0, 1) := dc_26 (byA eNcX11_worked (p := 0) (v := 26) (by decide +kernel))
theorem dX11_worked_1 : decode cX11_worked 1 = .ok (.tableswitch 143 2 10 #[51, 58, 65, 72, 89, 101, 113, 143, 125], 51) := by decide +kernel
theorem dX11_worked_52 : decode cX11_worked 52 = .ok (.lload_n 1, 1) := dc_31 (byA eNcX11_worked (p := 52) (v := 31) (by decide +kernel))
theorem dX11_worked_53 : decode cX11_worked 53 = .ok (.lload_n 3, 1) := dc_33 (byA eNcX11_worked (p := 53) (v := 33) (by decide +kernel))
theorem dX11_worked_54 : decode cX11_worked 54 = .ok (.ladd, 1) := dc_97 (byA eNcX11_worked (p := 54) (v := 97) (by decide +kernel))
theorem dX11_worked_55 : decode cX11_worked 55 = .ok (.invokestatic 201, 3) := dc_184 (byA eNcX11_worked (p := 55) (v := 184) (by decide +kernel)) (byA eNcX11_worked (p := 56) (v := 0) (by decide +kernel)) (byA eNcX11_worked (p := 57) (v := 201) (by decide +kernel)) rfl
theorem dX11_worked_58 : decode cX11_worked 58 = .ok (.ireturn, 1) := dc_172 (byA eNcX11_worked (p := 58) (v := 172) (by decide +kernel))
theorem dX11_worked_59 : decode cX11_worked 59 = .ok (.lload_n 1, 1) := dc_31 (byA eNcX11_worked (p := 59) (v := 31) (by decide +kernel))
theorem dX11_worked_60 : decode cX11_worked 60 = .ok (.lload_n 3, 1) := dc_33 (byA eNcX11_worked (p := 60) (v := 33) (by decide +kernel))
theorem dX11_worked_61 : decode cX11_worked 61 = .ok (.lsub, 1) := dc_101 (byA eNcX11_worked (p := 61) (v := 101) (by decide +kernel))
theorem dX11_worked_62 : decode cX11_worked 62 = .ok (.invokestatic 201, 3) := dc_184 (byA eNcX11_worked (p := 62) (v := 184) (by decide +kernel)) (byA eNcX11_worked (p := 63) (v := 0) (by decide +kernel)) (byA eNcX11_worked (p := 64) (v := 201) (by decide +kernel)) rfl
theorem dX11_worked_65 : decode cX11_worked 65 = .ok (.ireturn, 1) := dc_172 (byA eNcX11_worked (p := 65) (v := 172) (by decide +kernel))
theorem dX11_worked_66 : decode cX11_worked 66 = .ok (.lload_n 1, 1) := dc_31 (byA eNcX11_worked (p := 66) (v := 31) (by decide +kernel))
theorem dX11_worked_67 : decode cX11_worked 67 = .ok (.lload_n 3, 1) := dc_33 (byA eNcX11_worked (p := 67) (v := 33) (by decide +kernel))
theorem dX11_worked_68 : decode cX11_worked 68 = .ok (.lmul, 1) := dc_105 (byA eNcX11_worked (p := 68) (v := 105) (by decide +kernel))
theorem dX11_worked_69 : decode cX11_worked 69 = .ok (.invokestatic 201, 3) := dc_184 (byA eNcX11_worked (p := 69) (v := 184) (by decide +kernel)) (byA eNcX11_worked (p := 70) (v := 0) (by decide +kernel)) (byA eNcX11_worked (p := 71) (v := 201) (by decide +kernel)) rfl
theorem dX11_worked_72 : decode cX11_worked 72 = .ok (.ireturn, 1) := dc_172 (byA eNcX11_worked (p := 72) (v := 172) (by decide +kernel))
theorem dX11_worked_73 : decode cX11_worked 73 = .ok (.lload_n 3, 1) := dc_33 (byA eNcX11_worked (p := 73) (v := 33) (by decide +kernel))
theorem dX11_worked_74 : decode cX11_worked 74 = .ok (.lconst 0, 1) := dc_9 (byA eNcX11_worked (p := 74) (v := 9) (by decide +kernel))
theorem dX11_worked_75 : decode cX11_worked 75 = .ok (.lcmp, 1) := dc_148 (byA eNcX11_worked (p := 75) (v := 148) (by decide +kernel))
theorem dX11_worked_76 : decode cX11_worked 76 = .ok (.ifCond .ne 7, 3) := dc_154 (byA eNcX11_worked (p := 76) (v := 154) (by decide +kernel)) (byA eNcX11_worked (p := 77) (v := 0) (by decide +kernel)) (byA eNcX11_worked (p := 78) (v := 7) (by decide +kernel)) (by decide +kernel)
theorem dX11_worked_79 : decode cX11_worked 79 = .ok (.iconst 0, 1) := dc_3 (byA eNcX11_worked (p := 79) (v := 3) (by decide +kernel))
theorem dX11_worked_80 : decode cX11_worked 80 = .ok (.goto 9, 3) := dc_167 (byA eNcX11_worked (p := 80) (v := 167) (by decide +kernel)) (byA eNcX11_worked (p := 81) (v := 0) (by decide +kernel)) (byA eNcX11_worked (p := 82) (v := 9) (by decide +kernel)) (by decide +kernel)
theorem dX11_worked_83 : decode cX11_worked 83 = .ok (.lload_n 1, 1) := dc_31 (byA eNcX11_worked (p := 83) (v := 31) (by decide +kernel))
theorem dX11_worked_84 : decode cX11_worked 84 = .ok (.lload_n 3, 1) := dc_33 (byA eNcX11_worked (p := 84) (v := 33) (by decide +kernel))
theorem dX11_worked_85 : decode cX11_worked 85 = .ok (.ldiv, 1) := dc_109 (byA eNcX11_worked (p := 85) (v := 109) (by decide +kernel))
theorem dX11_worked_86 : decode cX11_worked 86 = .ok (.invokestatic 201, 3) := dc_184 (byA eNcX11_worked (p := 86) (v := 184) (by decide +kernel)) (byA eNcX11_worked (p := 87) (v := 0) (by decide +kernel)) (byA eNcX11_worked (p := 88) (v := 201) (by decide +kernel)) rfl
theorem dX11_worked_89 : decode cX11_worked 89 = .ok (.ireturn, 1) := dc_172 (byA eNcX11_worked (p := 89) (v := 172) (by decide +kernel))
theorem dX11_worked_90 : decode cX11_worked 90 = .ok (.lload_n 1, 1) := dc_31 (byA eNcX11_worked (p := 90) (v := 31) (by decide +kernel))
theorem dX11_worked_91 : decode cX11_worked 91 = .ok (.lload_n 3, 1) := dc_33 (byA eNcX11_worked (p := 91) (v := 33) (by decide +kernel))
theorem dX11_worked_92 : decode cX11_worked 92 = .ok (.lcmp, 1) := dc_148 (byA eNcX11_worked (p := 92) (v := 148) (by decide +kernel))
theorem dX11_worked_93 : decode cX11_worked 93 = .ok (.ifCond .ne 7, 3) := dc_154 (byA eNcX11_worked (p := 93) (v := 154) (by decide +kernel)) (byA eNcX11_worked (p := 94) (v := 0) (by decide +kernel)) (byA eNcX11_worked (p := 95) (v := 7) (by decide +kernel)) (by decide +kernel)
theorem dX11_worked_96 : decode cX11_worked 96 = .ok (.iconst 1, 1) := dc_4 (byA eNcX11_worked (p := 96) (v := 4) (by decide +kernel))
theorem dX11_worked_97 : decode cX11_worked 97 = .ok (.goto 4, 3) := dc_167 (byA eNcX11_worked (p := 97) (v := 167) (by decide +kernel)) (byA eNcX11_worked (p := 98) (v := 0) (by decide +kernel)) (byA eNcX11_worked (p := 99) (v := 4) (by decide +kernel)) (by decide +kernel)
theorem dX11_worked_100 : decode cX11_worked 100 = .ok (.iconst 0, 1) := dc_3 (byA eNcX11_worked (p := 100) (v := 3) (by decide +kernel))
theorem dX11_worked_101 : decode cX11_worked 101 = .ok (.ireturn, 1) := dc_172 (byA eNcX11_worked (p := 101) (v := 172) (by decide +kernel))
theorem dX11_worked_102 : decode cX11_worked 102 = .ok (.lload_n 1, 1) := dc_31 (byA eNcX11_worked (p := 102) (v := 31) (by decide +kernel))
theorem dX11_worked_103 : decode cX11_worked 103 = .ok (.lload_n 3, 1) := dc_33 (byA eNcX11_worked (p := 103) (v := 33) (by decide +kernel))
theorem dX11_worked_104 : decode cX11_worked 104 = .ok (.lcmp, 1) := dc_148 (byA eNcX11_worked (p := 104) (v := 148) (by decide +kernel))
theorem dX11_worked_105 : decode cX11_worked 105 = .ok (.ifCond .ge 7, 3) := dc_156 (byA eNcX11_worked (p := 105) (v := 156) (by decide +kernel)) (byA eNcX11_worked (p := 106) (v := 0) (by decide +kernel)) (byA eNcX11_worked (p := 107) (v := 7) (by decide +kernel)) (by decide +kernel)
theorem dX11_worked_108 : decode cX11_worked 108 = .ok (.iconst 1, 1) := dc_4 (byA eNcX11_worked (p := 108) (v := 4) (by decide +kernel))
theorem dX11_worked_109 : decode cX11_worked 109 = .ok (.goto 4, 3) := dc_167 (byA eNcX11_worked (p := 109) (v := 167) (by decide +kernel)) (byA eNcX11_worked (p := 110) (v := 0) (by decide +kernel)) (byA eNcX11_worked (p := 111) (v := 4) (by decide +kernel)) (by decide +kernel)
theorem dX11_worked_112 : decode cX11_worked 112 = .ok (.iconst 0, 1) := dc_3 (byA eNcX11_worked (p := 112) (v := 3) (by decide +kernel))
theorem dX11_worked_113 : decode cX11_worked 113 = .ok (.ireturn, 1) := dc_172 (byA eNcX11_worked (p := 113) (v := 172) (by decide +kernel))
theorem dX11_worked_114 : decode cX11_worked 114 = .ok (.lload_n 1, 1) := dc_31 (byA eNcX11_worked (p := 114) (v := 31) (by decide +kernel))
theorem dX11_worked_115 : decode cX11_worked 115 = .ok (.lload_n 3, 1) := dc_33 (byA eNcX11_worked (p := 115) (v := 33) (by decide +kernel))
theorem dX11_worked_116 : decode cX11_worked 116 = .ok (.lcmp, 1) := dc_148 (byA eNcX11_worked (p := 116) (v := 148) (by decide +kernel))
theorem dX11_worked_117 : decode cX11_worked 117 = .ok (.ifCond .le 7, 3) := dc_158 (byA eNcX11_worked (p := 117) (v := 158) (by decide +kernel)) (byA eNcX11_worked (p := 118) (v := 0) (by decide +kernel)) (byA eNcX11_worked (p := 119) (v := 7) (by decide +kernel)) (by decide +kernel)
theorem dX11_worked_120 : decode cX11_worked 120 = .ok (.iconst 1, 1) := dc_4 (byA eNcX11_worked (p := 120) (v := 4) (by decide +kernel))
theorem dX11_worked_121 : decode cX11_worked 121 = .ok (.goto 4, 3) := dc_167 (byA eNcX11_worked (p := 121) (v := 167) (by decide +kernel)) (byA eNcX11_worked (p := 122) (v := 0) (by decide +kernel)) (byA eNcX11_worked (p := 123) (v := 4) (by decide +kernel)) (by decide +kernel)
theorem dX11_worked_124 : decode cX11_worked 124 = .ok (.iconst 0, 1) := dc_3 (byA eNcX11_worked (p := 124) (v := 3) (by decide +kernel))
theorem dX11_worked_125 : decode cX11_worked 125 = .ok (.ireturn, 1) := dc_172 (byA eNcX11_worked (p := 125) (v := 172) (by decide +kernel))
theorem dX11_worked_126 : decode cX11_worked 126 = .ok (.lload_n 1, 1) := dc_31 (byA eNcX11_worked (p := 126) (v := 31) (by decide +kernel))
theorem dX11_worked_127 : decode cX11_worked 127 = .ok (.lconst 0, 1) := dc_9 (byA eNcX11_worked (p := 127) (v := 9) (by decide +kernel))
theorem dX11_worked_128 : decode cX11_worked 128 = .ok (.lcmp, 1) := dc_148 (byA eNcX11_worked (p := 128) (v := 148) (by decide +kernel))
theorem dX11_worked_129 : decode cX11_worked 129 = .ok (.ifCond .eq 13, 3) := dc_153 (byA eNcX11_worked (p := 129) (v := 153) (by decide +kernel)) (byA eNcX11_worked (p := 130) (v := 0) (by decide +kernel)) (byA eNcX11_worked (p := 131) (v := 13) (by decide +kernel)) (by decide +kernel)
theorem dX11_worked_132 : decode cX11_worked 132 = .ok (.lload_n 3, 1) := dc_33 (byA eNcX11_worked (p := 132) (v := 33) (by decide +kernel))
theorem dX11_worked_133 : decode cX11_worked 133 = .ok (.lconst 0, 1) := dc_9 (byA eNcX11_worked (p := 133) (v := 9) (by decide +kernel))
theorem dX11_worked_134 : decode cX11_worked 134 = .ok (.lcmp, 1) := dc_148 (byA eNcX11_worked (p := 134) (v := 148) (by decide +kernel))
theorem dX11_worked_135 : decode cX11_worked 135 = .ok (.ifCond .eq 7, 3) := dc_153 (byA eNcX11_worked (p := 135) (v := 153) (by decide +kernel)) (byA eNcX11_worked (p := 136) (v := 0) (by decide +kernel)) (byA eNcX11_worked (p := 137) (v := 7) (by decide +kernel)) (by decide +kernel)
theorem dX11_worked_138 : decode cX11_worked 138 = .ok (.iconst 1, 1) := dc_4 (byA eNcX11_worked (p := 138) (v := 4) (by decide +kernel))
theorem dX11_worked_139 : decode cX11_worked 139 = .ok (.goto 4, 3) := dc_167 (byA eNcX11_worked (p := 139) (v := 167) (by decide +kernel)) (byA eNcX11_worked (p := 140) (v := 0) (by decide +kernel)) (byA eNcX11_worked (p := 141) (v := 4) (by decide +kernel)) (by decide +kernel)
theorem dX11_worked_142 : decode cX11_worked 142 = .ok (.iconst 0, 1) := dc_3 (byA eNcX11_worked (p := 142) (v := 3) (by decide +kernel))
theorem dX11_worked_143 : decode cX11_worked 143 = .ok (.ireturn, 1) := dc_172 (byA eNcX11_worked (p := 143) (v := 172) (by decide +kernel))
theorem dX11_worked_144 : decode cX11_worked 144 = .ok (.lload_n 1, 1) := dc_31 (byA eNcX11_worked (p := 144) (v := 31) (by decide +kernel))
theorem dX11_worked_145 : decode cX11_worked 145 = .ok (.lconst 0, 1) := dc_9 (byA eNcX11_worked (p := 145) (v := 9) (by decide +kernel))
theorem dX11_worked_146 : decode cX11_worked 146 = .ok (.lcmp, 1) := dc_148 (byA eNcX11_worked (p := 146) (v := 148) (by decide +kernel))
theorem dX11_worked_147 : decode cX11_worked 147 = .ok (.ifCond .ne 9, 3) := dc_154 (byA eNcX11_worked (p := 147) (v := 154) (by decide +kernel)) (byA eNcX11_worked (p := 148) (v := 0) (by decide +kernel)) (byA eNcX11_worked (p := 149) (v := 9) (by decide +kernel)) (by decide +kernel)
theorem dX11_worked_150 : decode cX11_worked 150 = .ok (.lload_n 3, 1) := dc_33 (byA eNcX11_worked (p := 150) (v := 33) (by decide +kernel))
theorem dX11_worked_151 : decode cX11_worked 151 = .ok (.lconst 0, 1) := dc_9 (byA eNcX11_worked (p := 151) (v := 9) (by decide +kernel))
theorem dX11_worked_152 : decode cX11_worked 152 = .ok (.lcmp, 1) := dc_148 (byA eNcX11_worked (p := 152) (v := 148) (by decide +kernel))
theorem dX11_worked_153 : decode cX11_worked 153 = .ok (.ifCond .eq 7, 3) := dc_153 (byA eNcX11_worked (p := 153) (v := 153) (by decide +kernel)) (byA eNcX11_worked (p := 154) (v := 0) (by decide +kernel)) (byA eNcX11_worked (p := 155) (v := 7) (by decide +kernel)) (by decide +kernel)
theorem dX11_worked_156 : decode cX11_worked 156 = .ok (.iconst 1, 1) := dc_4 (byA eNcX11_worked (p := 156) (v := 4) (by decide +kernel))
theorem dX11_worked_157 : decode cX11_worked 157 = .ok (.goto 4, 3) := dc_167 (byA eNcX11_worked (p := 157) (v := 167) (by decide +kernel)) (byA eNcX11_worked (p := 158) (v := 0) (by decide +kernel)) (byA eNcX11_worked (p := 159) (v := 4) (by decide +kernel)) (by decide +kernel)
theorem dX11_worked_160 : decode cX11_worked 160 = .ok (.iconst 0, 1) := dc_3 (byA eNcX11_worked (p := 160) (v := 3) (by decide +kernel))
theorem dX11_worked_161 : decode cX11_worked 161 = .ok (.ireturn, 1) := dc_172 (byA eNcX11_worked (p := 161) (v := 172) (by decide +kernel))
def X11_worked (l0 : Int) (l1 : Int) (l3 : Int) (μ : Mm) : Rs := if l0 = 2 then (bd (X11_bounded (lA l1 l3) μ) fun v2 μ3 => some (v2, μ3)) else (if l0 = 3 then (bd (X11_bounded (lS l1 l3) μ) fun v6 μ7 => some (v6, μ7)) else (if l0 = 4 then (bd (X11_bounded (lM l1 l3) μ) fun v10 μ11 => some (v10, μ11)) else (if l0 = 5 then (if (lC l3 0) = 0 then (some (0, μ)) else (dZ l3 (bd (X11_bounded (lD l1 l3) μ) fun v16 μ17 => some (v16, μ17)))) else (if l0 = 6 then (if (lC l1 l3) = 0 then (some (1, μ)) else (some (0, μ))) else (if l0 = 7 then (if 0 ≤ (lC l1 l3) then (some (0, μ)) else (some (1, μ))) else (if l0 = 8 then (if (lC l1 l3) ≤ 0 then (some (0, μ)) else (some (1, μ))) else (if l0 = 9 then (if (lC l1 0) = 0 then (if (lC l3 0) = 0 then (some (0, μ)) else (some (1, μ))) else (some (1, μ))) else (if l0 = 10 then (if (lC l1 0) = 0 then (some (0, μ)) else (if (lC l3 0) = 0 then (some (0, μ)) else (some (1, μ)))) else (if (lC l1 0) = 0 then (if (lC l3 0) = 0 then (some (0, μ)) else (some (1, μ))) else (some (1, μ)))))))))))
set_option maxHeartbeats 4000000 in
set_option maxRecDepth 100000 in
theorem kX11_worked (d : Nat) (hd : 2 ≤ d) {l0 : Int} {l1 : Int} {l3 : Int} {μ : Mm} {r : Int} {μ' : Mm} (h : X11_worked l0 l1 l3 μ = some (r, μ')) : CC d mX11_worked [vI l0, vL l1, vL l3] μ r μ' := by
  unfold X11_worked at h
  refine V_enter (by decide) (Nat.le_of_ble_eq_true rfl) ?_
  show VV d mX11_worked 0 [some (vI l0), some (vL l1), none, some (vL l3), none] [] μ r μ'
  refine V_iload_n (q := 1) dX11_worked_0 rfl rfl rfl ?_
  refine V_ts1 (q := 52) 2 dX11_worked_1 rfl rfl rfl (by decide) (fun hc1 => ?_) (fun hc1 => ?_)
  · have h := ifT hc1 h
    refine V_lload_n (q := 53) dX11_worked_52 rfl rfl rfl ?_
    refine V_lload_n (q := 54) dX11_worked_53 rfl rfl rfl ?_
    refine V_ladd (q := 55) dX11_worked_54 rfl ?_
    obtain ⟨v2, μ3, hc4, h⟩ := bd_i h
    refine V_cS1 (q := 58) (v := vI v2) (kX11_bounded (d - 1) (by omega) hc4) (by omega) mv_X11_201 rfl rfl rfl rfl dX11_worked_55 rfl ?_
    exact V_iret rfl h dX11_worked_58
  · have h := ifF hc1 h
    refine V_ts1 (q := 59) 3 dX11_worked_1 rfl rfl rfl (by decide) (fun hc5 => ?_) (fun hc5 => ?_)
    · have h := ifT hc5 h
      refine V_lload_n (q := 60) dX11_worked_59 rfl rfl rfl ?_
      refine V_lload_n (q := 61) dX11_worked_60 rfl rfl rfl ?_
      refine V_lsub (q := 62) dX11_worked_61 rfl ?_
      obtain ⟨v6, μ7, hc8, h⟩ := bd_i h
      refine V_cS1 (q := 65) (v := vI v6) (kX11_bounded (d - 1) (by omega) hc8) (by omega) mv_X11_201 rfl rfl rfl rfl dX11_worked_62 rfl ?_
      exact V_iret rfl h dX11_worked_65
    · have h := ifF hc5 h
      refine V_ts1 (q := 66) 4 dX11_worked_1 rfl rfl rfl (by decide) (fun hc9 => ?_) (fun hc9 => ?_)
      · have h := ifT hc9 h
        refine V_lload_n (q := 67) dX11_worked_66 rfl rfl rfl ?_
        refine V_lload_n (q := 68) dX11_worked_67 rfl rfl rfl ?_
        refine V_lmul (q := 69) dX11_worked_68 rfl ?_
        obtain ⟨v10, μ11, hc12, h⟩ := bd_i h
        refine V_cS1 (q := 72) (v := vI v10) (kX11_bounded (d - 1) (by omega) hc12) (by omega) mv_X11_201 rfl rfl rfl rfl dX11_worked_69 rfl ?_
        exact V_iret rfl h dX11_worked_72
      · have h := ifF hc9 h
        refine V_ts1 (q := 73) 5 dX11_worked_1 rfl rfl rfl (by decide) (fun hc13 => ?_) (fun hc13 => ?_)
        · have h := ifT hc13 h
          refine V_lload_n (q := 74) dX11_worked_73 rfl rfl rfl ?_
          refine V_lconst (q := 75) dX11_worked_74 rfl ?_
          refine V_lcmp (q := 76) dX11_worked_75 rfl ?_
          refine V_ifne (q := 83) (q2 := 79) dX11_worked_76 (by decide) rfl (fun hc14 => ?_) (fun hc14 => ?_)
          · have h := ifF hc14 h
            refine V_lload_n (q := 84) dX11_worked_83 rfl rfl rfl ?_
            refine V_lload_n (q := 85) dX11_worked_84 rfl rfl rfl ?_
            obtain ⟨hz15, h⟩ := dZ_i h
            refine V_ldiv (q := 86) dX11_worked_85 hz15 rfl ?_
            obtain ⟨v16, μ17, hc18, h⟩ := bd_i h
            refine V_cS1 (q := 89) (v := vI v16) (kX11_bounded (d - 1) (by omega) hc18) (by omega) mv_X11_201 rfl rfl rfl rfl dX11_worked_86 rfl ?_
            exact V_iret rfl h dX11_worked_89
          · have h := ifT hc14 h
            refine V_iconst (q := 80) dX11_worked_79 rfl rfl ?_
            refine V_goto (q := 89) dX11_worked_80 (by decide) ?_
            exact V_iret rfl h dX11_worked_89
        · have h := ifF hc13 h
          refine V_ts1 (q := 90) 6 dX11_worked_1 rfl rfl rfl (by decide) (fun hc19 => ?_) (fun hc19 => ?_)
          · have h := ifT hc19 h
            refine V_lload_n (q := 91) dX11_worked_90 rfl rfl rfl ?_
            refine V_lload_n (q := 92) dX11_worked_91 rfl rfl rfl ?_
            refine V_lcmp (q := 93) dX11_worked_92 rfl ?_
            refine V_ifne (q := 100) (q2 := 96) dX11_worked_93 (by decide) rfl (fun hc20 => ?_) (fun hc20 => ?_)
            · have h := ifF hc20 h
              refine V_iconst (q := 101) dX11_worked_100 rfl rfl ?_
              exact V_iret rfl h dX11_worked_101
            · have h := ifT hc20 h
              refine V_iconst (q := 97) dX11_worked_96 rfl rfl ?_
              refine V_goto (q := 101) dX11_worked_97 (by decide) ?_
              exact V_iret rfl h dX11_worked_101
          · have h := ifF hc19 h
            refine V_ts1 (q := 102) 7 dX11_worked_1 rfl rfl rfl (by decide) (fun hc21 => ?_) (fun hc21 => ?_)
            · have h := ifT hc21 h
              refine V_lload_n (q := 103) dX11_worked_102 rfl rfl rfl ?_
              refine V_lload_n (q := 104) dX11_worked_103 rfl rfl rfl ?_
              refine V_lcmp (q := 105) dX11_worked_104 rfl ?_
              refine V_ifge (q := 112) (q2 := 108) dX11_worked_105 (by decide) rfl (fun hc22 => ?_) (fun hc22 => ?_)
              · have h := ifT hc22 h
                refine V_iconst (q := 113) dX11_worked_112 rfl rfl ?_
                exact V_iret rfl h dX11_worked_113
              · have h := ifF hc22 h
                refine V_iconst (q := 109) dX11_worked_108 rfl rfl ?_
                refine V_goto (q := 113) dX11_worked_109 (by decide) ?_
                exact V_iret rfl h dX11_worked_113
            · have h := ifF hc21 h
              refine V_ts1 (q := 114) 8 dX11_worked_1 rfl rfl rfl (by decide) (fun hc23 => ?_) (fun hc23 => ?_)
              · have h := ifT hc23 h
                refine V_lload_n (q := 115) dX11_worked_114 rfl rfl rfl ?_
                refine V_lload_n (q := 116) dX11_worked_115 rfl rfl rfl ?_
                refine V_lcmp (q := 117) dX11_worked_116 rfl ?_
                refine V_ifle (q := 124) (q2 := 120) dX11_worked_117 (by decide) rfl (fun hc24 => ?_) (fun hc24 => ?_)
                · have h := ifT hc24 h
                  refine V_iconst (q := 125) dX11_worked_124 rfl rfl ?_
                  exact V_iret rfl h dX11_worked_125
                · have h := ifF hc24 h
                  refine V_iconst (q := 121) dX11_worked_120 rfl rfl ?_
                  refine V_goto (q := 125) dX11_worked_121 (by decide) ?_
                  exact V_iret rfl h dX11_worked_125
              · have h := ifF hc23 h
                refine V_ts1 (q := 144) 9 dX11_worked_1 rfl rfl rfl (by decide) (fun hc25 => ?_) (fun hc25 => ?_)
                · have h := ifT hc25 h
                  refine V_lload_n (q := 145) dX11_worked_144 rfl rfl rfl ?_
                  refine V_lconst (q := 146) dX11_worked_145 rfl ?_
                  refine V_lcmp (q := 147) dX11_worked_146 rfl ?_
                  refine V_ifne (q := 156) (q2 := 150) dX11_worked_147 (by decide) rfl (fun hc26 => ?_) (fun hc26 => ?_)
                  · have h := ifF hc26 h
                    refine V_iconst (q := 157) dX11_worked_156 rfl rfl ?_
                    refine V_goto (q := 161) dX11_worked_157 (by decide) ?_
                    exact V_iret rfl h dX11_worked_161
                  · have h := ifT hc26 h
                    refine V_lload_n (q := 151) dX11_worked_150 rfl rfl rfl ?_
                    refine V_lconst (q := 152) dX11_worked_151 rfl ?_
                    refine V_lcmp (q := 153) dX11_worked_152 rfl ?_
                    refine V_ifeq (q := 160) (q2 := 156) dX11_worked_153 (by decide) rfl (fun hc27 => ?_) (fun hc27 => ?_)
                    · have h := ifT hc27 h
                      refine V_iconst (q := 161) dX11_worked_160 rfl rfl ?_
                      exact V_iret rfl h dX11_worked_161
                    · have h := ifF hc27 h
                      refine V_iconst (q := 157) dX11_worked_156 rfl rfl ?_
                      refine V_goto (q := 161) dX11_worked_157 (by decide) ?_
                      exact V_iret rfl h dX11_worked_161
                · have h := ifF hc25 h
                  refine V_ts1 (q := 126) 10 dX11_worked_1 rfl rfl rfl (by decide) (fun hc28 => ?_) (fun hc28 => ?_)
                  · have h := ifT hc28 h
                    refine V_lload_n (q := 127) dX11_worked_126 rfl rfl rfl ?_
                    refine V_lconst (q := 128) dX11_worked_127 rfl ?_
                    refine V_lcmp (q := 129) dX11_worked_128 rfl ?_
                    refine V_ifeq (q := 142) (q2 := 132) dX11_worked_129 (by decide) rfl (fun hc29 => ?_) (fun hc29 => ?_)
                    · have h := ifT hc29 h
                      refine V_iconst (q := 143) dX11_worked_142 rfl rfl ?_
                      exact V_iret rfl h dX11_worked_143
                    · have h := ifF hc29 h
                      refine V_lload_n (q := 133) dX11_worked_132 rfl rfl rfl ?_
                      refine V_lconst (q := 134) dX11_worked_133 rfl ?_
                      refine V_lcmp (q := 135) dX11_worked_134 rfl ?_
                      refine V_ifeq (q := 142) (q2 := 138) dX11_worked_135 (by decide) rfl (fun hc30 => ?_) (fun hc30 => ?_)
                      · have h := ifT hc30 h
                        refine V_iconst (q := 143) dX11_worked_142 rfl rfl ?_
                        exact V_iret rfl h dX11_worked_143
                      · have h := ifF hc30 h
                        refine V_iconst (q := 139) dX11_worked_138 rfl rfl ?_
                        refine V_goto (q := 143) dX11_worked_139 (by decide) ?_
                        exact V_iret rfl h dX11_worked_143
                  · have h := ifF hc28 h
                    refine V_tsOut (q := 144) dX11_worked_1 (by omega) (by decide) ?_
                    refine V_lload_n (q := 145) dX11_worked_144 rfl rfl rfl ?_
                    refine V_lconst (q := 146) dX11_worked_145 rfl ?_
                    refine V_lcmp (q := 147) dX11_worked_146 rfl ?_
                    refine V_ifne (q := 156) (q2 := 150) dX11_worked_147 (by decide) rfl (fun hc31 => ?_) (fun hc31 => ?_)
                    · have h := ifF hc31 h
                      refine V_iconst (q := 157) dX11_worked_156 rfl rfl ?_
                      refine V_goto (q := 161) dX11_worked_157 (by decide) ?_
                      exact V_iret rfl h dX11_worked_161
                    · have h := ifT hc31 h
                      refine V_lload_n (q := 151) dX11_worked_150 rfl rfl rfl ?_
                      refine V_lconst (q := 152) dX11_worked_151 rfl ?_
                      refine V_lcmp (q := 153) dX11_worked_152 rfl ?_
                      refine V_ifeq (q := 160) (q2 := 156) dX11_worked_153 (by decide) rfl (fun hc32 => ?_) (fun hc32 => ?_)
                      · have h := ifT hc32 h
                        refine V_iconst (q := 161) dX11_worked_160 rfl rfl ?_
                        exact V_iret rfl h dX11_worked_161
                      · have h := ifF hc32 h
                        refine V_iconst (q := 157) dX11_worked_156 rfl rfl ?_
                        refine V_goto (q := 161) dX11_worked_157 (by decide) ?_
                        exact V_iret rfl h dX11_worked_161
abbrev mX11_workOut : Mth := (yX11_workOut, cX11_workOut, 6, some .int)
set_option maxRecDepth 100000 in
theorem mi_X11_workOut : Cond.instanceMethod yX11_workOut ∈ tG ∧ Cond.selects yX11_workOut.cls yX11_workOut yX11_workOut ∈ tG ∧ Cond.initialized yX11_workOut.cls ∈ tG ∧ Cond.code yX11_workOut cX11_workOut 6 (some .int) ∈ tG ∧ (yX11_workOut.cls ≠ "java/lang/invoke/MethodHandle" ∧ yX11_workOut.cls ≠ "java/lang/invoke/VarHandle" ∧ (parseMethodDescriptor yX11_workOut.desc).map (fun d => d.parameters.length) = some 3) ∧ 6 ≤ 60 := ⟨(tG_of (tb6 (List.mem_of_getElem? (i := 219) rfl)) (by decide +kernel)), (tG_of (List.mem_of_getElem? (i := 80) (by decide +kernel)) (by decide +kernel)), (tG_of (tb1 (List.mem_of_getElem? (i := 12) rfl)) (by decide +kernel)), (tG_of (tb6 (List.mem_of_getElem? (i := 220) rfl)) (by decide +kernel)), ⟨by decide, by decide, by decide +kernel⟩, by decide⟩
set_option maxRecDepth 100000 in
theorem mv_X11_209 : mV RX11 209 mX11_workOut 3 := ⟨(tG_of (tb6 (List.mem_of_getElem? (i := 217) rfl)) (by decide +kernel)), mi_X11_workOut⟩
theorem dX11_workOut_0 : decode cX11_workOut 0 = .ok (.iconst 0, 1) := dc_3 (byA eNcX11_workOut (p := 0) (v := 3) (by decide +kernel))
theorem dX11_workOut_1 : decode cX11_workOut 1 = .ok (.istore 4, 2) := dc_54 (byA eNcX11_workOut (p := 1) (v := 54) (by decide +kernel)) (byA eNcX11_workOut (p := 2) (v := 4) (by decide +kernel))
theorem dX11_workOut_3 : decode cX11_workOut 3 = .ok (.sipush 340, 3) := dc_17 (byA eNcX11_workOut (p := 3) (v := 17) (by decide +kernel)) (byA eNcX11_workOut (p := 4) (v := 1) (by decide +kernel)) (byA eNcX11_workOut (p := 5) (v := 84) (by decide +kernel)) (by decide +kernel)
theorem dX11_workOut_6 : decode cX11_workOut 6 = .ok (.iload_n 1, 1) := dc_27 (byA eNcX11_workOut (p := 6) (v := 27) (by decide +kernel))
theorem dX11_workOut_7 : decode cX11_workOut 7 = .ok (.imul, 1) := dc_104 (byA eNcX11_workOut (p := 7) (v := 104) (by decide +kernel))
theorem dX11_workOut_8 : decode cX11_workOut 8 = .ok (.iload_n 2, 1) := dc_28 (byA eNcX11_workOut (p := 8) (v := 28) (by decide +kernel))
theorem dX11_workOut_9 : decode cX11_workOut 9 = .ok (.iadd, 1) := dc_96 (byA eNcX11_workOut (p := 9) (v := 96) (by decide +kernel))
theorem dX11_workOut_10 : decode cX11_workOut 10 = .ok (.istore 5, 2) := dc_54 (byA eNcX11_workOut (p := 10) (v := 54) (by decide +kernel)) (byA eNcX11_workOut (p := 11) (v := 5) (by decide +kernel))
theorem dX11_workOut_12 : decode cX11_workOut 12 = .ok (.iload 5, 2) := dc_21 (byA eNcX11_workOut (p := 12) (v := 21) (by decide +kernel)) (byA eNcX11_workOut (p := 13) (v := 5) (by decide +kernel))
theorem dX11_workOut_14 : decode cX11_workOut 14 = .ok (.sipush 340, 3) := dc_17 (byA eNcX11_workOut (p := 14) (v := 17) (by decide +kernel)) (byA eNcX11_workOut (p := 15) (v := 1) (by decide +kernel)) (byA eNcX11_workOut (p := 16) (v := 84) (by decide +kernel)) (by decide +kernel)
theorem dX11_workOut_17 : decode cX11_workOut 17 = .ok (.iload_n 1, 1) := dc_27 (byA eNcX11_workOut (p := 17) (v := 27) (by decide +kernel))
theorem dX11_workOut_18 : decode cX11_workOut 18 = .ok (.imul, 1) := dc_104 (byA eNcX11_workOut (p := 18) (v := 104) (by decide +kernel))
theorem dX11_workOut_19 : decode cX11_workOut 19 = .ok (.iload_n 3, 1) := dc_29 (byA eNcX11_workOut (p := 19) (v := 29) (by decide +kernel))
theorem dX11_workOut_20 : decode cX11_workOut 20 = .ok (.iadd, 1) := dc_96 (byA eNcX11_workOut (p := 20) (v := 96) (by decide +kernel))
theorem dX11_workOut_21 : decode cX11_workOut 21 = .ok (.if_icmp .ge 150, 3) := dc_162 (byA eNcX11_workOut (p := 21) (v := 162) (by decide +kernel)) (byA eNcX11_workOut (p := 22) (v := 0) (by decide +kernel)) (byA eNcX11_workOut (p := 23) (v := 150) (by decide +kernel)) (by decide +kernel)
theorem dX11_workOut_24 : decode cX11_workOut 24 = .ok (.aload_n 0, 1) := dc_42 (byA eNcX11_workOut (p := 24) (v := 42) (by decide +kernel))
theorem dX11_workOut_25 : decode cX11_workOut 25 = .ok (.getfield 13, 3) := dc_180 (byA eNcX11_workOut (p := 25) (v := 180) (by decide +kernel)) (byA eNcX11_workOut (p := 26) (v := 0) (by decide +kernel)) (byA eNcX11_workOut (p := 27) (v := 13) (by decide +kernel)) rfl
theorem dX11_workOut_28 : decode cX11_workOut 28 = .ok (.iload 5, 2) := dc_21 (byA eNcX11_workOut (p := 28) (v := 21) (by decide +kernel)) (byA eNcX11_workOut (p := 29) (v := 5) (by decide +kernel))
theorem dX11_workOut_30 : decode cX11_workOut 30 = .ok (.iaload, 1) := dc_46 (byA eNcX11_workOut (p := 30) (v := 46) (by decide +kernel))
theorem dX11_workOut_31 : decode cX11_workOut 31 = .ok (.ifCond .eq 14, 3) := dc_153 (byA eNcX11_workOut (p := 31) (v := 153) (by decide +kernel)) (byA eNcX11_workOut (p := 32) (v := 0) (by decide +kernel)) (byA eNcX11_workOut (p := 33) (v := 14) (by decide +kernel)) (by decide +kernel)
theorem dX11_workOut_34 : decode cX11_workOut 34 = .ok (.aload_n 0, 1) := dc_42 (byA eNcX11_workOut (p := 34) (v := 42) (by decide +kernel))
theorem dX11_workOut_35 : decode cX11_workOut 35 = .ok (.getfield 13, 3) := dc_180 (byA eNcX11_workOut (p := 35) (v := 180) (by decide +kernel)) (byA eNcX11_workOut (p := 36) (v := 0) (by decide +kernel)) (byA eNcX11_workOut (p := 37) (v := 13) (by decide +kernel)) rfl
theorem dX11_workOut_38 : decode cX11_workOut 38 = .ok (.iload 5, 2) := dc_21 (byA eNcX11_workOut (p := 38) (v := 21) (by decide +kernel)) (byA eNcX11_workOut (p := 39) (v := 5) (by decide +kernel))
theorem dX11_workOut_40 : decode cX11_workOut 40 = .ok (.iaload, 1) := dc_46 (byA eNcX11_workOut (p := 40) (v := 46) (by decide +kernel))
theorem dX11_workOut_41 : decode cX11_workOut 41 = .ok (.iconst 1, 1) := dc_4 (byA eNcX11_workOut (p := 41) (v := 4) (by decide +kernel))
theorem dX11_workOut_42 : decode cX11_workOut 42 = .ok (.if_icmp .ne 48, 3) := dc_160 (byA eNcX11_workOut (p := 42) (v := 160) (by decide +kernel)) (byA eNcX11_workOut (p := 43) (v := 0) (by decide +kernel)) (byA eNcX11_workOut (p := 44) (v := 48) (by decide +kernel)) (by decide +kernel)
theorem dX11_workOut_45 : decode cX11_workOut 45 = .ok (.aload_n 0, 1) := dc_42 (byA eNcX11_workOut (p := 45) (v := 42) (by decide +kernel))
theorem dX11_workOut_46 : decode cX11_workOut 46 = .ok (.getfield 37, 3) := dc_180 (byA eNcX11_workOut (p := 46) (v := 180) (by decide +kernel)) (byA eNcX11_workOut (p := 47) (v := 0) (by decide +kernel)) (byA eNcX11_workOut (p := 48) (v := 37) (by decide +kernel)) rfl
theorem dX11_workOut_49 : decode cX11_workOut 49 = .ok (.iload 4, 2) := dc_21 (byA eNcX11_workOut (p := 49) (v := 21) (by decide +kernel)) (byA eNcX11_workOut (p := 50) (v := 4) (by decide +kernel))
theorem dX11_workOut_51 : decode cX11_workOut 51 = .ok (.aload_n 0, 1) := dc_42 (byA eNcX11_workOut (p := 51) (v := 42) (by decide +kernel))
theorem dX11_workOut_52 : decode cX11_workOut 52 = .ok (.getfield 13, 3) := dc_180 (byA eNcX11_workOut (p := 52) (v := 180) (by decide +kernel)) (byA eNcX11_workOut (p := 53) (v := 0) (by decide +kernel)) (byA eNcX11_workOut (p := 54) (v := 13) (by decide +kernel)) rfl
theorem dX11_workOut_55 : decode cX11_workOut 55 = .ok (.iload 5, 2) := dc_21 (byA eNcX11_workOut (p := 55) (v := 21) (by decide +kernel)) (byA eNcX11_workOut (p := 56) (v := 5) (by decide +kernel))
theorem dX11_workOut_57 : decode cX11_workOut 57 = .ok (.iaload, 1) := dc_46 (byA eNcX11_workOut (p := 57) (v := 46) (by decide +kernel))
theorem dX11_workOut_58 : decode cX11_workOut 58 = .ok (.ifCond .ne 13, 3) := dc_154 (byA eNcX11_workOut (p := 58) (v := 154) (by decide +kernel)) (byA eNcX11_workOut (p := 59) (v := 0) (by decide +kernel)) (byA eNcX11_workOut (p := 60) (v := 13) (by decide +kernel)) (by decide +kernel)
theorem dX11_workOut_61 : decode cX11_workOut 61 = .ok (.aload_n 0, 1) := dc_42 (byA eNcX11_workOut (p := 61) (v := 42) (by decide +kernel))
theorem dX11_workOut_62 : decode cX11_workOut 62 = .ok (.getfield 16, 3) := dc_180 (byA eNcX11_workOut (p := 62) (v := 180) (by decide +kernel)) (byA eNcX11_workOut (p := 63) (v := 0) (by decide +kernel)) (byA eNcX11_workOut (p := 64) (v := 16) (by decide +kernel)) rfl
theorem dX11_workOut_65 : decode cX11_workOut 65 = .ok (.iload 5, 2) := dc_21 (byA eNcX11_workOut (p := 65) (v := 21) (by decide +kernel)) (byA eNcX11_workOut (p := 66) (v := 5) (by decide +kernel))
theorem dX11_workOut_67 : decode cX11_workOut 67 = .ok (.iaload, 1) := dc_46 (byA eNcX11_workOut (p := 67) (v := 46) (by decide +kernel))
theorem dX11_workOut_68 : decode cX11_workOut 68 = .ok (.goto 15, 3) := dc_167 (byA eNcX11_workOut (p := 68) (v := 167) (by decide +kernel)) (byA eNcX11_workOut (p := 69) (v := 0) (by decide +kernel)) (byA eNcX11_workOut (p := 70) (v := 15) (by decide +kernel)) (by decide +kernel)
theorem dX11_workOut_71 : decode cX11_workOut 71 = .ok (.aload_n 0, 1) := dc_42 (byA eNcX11_workOut (p := 71) (v := 42) (by decide +kernel))
theorem dX11_workOut_72 : decode cX11_workOut 72 = .ok (.getfield 34, 3) := dc_180 (byA eNcX11_workOut (p := 72) (v := 180) (by decide +kernel)) (byA eNcX11_workOut (p := 73) (v := 0) (by decide +kernel)) (byA eNcX11_workOut (p := 74) (v := 34) (by decide +kernel)) rfl
theorem dX11_workOut_75 : decode cX11_workOut 75 = .ok (.aload_n 0, 1) := dc_42 (byA eNcX11_workOut (p := 75) (v := 42) (by decide +kernel))
theorem dX11_workOut_76 : decode cX11_workOut 76 = .ok (.getfield 16, 3) := dc_180 (byA eNcX11_workOut (p := 76) (v := 180) (by decide +kernel)) (byA eNcX11_workOut (p := 77) (v := 0) (by decide +kernel)) (byA eNcX11_workOut (p := 78) (v := 16) (by decide +kernel)) rfl
theorem dX11_workOut_79 : decode cX11_workOut 79 = .ok (.iload 5, 2) := dc_21 (byA eNcX11_workOut (p := 79) (v := 21) (by decide +kernel)) (byA eNcX11_workOut (p := 80) (v := 5) (by decide +kernel))
theorem dX11_workOut_81 : decode cX11_workOut 81 = .ok (.iaload, 1) := dc_46 (byA eNcX11_workOut (p := 81) (v := 46) (by decide +kernel))
theorem dX11_workOut_82 : decode cX11_workOut 82 = .ok (.iaload, 1) := dc_46 (byA eNcX11_workOut (p := 82) (v := 46) (by decide +kernel))
theorem dX11_workOut_83 : decode cX11_workOut 83 = .ok (.iastore, 1) := dc_79 (byA eNcX11_workOut (p := 83) (v := 79) (by decide +kernel))
theorem dX11_workOut_84 : decode cX11_workOut 84 = .ok (.iinc 4 1, 3) := dc_132 (byA eNcX11_workOut (p := 84) (v := 132) (by decide +kernel)) (byA eNcX11_workOut (p := 85) (v := 4) (by decide +kernel)) (byA eNcX11_workOut (p := 86) (v := 1) (by decide +kernel)) (by decide +kernel)
theorem dX11_workOut_87 : decode cX11_workOut 87 = .ok (.goto 78, 3) := dc_167 (byA eNcX11_workOut (p := 87) (v := 167) (by decide +kernel)) (byA eNcX11_workOut (p := 88) (v := 0) (by decide +kernel)) (byA eNcX11_workOut (p := 89) (v := 78) (by decide +kernel)) (by decide +kernel)
theorem dX11_workOut_90 : decode cX11_workOut 90 = .ok (.aload_n 0, 1) := dc_42 (byA eNcX11_workOut (p := 90) (v := 42) (by decide +kernel))
theorem dX11_workOut_91 : decode cX11_workOut 91 = .ok (.getfield 13, 3) := dc_180 (byA eNcX11_workOut (p := 91) (v := 180) (by decide +kernel)) (byA eNcX11_workOut (p := 92) (v := 0) (by decide +kernel)) (byA eNcX11_workOut (p := 93) (v := 13) (by decide +kernel)) rfl
theorem dX11_workOut_94 : decode cX11_workOut 94 = .ok (.iload 5, 2) := dc_21 (byA eNcX11_workOut (p := 94) (v := 21) (by decide +kernel)) (byA eNcX11_workOut (p := 95) (v := 5) (by decide +kernel))
theorem dX11_workOut_96 : decode cX11_workOut 96 = .ok (.iaload, 1) := dc_46 (byA eNcX11_workOut (p := 96) (v := 46) (by decide +kernel))
theorem dX11_workOut_97 : decode cX11_workOut 97 = .ok (.bipush 9, 2) := dc_16 (byA eNcX11_workOut (p := 97) (v := 16) (by decide +kernel)) (byA eNcX11_workOut (p := 98) (v := 9) (by decide +kernel)) (by decide +kernel)
theorem dX11_workOut_99 : decode cX11_workOut 99 = .ok (.if_icmp .ne 26, 3) := dc_160 (byA eNcX11_workOut (p := 99) (v := 160) (by decide +kernel)) (byA eNcX11_workOut (p := 100) (v := 0) (by decide +kernel)) (byA eNcX11_workOut (p := 101) (v := 26) (by decide +kernel)) (by decide +kernel)
theorem dX11_workOut_102 : decode cX11_workOut 102 = .ok (.aload_n 0, 1) := dc_42 (byA eNcX11_workOut (p := 102) (v := 42) (by decide +kernel))
theorem dX11_workOut_103 : decode cX11_workOut 103 = .ok (.getfield 37, 3) := dc_180 (byA eNcX11_workOut (p := 103) (v := 180) (by decide +kernel)) (byA eNcX11_workOut (p := 104) (v := 0) (by decide +kernel)) (byA eNcX11_workOut (p := 105) (v := 37) (by decide +kernel)) rfl
theorem dX11_workOut_106 : decode cX11_workOut 106 = .ok (.iload 4, 2) := dc_21 (byA eNcX11_workOut (p := 106) (v := 21) (by decide +kernel)) (byA eNcX11_workOut (p := 107) (v := 4) (by decide +kernel))
theorem dX11_workOut_108 : decode cX11_workOut 108 = .ok (.iconst 1, 1) := dc_4 (byA eNcX11_workOut (p := 108) (v := 4) (by decide +kernel))
theorem dX11_workOut_109 : decode cX11_workOut 109 = .ok (.isub, 1) := dc_100 (byA eNcX11_workOut (p := 109) (v := 100) (by decide +kernel))
theorem dX11_workOut_110 : decode cX11_workOut 110 = .ok (.iconst 1, 1) := dc_4 (byA eNcX11_workOut (p := 110) (v := 4) (by decide +kernel))
theorem dX11_workOut_111 : decode cX11_workOut 111 = .ok (.aload_n 0, 1) := dc_42 (byA eNcX11_workOut (p := 111) (v := 42) (by decide +kernel))
theorem dX11_workOut_112 : decode cX11_workOut 112 = .ok (.getfield 37, 3) := dc_180 (byA eNcX11_workOut (p := 112) (v := 180) (by decide +kernel)) (byA eNcX11_workOut (p := 113) (v := 0) (by decide +kernel)) (byA eNcX11_workOut (p := 114) (v := 37) (by decide +kernel)) rfl
theorem dX11_workOut_115 : decode cX11_workOut 115 = .ok (.iload 4, 2) := dc_21 (byA eNcX11_workOut (p := 115) (v := 21) (by decide +kernel)) (byA eNcX11_workOut (p := 116) (v := 4) (by decide +kernel))
theorem dX11_workOut_117 : decode cX11_workOut 117 = .ok (.iconst 1, 1) := dc_4 (byA eNcX11_workOut (p := 117) (v := 4) (by decide +kernel))
theorem dX11_workOut_118 : decode cX11_workOut 118 = .ok (.isub, 1) := dc_100 (byA eNcX11_workOut (p := 118) (v := 100) (by decide +kernel))
theorem dX11_workOut_119 : decode cX11_workOut 119 = .ok (.iaload, 1) := dc_46 (byA eNcX11_workOut (p := 119) (v := 46) (by decide +kernel))
theorem dX11_workOut_120 : decode cX11_workOut 120 = .ok (.isub, 1) := dc_100 (byA eNcX11_workOut (p := 120) (v := 100) (by decide +kernel))
theorem dX11_workOut_121 : decode cX11_workOut 121 = .ok (.iastore, 1) := dc_79 (byA eNcX11_workOut (p := 121) (v := 79) (by decide +kernel))
theorem dX11_workOut_122 : decode cX11_workOut 122 = .ok (.goto 43, 3) := dc_167 (byA eNcX11_workOut (p := 122) (v := 167) (by decide +kernel)) (byA eNcX11_workOut (p := 123) (v := 0) (by decide +kernel)) (byA eNcX11_workOut (p := 124) (v := 43) (by decide +kernel)) (by decide +kernel)
theorem dX11_workOut_125 : decode cX11_workOut 125 = .ok (.iinc 4 (-1), 3) := dc_132 (byA eNcX11_workOut (p := 125) (v := 132) (by decide +kernel)) (byA eNcX11_workOut (p := 126) (v := 4) (by decide +kernel)) (byA eNcX11_workOut (p := 127) (v := 255) (by decide +kernel)) (by decide +kernel)
theorem dX11_workOut_128 : decode cX11_workOut 128 = .ok (.aload_n 0, 1) := dc_42 (byA eNcX11_workOut (p := 128) (v := 42) (by decide +kernel))
theorem dX11_workOut_129 : decode cX11_workOut 129 = .ok (.getfield 37, 3) := dc_180 (byA eNcX11_workOut (p := 129) (v := 180) (by decide +kernel)) (byA eNcX11_workOut (p := 130) (v := 0) (by decide +kernel)) (byA eNcX11_workOut (p := 131) (v := 37) (by decide +kernel)) rfl
theorem dX11_workOut_132 : decode cX11_workOut 132 = .ok (.iload 4, 2) := dc_21 (byA eNcX11_workOut (p := 132) (v := 21) (by decide +kernel)) (byA eNcX11_workOut (p := 133) (v := 4) (by decide +kernel))
theorem dX11_workOut_134 : decode cX11_workOut 134 = .ok (.iconst 1, 1) := dc_4 (byA eNcX11_workOut (p := 134) (v := 4) (by decide +kernel))
theorem dX11_workOut_135 : decode cX11_workOut 135 = .ok (.isub, 1) := dc_100 (byA eNcX11_workOut (p := 135) (v := 100) (by decide +kernel))
theorem dX11_workOut_136 : decode cX11_workOut 136 = .ok (.aload_n 0, 1) := dc_42 (byA eNcX11_workOut (p := 136) (v := 42) (by decide +kernel))
theorem dX11_workOut_137 : decode cX11_workOut 137 = .ok (.getfield 13, 3) := dc_180 (byA eNcX11_workOut (p := 137) (v := 180) (by decide +kernel)) (byA eNcX11_workOut (p := 138) (v := 0) (by decide +kernel)) (byA eNcX11_workOut (p := 139) (v := 13) (by decide +kernel)) rfl
theorem dX11_workOut_140 : decode cX11_workOut 140 = .ok (.iload 5, 2) := dc_21 (byA eNcX11_workOut (p := 140) (v := 21) (by decide +kernel)) (byA eNcX11_workOut (p := 141) (v := 5) (by decide +kernel))
theorem dX11_workOut_142 : decode cX11_workOut 142 = .ok (.iaload, 1) := dc_46 (byA eNcX11_workOut (p := 142) (v := 46) (by decide +kernel))
theorem dX11_workOut_143 : decode cX11_workOut 143 = .ok (.aload_n 0, 1) := dc_42 (byA eNcX11_workOut (p := 143) (v := 42) (by decide +kernel))
theorem dX11_workOut_144 : decode cX11_workOut 144 = .ok (.getfield 37, 3) := dc_180 (byA eNcX11_workOut (p := 144) (v := 180) (by decide +kernel)) (byA eNcX11_workOut (p := 145) (v := 0) (by decide +kernel)) (byA eNcX11_workOut (p := 146) (v := 37) (by decide +kernel)) rfl
theorem dX11_workOut_147 : decode cX11_workOut 147 = .ok (.iload 4, 2) := dc_21 (byA eNcX11_workOut (p := 147) (v := 21) (by decide +kernel)) (byA eNcX11_workOut (p := 148) (v := 4) (by decide +kernel))
theorem dX11_workOut_149 : decode cX11_workOut 149 = .ok (.iconst 1, 1) := dc_4 (byA eNcX11_workOut (p := 149) (v := 4) (by decide +kernel))
theorem dX11_workOut_150 : decode cX11_workOut 150 = .ok (.isub, 1) := dc_100 (byA eNcX11_workOut (p := 150) (v := 100) (by decide +kernel))
theorem dX11_workOut_151 : decode cX11_workOut 151 = .ok (.iaload, 1) := dc_46 (byA eNcX11_workOut (p := 151) (v := 46) (by decide +kernel))
theorem dX11_workOut_152 : decode cX11_workOut 152 = .ok (.i2l, 1) := dc_133 (byA eNcX11_workOut (p := 152) (v := 133) (by decide +kernel))
theorem dX11_workOut_153 : decode cX11_workOut 153 = .ok (.aload_n 0, 1) := dc_42 (byA eNcX11_workOut (p := 153) (v := 42) (by decide +kernel))
theorem dX11_workOut_154 : decode cX11_workOut 154 = .ok (.getfield 37, 3) := dc_180 (byA eNcX11_workOut (p := 154) (v := 180) (by decide +kernel)) (byA eNcX11_workOut (p := 155) (v := 0) (by decide +kernel)) (byA eNcX11_workOut (p := 156) (v := 37) (by decide +kernel)) rfl
theorem dX11_workOut_157 : decode cX11_workOut 157 = .ok (.iload 4, 2) := dc_21 (byA eNcX11_workOut (p := 157) (v := 21) (by decide +kernel)) (byA eNcX11_workOut (p := 158) (v := 4) (by decide +kernel))
theorem dX11_workOut_159 : decode cX11_workOut 159 = .ok (.iaload, 1) := dc_46 (byA eNcX11_workOut (p := 159) (v := 46) (by decide +kernel))
theorem dX11_workOut_160 : decode cX11_workOut 160 = .ok (.i2l, 1) := dc_133 (byA eNcX11_workOut (p := 160) (v := 133) (by decide +kernel))
theorem dX11_workOut_161 : decode cX11_workOut 161 = .ok (.invokestatic 205, 3) := dc_184 (byA eNcX11_workOut (p := 161) (v := 184) (by decide +kernel)) (byA eNcX11_workOut (p := 162) (v := 0) (by decide +kernel)) (byA eNcX11_workOut (p := 163) (v := 205) (by decide +kernel)) rfl
theorem dX11_workOut_164 : decode cX11_workOut 164 = .ok (.iastore, 1) := dc_79 (byA eNcX11_workOut (p := 164) (v := 79) (by decide +kernel))
theorem dX11_workOut_165 : decode cX11_workOut 165 = .ok (.iinc 5 1, 3) := dc_132 (byA eNcX11_workOut (p := 165) (v := 132) (by decide +kernel)) (byA eNcX11_workOut (p := 166) (v := 5) (by decide +kernel)) (byA eNcX11_workOut (p := 167) (v := 1) (by decide +kernel)) (by decide +kernel)
theorem dX11_workOut_168 : decode cX11_workOut 168 = .ok (.goto (-156), 3) := dc_167 (byA eNcX11_workOut (p := 168) (v := 167) (by decide +kernel)) (byA eNcX11_workOut (p := 169) (v := 255) (by decide +kernel)) (byA eNcX11_workOut (p := 170) (v := 100) (by decide +kernel)) (by decide +kernel)
theorem dX11_workOut_171 : decode cX11_workOut 171 = .ok (.aload_n 0, 1) := dc_42 (byA eNcX11_workOut (p := 171) (v := 42) (by decide +kernel))
theorem dX11_workOut_172 : decode cX11_workOut 172 = .ok (.getfield 37, 3) := dc_180 (byA eNcX11_workOut (p := 172) (v := 180) (by decide +kernel)) (byA eNcX11_workOut (p := 173) (v := 0) (by decide +kernel)) (byA eNcX11_workOut (p := 174) (v := 37) (by decide +kernel)) rfl
theorem dX11_workOut_175 : decode cX11_workOut 175 = .ok (.iconst 0, 1) := dc_3 (byA eNcX11_workOut (p := 175) (v := 3) (by decide +kernel))
theorem dX11_workOut_176 : decode cX11_workOut 176 = .ok (.iaload, 1) := dc_46 (byA eNcX11_workOut (p := 176) (v := 46) (by decide +kernel))
theorem dX11_workOut_177 : decode cX11_workOut 177 = .ok (.ireturn, 1) := dc_172 (byA eNcX11_workOut (p := 177) (v := 172) (by decide +kernel))
def X11_workOut_J45 (k12 : Int → Int → Mm → Rs) (l1 : Int) (l3 : Int) (l4 : Int) (l5 : Int) (μ : Mm) : Rs := ldA μ 72 l5 fun v8 => if v8 = 0 then (ldA μ 73 l5 fun v17 => stA μ 80 l4 v17 fun μ19 => k12 (iA l4 1) (iA l5 1) μ19) else (ldA μ 73 l5 fun v11 => ldA μ 79 v11 fun v13 => stA μ 80 l4 v13 fun μ15 => k12 (iA l4 1) (iA l5 1) μ15)
def X11_workOut_L12 (l1 : Int) (l3 : Int) : Nat → Int → Int → Mm → Rs
  | 0, _, _, _ => none
  | n + 1, l4, l5, μ => if (iA (iM 340 l1) l3) ≤ l5 then (ldA μ 80 0 fun v3 => some (v3, μ)) else (ldA μ 72 l5 fun v5 => if v5 = 0 then (X11_workOut_J45 (fun w4 w5 μq => X11_workOut_L12 l1 l3 n w4 w5 μq) l1 l3 l4 l5 μ) else (ldA μ 72 l5 fun v21 => if v21 = 1 then (X11_workOut_J45 (fun w4 w5 μq => X11_workOut_L12 l1 l3 n w4 w5 μq) l1 l3 l4 l5 μ) else (ldA μ 72 l5 fun v24 => if v24 = 9 then (ldA μ 80 (iS l4 1) fun v38 => stA μ 80 (iS l4 1) (iS 1 v38) fun μ40 => X11_workOut_L12 l1 l3 n l4 (iA l5 1) μ40) else (ldA μ 72 l5 fun v27 => ldA μ 80 (iS (iA l4 (-1)) 1) fun v29 => ldA μ 80 (iA l4 (-1)) fun v31 => bd (X11_worked v27 v29 v31 μ) fun v33 μ34 => stA μ34 80 (iS (iA l4 (-1)) 1) v33 fun μ36 => X11_workOut_L12 l1 l3 n (iA l4 (-1)) (iA l5 1) μ36))))
def X11_workOut (l1 : Int) (l2 : Int) (l3 : Int) (μ : Mm) : Rs := lt_ (iA (iM 340 l1) l2) fun v1 => X11_workOut_L12 l1 l3 FU 0 v1 μ
set_option maxHeartbeats 4000000 in
set_option maxRecDepth 100000 in
theorem kX11_workOut_J45 (d : Nat) (hd : 3 ≤ d) {k12 : Int → Int → Mm → Rs} {l1 : Int} {l3 : Int} {l4 : Int} {l5 : Int} {μ : Mm} {r : Int} {μ' : Mm} (hk_12 : ∀ (v4 v5 : Int) (μ1 : Mm), k12 v4 v5 μ1 = some (r, μ') → VV d mX11_workOut 12 [some (vR 70), some (vI l1), none, some (vI l3), some (vI v4), some (vI v5)] [] μ1 r μ') (h : X11_workOut_J45 k12 l1 l3 l4 l5 μ = some (r, μ')) : VV d mX11_workOut 45 [some (vR 70), some (vI l1), none, some (vI l3), some (vI l4), some (vI l5)] [] μ r μ' := by
  unfold X11_workOut_J45 at h
  refine V_aload_n (q := 46) dX11_workOut_45 rfl rfl rfl ?_
  refine V_getO (q := 49) (t := 80) fl_X11_37 rfl rfl rfl rfl dX11_workOut_46 rfl ?_
  refine V_iload (q := 51) dX11_workOut_49 rfl rfl ?_
  refine V_aload_n (q := 52) dX11_workOut_51 rfl rfl rfl ?_
  refine V_getO (q := 55) (t := 72) fl_X11_13 rfl rfl rfl rfl dX11_workOut_52 rfl ?_
  refine V_iload (q := 57) dX11_workOut_55 rfl rfl ?_
  obtain ⟨hi9, h⟩ := ldA_i h
  refine V_iaload (q := 58) rfl hi9 dX11_workOut_57 rfl ?_
  refine V_ifne (q := 71) (q2 := 61) dX11_workOut_58 (by decide) rfl (fun hc10 => ?_) (fun hc10 => ?_)
  · have h := ifF hc10 h
    refine V_aload_n (q := 72) dX11_workOut_71 rfl rfl rfl ?_
    refine V_getO (q := 75) (t := 79) fl_X11_34 rfl rfl rfl rfl dX11_workOut_72 rfl ?_
    refine V_aload_n (q := 76) dX11_workOut_75 rfl rfl rfl ?_
    refine V_getO (q := 79) (t := 73) fl_X11_16 rfl rfl rfl rfl dX11_workOut_76 rfl ?_
    refine V_iload (q := 81) dX11_workOut_79 rfl rfl ?_
    obtain ⟨hi12, h⟩ := ldA_i h
    refine V_iaload (q := 82) rfl hi12 dX11_workOut_81 rfl ?_
    obtain ⟨hi14, h⟩ := ldA_i h
    refine V_iaload (q := 83) rfl hi14 dX11_workOut_82 rfl ?_
    obtain ⟨hi16, h⟩ := stA_i h
    refine V_iastore (q := 84) rfl hi16 dX11_workOut_83 rfl ?_
    refine V_iinc (q := 87) dX11_workOut_84 rfl (Nat.le_of_ble_eq_true rfl) trivial rfl ?_
    refine V_goto (q := 165) dX11_workOut_87 (by decide) ?_
    refine V_iinc (q := 168) dX11_workOut_165 rfl (Nat.le_of_ble_eq_true rfl) trivial rfl ?_
    refine V_goto (q := 12) dX11_workOut_168 (by decide) ?_
    exact V_weak (hk_12 _ _ _ h) (sb_s rfl (sb_s rfl (sb_n (sb_s rfl (sb_s rfl (sb_s rfl sb_0))))))
  · have h := ifT hc10 h
    refine V_aload_n (q := 62) dX11_workOut_61 rfl rfl rfl ?_
    refine V_getO (q := 65) (t := 73) fl_X11_16 rfl rfl rfl rfl dX11_workOut_62 rfl ?_
    refine V_iload (q := 67) dX11_workOut_65 rfl rfl ?_
    obtain ⟨hi18, h⟩ := ldA_i h
    refine V_iaload (q := 68) rfl hi18 dX11_workOut_67 rfl ?_
    refine V_goto (q := 83) dX11_workOut_68 (by decide) ?_
    obtain ⟨hi20, h⟩ := stA_i h
    refine V_iastore (q := 84) rfl hi20 dX11_workOut_83 rfl ?_
    refine V_iinc (q := 87) dX11_workOut_84 rfl (Nat.le_of_ble_eq_true rfl) trivial rfl ?_
    refine V_goto (q := 165) dX11_workOut_87 (by decide) ?_
    refine V_iinc (q := 168) dX11_workOut_165 rfl (Nat.le_of_ble_eq_true rfl) trivial rfl ?_
    refine V_goto (q := 12) dX11_workOut_168 (by decide) ?_
    exact V_weak (hk_12 _ _ _ h) (sb_s rfl (sb_s rfl (sb_n (sb_s rfl (sb_s rfl (sb_s rfl sb_0))))))
set_option maxHeartbeats 4000000 in
set_option maxRecDepth 100000 in
theorem kX11_workOut_L12 (d : Nat) (hd : 3 ≤ d) {l1 : Int} {l3 : Int} {r : Int} {μ' : Mm} : ∀ (n : Nat) {l4 l5 : Int} {μ : Mm}, X11_workOut_L12 l1 l3 n l4 l5 μ = some (r, μ') → VV d mX11_workOut 12 [some (vR 70), some (vI l1), none, some (vI l3), some (vI l4), some (vI l5)] [] μ r μ' := by
  intro n
  induction n with
  | zero => intro l4 l5 μ h; rw [X11_workOut_L12] at h; cases h
  | succ n ih =>
    intro l4 l5 μ h
    rw [X11_workOut_L12] at h
    refine V_iload (q := 14) dX11_workOut_12 rfl rfl ?_
    refine V_sipush (q := 17) dX11_workOut_14 rfl rfl rfl ?_
    refine V_iload_n (q := 18) dX11_workOut_17 rfl rfl rfl ?_
    refine V_imul (q := 19) dX11_workOut_18 rfl ?_
    refine V_iload_n (q := 20) dX11_workOut_19 rfl rfl rfl ?_
    refine V_iadd (q := 21) dX11_workOut_20 rfl ?_
    refine V_icmpge (q := 171) (q2 := 24) dX11_workOut_21 (by decide) rfl (fun hc2 => ?_) (fun hc2 => ?_)
    · have h := ifT hc2 h
      refine V_aload_n (q := 172) dX11_workOut_171 rfl rfl rfl ?_
      refine V_getO (q := 175) (t := 80) fl_X11_37 rfl rfl rfl rfl dX11_workOut_172 rfl ?_
      refine V_iconst (q := 176) dX11_workOut_175 rfl rfl ?_
      obtain ⟨hi4, h⟩ := ldA_i h
      refine V_iaload (q := 177) rfl hi4 dX11_workOut_176 rfl ?_
      exact V_iret rfl h dX11_workOut_177
    · have h := ifF hc2 h
      refine V_aload_n (q := 25) dX11_workOut_24 rfl rfl rfl ?_
      refine V_getO (q := 28) (t := 72) fl_X11_13 rfl rfl rfl rfl dX11_workOut_25 rfl ?_
      refine V_iload (q := 30) dX11_workOut_28 rfl rfl ?_
      obtain ⟨hi6, h⟩ := ldA_i h
      refine V_iaload (q := 31) rfl hi6 dX11_workOut_30 rfl ?_
      refine V_ifeq (q := 45) (q2 := 34) dX11_workOut_31 (by decide) rfl (fun hc7 => ?_) (fun hc7 => ?_)
      · have h := ifT hc7 h
        exact V_weak (kX11_workOut_J45 d hd (fun _ _ _ h => ih h) h) (sb_s rfl (sb_s rfl (sb_n (sb_s rfl (sb_s rfl (sb_s rfl sb_0))))))
      · have h := ifF hc7 h
        refine V_aload_n (q := 35) dX11_workOut_34 rfl rfl rfl ?_
        refine V_getO (q := 38) (t := 72) fl_X11_13 rfl rfl rfl rfl dX11_workOut_35 rfl ?_
        refine V_iload (q := 40) dX11_workOut_38 rfl rfl ?_
        obtain ⟨hi22, h⟩ := ldA_i h
        refine V_iaload (q := 41) rfl hi22 dX11_workOut_40 rfl ?_
        refine V_iconst (q := 42) dX11_workOut_41 rfl rfl ?_
        refine V_icmpne (q := 90) (q2 := 45) dX11_workOut_42 (by decide) rfl (fun hc23 => ?_) (fun hc23 => ?_)
        · have h := ifF hc23 h
          refine V_aload_n (q := 91) dX11_workOut_90 rfl rfl rfl ?_
          refine V_getO (q := 94) (t := 72) fl_X11_13 rfl rfl rfl rfl dX11_workOut_91 rfl ?_
          refine V_iload (q := 96) dX11_workOut_94 rfl rfl ?_
          obtain ⟨hi25, h⟩ := ldA_i h
          refine V_iaload (q := 97) rfl hi25 dX11_workOut_96 rfl ?_
          refine V_bipush (q := 99) dX11_workOut_97 rfl rfl rfl ?_
          refine V_icmpne (q := 125) (q2 := 102) dX11_workOut_99 (by decide) rfl (fun hc26 => ?_) (fun hc26 => ?_)
          · have h := ifF hc26 h
            refine V_iinc (q := 128) dX11_workOut_125 rfl (Nat.le_of_ble_eq_true rfl) trivial rfl ?_
            refine V_aload_n (q := 129) dX11_workOut_128 rfl rfl rfl ?_
            refine V_getO (q := 132) (t := 80) fl_X11_37 rfl rfl rfl rfl dX11_workOut_129 rfl ?_
            refine V_iload (q := 134) dX11_workOut_132 rfl rfl ?_
            refine V_iconst (q := 135) dX11_workOut_134 rfl rfl ?_
            refine V_isub (q := 136) dX11_workOut_135 rfl ?_
            refine V_aload_n (q := 137) dX11_workOut_136 rfl rfl rfl ?_
            refine V_getO (q := 140) (t := 72) fl_X11_13 rfl rfl rfl rfl dX11_workOut_137 rfl ?_
            refine V_iload (q := 142) dX11_workOut_140 rfl rfl ?_
            obtain ⟨hi28, h⟩ := ldA_i h
            refine V_iaload (q := 143) rfl hi28 dX11_workOut_142 rfl ?_
            refine V_aload_n (q := 144) dX11_workOut_143 rfl rfl rfl ?_
            refine V_getO (q := 147) (t := 80) fl_X11_37 rfl rfl rfl rfl dX11_workOut_144 rfl ?_
            refine V_iload (q := 149) dX11_workOut_147 rfl rfl ?_
            refine V_iconst (q := 150) dX11_workOut_149 rfl rfl ?_
            refine V_isub (q := 151) dX11_workOut_150 rfl ?_
            obtain ⟨hi30, h⟩ := ldA_i h
            refine V_iaload (q := 152) rfl hi30 dX11_workOut_151 rfl ?_
            refine V_i2l (q := 153) dX11_workOut_152 rfl ?_
            refine V_aload_n (q := 154) dX11_workOut_153 rfl rfl rfl ?_
            refine V_getO (q := 157) (t := 80) fl_X11_37 rfl rfl rfl rfl dX11_workOut_154 rfl ?_
            refine V_iload (q := 159) dX11_workOut_157 rfl rfl ?_
            obtain ⟨hi32, h⟩ := ldA_i h
            refine V_iaload (q := 160) rfl hi32 dX11_workOut_159 rfl ?_
            refine V_i2l (q := 161) dX11_workOut_160 rfl ?_
            obtain ⟨v33, μ34, hc35, h⟩ := bd_i h
            refine V_cS1 (q := 164) (v := vI v33) (kX11_worked (d - 1) (by omega) hc35) (by omega) mv_X11_205 rfl rfl rfl rfl dX11_workOut_161 rfl ?_
            obtain ⟨hi37, h⟩ := stA_i h
            refine V_iastore (q := 165) rfl hi37 dX11_workOut_164 rfl ?_
            refine V_iinc (q := 168) dX11_workOut_165 rfl (Nat.le_of_ble_eq_true rfl) trivial rfl ?_
            refine V_goto (q := 12) dX11_workOut_168 (by decide) ?_
            exact V_weak (ih h) (sb_s rfl (sb_s rfl (sb_n (sb_s rfl (sb_s rfl (sb_s rfl sb_0))))))
          · have h := ifT hc26 h
            refine V_aload_n (q := 103) dX11_workOut_102 rfl rfl rfl ?_
            refine V_getO (q := 106) (t := 80) fl_X11_37 rfl rfl rfl rfl dX11_workOut_103 rfl ?_
            refine V_iload (q := 108) dX11_workOut_106 rfl rfl ?_
            refine V_iconst (q := 109) dX11_workOut_108 rfl rfl ?_
            refine V_isub (q := 110) dX11_workOut_109 rfl ?_
            refine V_iconst (q := 111) dX11_workOut_110 rfl rfl ?_
            refine V_aload_n (q := 112) dX11_workOut_111 rfl rfl rfl ?_
            refine V_getO (q := 115) (t := 80) fl_X11_37 rfl rfl rfl rfl dX11_workOut_112 rfl ?_
            refine V_iload (q := 117) dX11_workOut_115 rfl rfl ?_
            refine V_iconst (q := 118) dX11_workOut_117 rfl rfl ?_
            refine V_isub (q := 119) dX11_workOut_118 rfl ?_
            obtain ⟨hi39, h⟩ := ldA_i h
            refine V_iaload (q := 120) rfl hi39 dX11_workOut_119 rfl ?_
            refine V_isub (q := 121) dX11_workOut_120 rfl ?_
            obtain ⟨hi41, h⟩ := stA_i h
            refine V_iastore (q := 122) rfl hi41 dX11_workOut_121 rfl ?_
            refine V_goto (q := 165) dX11_workOut_122 (by decide) ?_
            refine V_iinc (q := 168) dX11_workOut_165 rfl (Nat.le_of_ble_eq_true rfl) trivial rfl ?_
            refine V_goto (q := 12) dX11_workOut_168 (by decide) ?_
            exact V_weak (ih h) (sb_s rfl (sb_s rfl (sb_n (sb_s rfl (sb_s rfl (sb_s rfl sb_0))))))
        · have h := ifT hc23 h
          exact V_weak (kX11_workOut_J45 d hd (fun _ _ _ h => ih h) h) (sb_s rfl (sb_s rfl (sb_n (sb_s rfl (sb_s rfl (sb_s rfl sb_0))))))
set_option maxHeartbeats 4000000 in
set_option maxRecDepth 100000 in
theorem kX11_workOut (d : Nat) (hd : 3 ≤ d) {l1 : Int} {l2 : Int} {l3 : Int} {μ : Mm} {r : Int} {μ' : Mm} (h : X11_workOut l1 l2 l3 μ = some (r, μ')) : CC d mX11_workOut [vR 70, vI l1, vI l2, vI l3] μ r μ' := by
  unfold X11_workOut at h
  refine V_enter (by decide) (Nat.le_of_ble_eq_true rfl) ?_
  show VV d mX11_workOut 0 [some (vR 70), some (vI l1), some (vI l2), some (vI l3), none, none] [] μ r μ'
  refine V_iconst (q := 1) dX11_workOut_0 rfl rfl ?_
  refine V_istore (q := 3) dX11_workOut_1 (Nat.le_of_ble_eq_true rfl) trivial rfl ?_
  refine V_sipush (q := 6) dX11_workOut_3 rfl rfl rfl ?_
  refine V_iload_n (q := 7) dX11_workOut_6 rfl rfl rfl ?_
  refine V_imul (q := 8) dX11_workOut_7 rfl ?_
  refine V_iload_n (q := 9) dX11_workOut_8 rfl rfl rfl ?_
  refine V_iadd (q := 10) dX11_workOut_9 rfl ?_
  have h := lt_i h
  refine V_istore (q := 12) dX11_workOut_10 (Nat.le_of_ble_eq_true rfl) trivial rfl ?_
  exact V_weak (kX11_workOut_L12 d hd  FU h) (sb_s rfl (sb_s rfl (sb_n (sb_s rfl (sb_s rfl (sb_s rfl sb_0))))))
abbrev mX11_worthOf : Mth := (yX11_worthOf, cX11_worthOf, 3, some .int)
set_option maxRecDepth 100000 in
theorem mi_X11_worthOf : Cond.instanceMethod yX11_worthOf ∈ tG ∧ Cond.selects yX11_worthOf.cls yX11_worthOf yX11_worthOf ∈ tG ∧ Cond.initialized yX11_worthOf.cls ∈ tG ∧ Cond.code yX11_worthOf cX11_worthOf 3 (some .int) ∈ tG ∧ (yX11_worthOf.cls ≠ "java/lang/invoke/MethodHandle" ∧ yX11_worthOf.cls ≠ "java/lang/invoke/VarHandle" ∧ (parseMethodDescriptor yX11_worthOf.desc).map (fun d => d.parameters.length) = some 1) ∧ 3 ≤ 60 := ⟨(tG_of (tb6 (List.mem_of_getElem? (i := 215) rfl)) (by decide +kernel)), (tG_of (List.mem_of_getElem? (i := 79) (by decide +kernel)) (by decide +kernel)), (tG_of (tb1 (List.mem_of_getElem? (i := 12) rfl)) (by decide +kernel)), (tG_of (tb6 (List.mem_of_getElem? (i := 216) rfl)) (by decide +kernel)), ⟨by decide, by decide, by decide +kernel⟩, by decide⟩
set_option maxRecDepth 100000 in
theorem mv_X11_296 : mV RX11 296 mX11_worthOf 1 := ⟨(tG_of (tb6 (List.mem_of_getElem? (i := 213) rfl)) (by decide +kernel)), mi_X11_worthOf⟩
theorem dX11_worthOf_0 : decode cX11_worthOf 0 = .ok (.bipush 90, 2) := dc_16 (byA eNcX11_worthOf (p := 0) (v := 16) (by decide +kernel)) (byA eNcX11_worthOf (p := 1) (v := 90) (by decide +kernel)) (by decide +kernel)
theorem dX11_worthOf_2 : decode cX11_worthOf 2 = .ok (.iload_n 1, 1) := dc_27 (byA eNcX11_worthOf (p := 2) (v := 27) (by decide +kernel))
theorem dX11_worthOf_3 : decode cX11_worthOf 3 = .ok (.imul, 1) := dc_104 (byA eNcX11_worthOf (p := 3) (v := 104) (by decide +kernel))
theorem dX11_worthOf_4 : decode cX11_worthOf 4 = .ok (.istore_n 2, 1) := dc_61 (byA eNcX11_worthOf (p := 4) (v := 61) (by decide +kernel))
theorem dX11_worthOf_5 : decode cX11_worthOf 5 = .ok (.iload_n 2, 1) := dc_28 (byA eNcX11_worthOf (p := 5) (v := 28) (by decide +kernel))
theorem dX11_worthOf_6 : decode cX11_worthOf 6 = .ok (.bipush 90, 2) := dc_16 (byA eNcX11_worthOf (p := 6) (v := 16) (by decide +kernel)) (byA eNcX11_worthOf (p := 7) (v := 90) (by decide +kernel)) (by decide +kernel)
theorem dX11_worthOf_8 : decode cX11_worthOf 8 = .ok (.iload_n 1, 1) := dc_27 (byA eNcX11_worthOf (p := 8) (v := 27) (by decide +kernel))
theorem dX11_worthOf_9 : decode cX11_worthOf 9 = .ok (.imul, 1) := dc_104 (byA eNcX11_worthOf (p := 9) (v := 104) (by decide +kernel))
theorem dX11_worthOf_10 : decode cX11_worthOf 10 = .ok (.aload_n 0, 1) := dc_42 (byA eNcX11_worthOf (p := 10) (v := 42) (by decide +kernel))
theorem dX11_worthOf_11 : decode cX11_worthOf 11 = .ok (.getfield 22, 3) := dc_180 (byA eNcX11_worthOf (p := 11) (v := 180) (by decide +kernel)) (byA eNcX11_worthOf (p := 12) (v := 0) (by decide +kernel)) (byA eNcX11_worthOf (p := 13) (v := 22) (by decide +kernel)) rfl
theorem dX11_worthOf_14 : decode cX11_worthOf 14 = .ok (.iload_n 1, 1) := dc_27 (byA eNcX11_worthOf (p := 14) (v := 27) (by decide +kernel))
theorem dX11_worthOf_15 : decode cX11_worthOf 15 = .ok (.iaload, 1) := dc_46 (byA eNcX11_worthOf (p := 15) (v := 46) (by decide +kernel))
theorem dX11_worthOf_16 : decode cX11_worthOf 16 = .ok (.iadd, 1) := dc_96 (byA eNcX11_worthOf (p := 16) (v := 96) (by decide +kernel))
theorem dX11_worthOf_17 : decode cX11_worthOf 17 = .ok (.if_icmp .ge 62, 3) := dc_162 (byA eNcX11_worthOf (p := 17) (v := 162) (by decide +kernel)) (byA eNcX11_worthOf (p := 18) (v := 0) (by decide +kernel)) (byA eNcX11_worthOf (p := 19) (v := 62) (by decide +kernel)) (by decide +kernel)
theorem dX11_worthOf_20 : decode cX11_worthOf 20 = .ok (.aload_n 0, 1) := dc_42 (byA eNcX11_worthOf (p := 20) (v := 42) (by decide +kernel))
theorem dX11_worthOf_21 : decode cX11_worthOf 21 = .ok (.getfield 25, 3) := dc_180 (byA eNcX11_worthOf (p := 21) (v := 180) (by decide +kernel)) (byA eNcX11_worthOf (p := 22) (v := 0) (by decide +kernel)) (byA eNcX11_worthOf (p := 23) (v := 25) (by decide +kernel)) rfl
theorem dX11_worthOf_24 : decode cX11_worthOf 24 = .ok (.iload_n 2, 1) := dc_28 (byA eNcX11_worthOf (p := 24) (v := 28) (by decide +kernel))
theorem dX11_worthOf_25 : decode cX11_worthOf 25 = .ok (.iaload, 1) := dc_46 (byA eNcX11_worthOf (p := 25) (v := 46) (by decide +kernel))
theorem dX11_worthOf_26 : decode cX11_worthOf 26 = .ok (.aload_n 0, 1) := dc_42 (byA eNcX11_worthOf (p := 26) (v := 42) (by decide +kernel))
theorem dX11_worthOf_27 : decode cX11_worthOf 27 = .ok (.getfield 28, 3) := dc_180 (byA eNcX11_worthOf (p := 27) (v := 180) (by decide +kernel)) (byA eNcX11_worthOf (p := 28) (v := 0) (by decide +kernel)) (byA eNcX11_worthOf (p := 29) (v := 28) (by decide +kernel)) rfl
theorem dX11_worthOf_30 : decode cX11_worthOf 30 = .ok (.iload_n 2, 1) := dc_28 (byA eNcX11_worthOf (p := 30) (v := 28) (by decide +kernel))
theorem dX11_worthOf_31 : decode cX11_worthOf 31 = .ok (.iaload, 1) := dc_46 (byA eNcX11_worthOf (p := 31) (v := 46) (by decide +kernel))
theorem dX11_worthOf_32 : decode cX11_worthOf 32 = .ok (.if_icmp .eq 23, 3) := dc_159 (byA eNcX11_worthOf (p := 32) (v := 159) (by decide +kernel)) (byA eNcX11_worthOf (p := 33) (v := 0) (by decide +kernel)) (byA eNcX11_worthOf (p := 34) (v := 23) (by decide +kernel)) (by decide +kernel)
theorem dX11_worthOf_35 : decode cX11_worthOf 35 = .ok (.aload_n 0, 1) := dc_42 (byA eNcX11_worthOf (p := 35) (v := 42) (by decide +kernel))
theorem dX11_worthOf_36 : decode cX11_worthOf 36 = .ok (.iload_n 1, 1) := dc_27 (byA eNcX11_worthOf (p := 36) (v := 27) (by decide +kernel))
theorem dX11_worthOf_37 : decode cX11_worthOf 37 = .ok (.aload_n 0, 1) := dc_42 (byA eNcX11_worthOf (p := 37) (v := 42) (by decide +kernel))
theorem dX11_worthOf_38 : decode cX11_worthOf 38 = .ok (.getfield 25, 3) := dc_180 (byA eNcX11_worthOf (p := 38) (v := 180) (by decide +kernel)) (byA eNcX11_worthOf (p := 39) (v := 0) (by decide +kernel)) (byA eNcX11_worthOf (p := 40) (v := 25) (by decide +kernel)) rfl
theorem dX11_worthOf_41 : decode cX11_worthOf 41 = .ok (.iload_n 2, 1) := dc_28 (byA eNcX11_worthOf (p := 41) (v := 28) (by decide +kernel))
theorem dX11_worthOf_42 : decode cX11_worthOf 42 = .ok (.iaload, 1) := dc_46 (byA eNcX11_worthOf (p := 42) (v := 46) (by decide +kernel))
theorem dX11_worthOf_43 : decode cX11_worthOf 43 = .ok (.aload_n 0, 1) := dc_42 (byA eNcX11_worthOf (p := 43) (v := 42) (by decide +kernel))
theorem dX11_worthOf_44 : decode cX11_worthOf 44 = .ok (.getfield 28, 3) := dc_180 (byA eNcX11_worthOf (p := 44) (v := 180) (by decide +kernel)) (byA eNcX11_worthOf (p := 45) (v := 0) (by decide +kernel)) (byA eNcX11_worthOf (p := 46) (v := 28) (by decide +kernel)) rfl
theorem dX11_worthOf_47 : decode cX11_worthOf 47 = .ok (.iload_n 2, 1) := dc_28 (byA eNcX11_worthOf (p := 47) (v := 28) (by decide +kernel))
theorem dX11_worthOf_48 : decode cX11_worthOf 48 = .ok (.iaload, 1) := dc_46 (byA eNcX11_worthOf (p := 48) (v := 46) (by decide +kernel))
theorem dX11_worthOf_49 : decode cX11_worthOf 49 = .ok (.invokevirtual 209, 3) := dc_182 (byA eNcX11_worthOf (p := 49) (v := 182) (by decide +kernel)) (byA eNcX11_worthOf (p := 50) (v := 0) (by decide +kernel)) (byA eNcX11_worthOf (p := 51) (v := 209) (by decide +kernel)) rfl
theorem dX11_worthOf_52 : decode cX11_worthOf 52 = .ok (.ifCond .eq 21, 3) := dc_153 (byA eNcX11_worthOf (p := 52) (v := 153) (by decide +kernel)) (byA eNcX11_worthOf (p := 53) (v := 0) (by decide +kernel)) (byA eNcX11_worthOf (p := 54) (v := 21) (by decide +kernel)) (by decide +kernel)
theorem dX11_worthOf_55 : decode cX11_worthOf 55 = .ok (.aload_n 0, 1) := dc_42 (byA eNcX11_worthOf (p := 55) (v := 42) (by decide +kernel))
theorem dX11_worthOf_56 : decode cX11_worthOf 56 = .ok (.iload_n 1, 1) := dc_27 (byA eNcX11_worthOf (p := 56) (v := 27) (by decide +kernel))
theorem dX11_worthOf_57 : decode cX11_worthOf 57 = .ok (.aload_n 0, 1) := dc_42 (byA eNcX11_worthOf (p := 57) (v := 42) (by decide +kernel))
theorem dX11_worthOf_58 : decode cX11_worthOf 58 = .ok (.getfield 28, 3) := dc_180 (byA eNcX11_worthOf (p := 58) (v := 180) (by decide +kernel)) (byA eNcX11_worthOf (p := 59) (v := 0) (by decide +kernel)) (byA eNcX11_worthOf (p := 60) (v := 28) (by decide +kernel)) rfl
theorem dX11_worthOf_61 : decode cX11_worthOf 61 = .ok (.iload_n 2, 1) := dc_28 (byA eNcX11_worthOf (p := 61) (v := 28) (by decide +kernel))
theorem dX11_worthOf_62 : decode cX11_worthOf 62 = .ok (.iaload, 1) := dc_46 (byA eNcX11_worthOf (p := 62) (v := 46) (by decide +kernel))
theorem dX11_worthOf_63 : decode cX11_worthOf 63 = .ok (.aload_n 0, 1) := dc_42 (byA eNcX11_worthOf (p := 63) (v := 42) (by decide +kernel))
theorem dX11_worthOf_64 : decode cX11_worthOf 64 = .ok (.getfield 31, 3) := dc_180 (byA eNcX11_worthOf (p := 64) (v := 180) (by decide +kernel)) (byA eNcX11_worthOf (p := 65) (v := 0) (by decide +kernel)) (byA eNcX11_worthOf (p := 66) (v := 31) (by decide +kernel)) rfl
theorem dX11_worthOf_67 : decode cX11_worthOf 67 = .ok (.iload_n 2, 1) := dc_28 (byA eNcX11_worthOf (p := 67) (v := 28) (by decide +kernel))
theorem dX11_worthOf_68 : decode cX11_worthOf 68 = .ok (.iaload, 1) := dc_46 (byA eNcX11_worthOf (p := 68) (v := 46) (by decide +kernel))
theorem dX11_worthOf_69 : decode cX11_worthOf 69 = .ok (.invokevirtual 209, 3) := dc_182 (byA eNcX11_worthOf (p := 69) (v := 182) (by decide +kernel)) (byA eNcX11_worthOf (p := 70) (v := 0) (by decide +kernel)) (byA eNcX11_worthOf (p := 71) (v := 209) (by decide +kernel)) rfl
theorem dX11_worthOf_72 : decode cX11_worthOf 72 = .ok (.ireturn, 1) := dc_172 (byA eNcX11_worthOf (p := 72) (v := 172) (by decide +kernel))
theorem dX11_worthOf_73 : decode cX11_worthOf 73 = .ok (.iinc 2 1, 3) := dc_132 (byA eNcX11_worthOf (p := 73) (v := 132) (by decide +kernel)) (byA eNcX11_worthOf (p := 74) (v := 2) (by decide +kernel)) (byA eNcX11_worthOf (p := 75) (v := 1) (by decide +kernel)) (by decide +kernel)
theorem dX11_worthOf_76 : decode cX11_worthOf 76 = .ok (.goto (-71), 3) := dc_167 (byA eNcX11_worthOf (p := 76) (v := 167) (by decide +kernel)) (byA eNcX11_worthOf (p := 77) (v := 255) (by decide +kernel)) (byA eNcX11_worthOf (p := 78) (v := 185) (by decide +kernel)) (by decide +kernel)
theorem dX11_worthOf_79 : decode cX11_worthOf 79 = .ok (.iconst 0, 1) := dc_3 (byA eNcX11_worthOf (p := 79) (v := 3) (by decide +kernel))
theorem dX11_worthOf_80 : decode cX11_worthOf 80 = .ok (.ireturn, 1) := dc_172 (byA eNcX11_worthOf (p := 80) (v := 172) (by decide +kernel))
def X11_worthOf_L5 (l1 : Int) (k55 : Int → Mm → Rs) : Nat → Int → Mm → Rs
  | 0, _, _ => none
  | n + 1, l2, μ => ldA μ 75 l1 fun v1 => if (iA (iM 90 l1) v1) ≤ l2 then (some (0, μ)) else (ldA μ 76 l2 fun v4 => ldA μ 77 l2 fun v6 => if v4 = v6 then (k55 l2 μ) else (ldA μ 76 l2 fun v9 => ldA μ 77 l2 fun v11 => bd (X11_workOut l1 v9 v11 μ) fun v13 μ14 => if v13 = 0 then (X11_worthOf_L5 l1 k55 n (iA l2 1) μ14) else (k55 l2 μ14)))
def X11_worthOf_J55 (l1 : Int) (l2 : Int) (μ : Mm) : Rs := ldA μ 77 l2 fun v19 => ldA μ 78 l2 fun v21 => bd (X11_workOut l1 v19 v21 μ) fun v23 μ24 => some (v23, μ24)
def X11_worthOf (l1 : Int) (μ : Mm) : Rs := X11_worthOf_L5 l1 (fun v17 μ18 => X11_worthOf_J55 l1 v17 μ18) FU (iM 90 l1) μ
set_option maxHeartbeats 4000000 in
set_option maxRecDepth 100000 in
theorem kX11_worthOf_L5 (d : Nat) (hd : 4 ≤ d) {l1 : Int} {k55 : Int → Mm → Rs} {r : Int} {μ' : Mm} (hk_55 : ∀ (v2 : Int) (μ1 : Mm), k55 v2 μ1 = some (r, μ') → VV d mX11_worthOf 55 [some (vR 70), some (vI l1), some (vI v2)] [] μ1 r μ') : ∀ (n : Nat) {l2 : Int} {μ : Mm}, X11_worthOf_L5 l1 k55 n l2 μ = some (r, μ') → VV d mX11_worthOf 5 [some (vR 70), some (vI l1), some (vI l2)] [] μ r μ' := by
  intro n
  induction n with
  | zero => intro l2 μ h; rw [X11_worthOf_L5] at h; cases h
  | succ n ih =>
    intro l2 μ h
    rw [X11_worthOf_L5] at h
    refine V_iload_n (q := 6) dX11_worthOf_5 rfl rfl rfl ?_
    refine V_bipush (q := 8) dX11_worthOf_6 rfl rfl rfl ?_
    refine V_iload_n (q := 9) dX11_worthOf_8 rfl rfl rfl ?_
    refine V_imul (q := 10) dX11_worthOf_9 rfl ?_
    refine V_aload_n (q := 11) dX11_worthOf_10 rfl rfl rfl ?_
    refine V_getO (q := 14) (t := 75) fl_X11_22 rfl rfl rfl rfl dX11_worthOf_11 rfl ?_
    refine V_iload_n (q := 15) dX11_worthOf_14 rfl rfl rfl ?_
    obtain ⟨hi2, h⟩ := ldA_i h
    refine V_iaload (q := 16) rfl hi2 dX11_worthOf_15 rfl ?_
    refine V_iadd (q := 17) dX11_worthOf_16 rfl ?_
    refine V_icmpge (q := 79) (q2 := 20) dX11_worthOf_17 (by decide) rfl (fun hc3 => ?_) (fun hc3 => ?_)
    · have h := ifT hc3 h
      refine V_iconst (q := 80) dX11_worthOf_79 rfl rfl ?_
      exact V_iret rfl h dX11_worthOf_80
    · have h := ifF hc3 h
      refine V_aload_n (q := 21) dX11_worthOf_20 rfl rfl rfl ?_
      refine V_getO (q := 24) (t := 76) fl_X11_25 rfl rfl rfl rfl dX11_worthOf_21 rfl ?_
      refine V_iload_n (q := 25) dX11_worthOf_24 rfl rfl rfl ?_
      obtain ⟨hi5, h⟩ := ldA_i h
      refine V_iaload (q := 26) rfl hi5 dX11_worthOf_25 rfl ?_
      refine V_aload_n (q := 27) dX11_worthOf_26 rfl rfl rfl ?_
      refine V_getO (q := 30) (t := 77) fl_X11_28 rfl rfl rfl rfl dX11_worthOf_27 rfl ?_
      refine V_iload_n (q := 31) dX11_worthOf_30 rfl rfl rfl ?_
      obtain ⟨hi7, h⟩ := ldA_i h
      refine V_iaload (q := 32) rfl hi7 dX11_worthOf_31 rfl ?_
      refine V_icmpeq (q := 55) (q2 := 35) dX11_worthOf_32 (by decide) rfl (fun hc8 => ?_) (fun hc8 => ?_)
      · have h := ifT hc8 h
        exact V_weak (hk_55 _ _ h) (sb_s rfl (sb_s rfl (sb_s rfl sb_0)))
      · have h := ifF hc8 h
        refine V_aload_n (q := 36) dX11_worthOf_35 rfl rfl rfl ?_
        refine V_iload_n (q := 37) dX11_worthOf_36 rfl rfl rfl ?_
        refine V_aload_n (q := 38) dX11_worthOf_37 rfl rfl rfl ?_
        refine V_getO (q := 41) (t := 76) fl_X11_25 rfl rfl rfl rfl dX11_worthOf_38 rfl ?_
        refine V_iload_n (q := 42) dX11_worthOf_41 rfl rfl rfl ?_
        obtain ⟨hi10, h⟩ := ldA_i h
        refine V_iaload (q := 43) rfl hi10 dX11_worthOf_42 rfl ?_
        refine V_aload_n (q := 44) dX11_worthOf_43 rfl rfl rfl ?_
        refine V_getO (q := 47) (t := 77) fl_X11_28 rfl rfl rfl rfl dX11_worthOf_44 rfl ?_
        refine V_iload_n (q := 48) dX11_worthOf_47 rfl rfl rfl ?_
        obtain ⟨hi12, h⟩ := ldA_i h
        refine V_iaload (q := 49) rfl hi12 dX11_worthOf_48 rfl ?_
        obtain ⟨v13, μ14, hc15, h⟩ := bd_i h
        refine V_cV1 (q := 52) (v := vI v13) (kX11_workOut (d - 1) (by omega) hc15) (by omega) mv_X11_209 rfl rfl rfl rfl rfl rfl dX11_worthOf_49 rfl ?_
        refine V_ifeq (q := 73) (q2 := 55) dX11_worthOf_52 (by decide) rfl (fun hc16 => ?_) (fun hc16 => ?_)
        · have h := ifT hc16 h
          refine V_iinc (q := 76) dX11_worthOf_73 rfl (Nat.le_of_ble_eq_true rfl) trivial rfl ?_
          refine V_goto (q := 5) dX11_worthOf_76 (by decide) ?_
          exact V_weak (ih h) (sb_s rfl (sb_s rfl (sb_s rfl sb_0)))
        · have h := ifF hc16 h
          exact V_weak (hk_55 _ _ h) (sb_s rfl (sb_s rfl (sb_s rfl sb_0)))
set_option maxHeartbeats 4000000 in
set_option maxRecDepth 100000 in
theorem kX11_worthOf_J55 (d : Nat) (hd : 4 ≤ d) {l1 : Int} {l2 : Int} {μ : Mm} {r : Int} {μ' : Mm} (h : X11_worthOf_J55 l1 l2 μ = some (r, μ')) : VV d mX11_worthOf 55 [some (vR 70), some (vI l1), some (vI l2)] [] μ r μ' := by
  unfold X11_worthOf_J55 at h
  refine V_aload_n (q := 56) dX11_worthOf_55 rfl rfl rfl ?_
  refine V_iload_n (q := 57) dX11_worthOf_56 rfl rfl rfl ?_
  refine V_aload_n (q := 58) dX11_worthOf_57 rfl rfl rfl ?_
  refine V_getO (q := 61) (t := 77) fl_X11_28 rfl rfl rfl rfl dX11_worthOf_58 rfl ?_
  refine V_iload_n (q := 62) dX11_worthOf_61 rfl rfl rfl ?_
  obtain ⟨hi20, h⟩ := ldA_i h
  refine V_iaload (q := 63) rfl hi20 dX11_worthOf_62 rfl ?_
  refine V_aload_n (q := 64) dX11_worthOf_63 rfl rfl rfl ?_
  refine V_getO (q := 67) (t := 78) fl_X11_31 rfl rfl rfl rfl dX11_worthOf_64 rfl ?_
  refine V_iload_n (q := 68) dX11_worthOf_67 rfl rfl rfl ?_
  obtain ⟨hi22, h⟩ := ldA_i h
  refine V_iaload (q := 69) rfl hi22 dX11_worthOf_68 rfl ?_
  obtain ⟨v23, μ24, hc25, h⟩ := bd_i h
  refine V_cV1 (q := 72) (v := vI v23) (kX11_workOut (d - 1) (by omega) hc25) (by omega) mv_X11_209 rfl rfl rfl rfl rfl rfl dX11_worthOf_69 rfl ?_
  exact V_iret rfl h dX11_worthOf_72
set_option maxHeartbeats 4000000 in
set_option maxRecDepth 100000 in
theorem kX11_worthOf (d : Nat) (hd : 4 ≤ d) {l1 : Int} {μ : Mm} {r : Int} {μ' : Mm} (h : X11_worthOf l1 μ = some (r, μ')) : CC d mX11_worthOf [vR 70, vI l1] μ r μ' := by
  unfold X11_worthOf at h
  refine V_enter (by decide) (Nat.le_of_ble_eq_true rfl) ?_
  show VV d mX11_worthOf 0 [some (vR 70), some (vI l1), none] [] μ r μ'
  refine V_bipush (q := 2) dX11_worthOf_0 rfl rfl rfl ?_
  refine V_iload_n (q := 3) dX11_worthOf_2 rfl rfl rfl ?_
  refine V_imul (q := 4) dX11_worthOf_3 rfl ?_
  refine V_istore_n (q := 5) dX11_worthOf_4 rfl (Nat.le_of_ble_eq_true rfl) trivial rfl ?_
  refine V_weak (kX11_worthOf_L5 d hd (fun v17 μ18 h => ?_) FU h) (sb_s rfl (sb_s rfl (sb_s rfl sb_0)))
  exact V_weak (kX11_worthOf_J55 d hd h) (sb_s rfl (sb_s rfl (sb_s rfl sb_0)))
abbrev mX11_signOf : Mth := (yX11_signOf, cX11_signOf, 1, some .int)
set_option maxRecDepth 100000 in
theorem mi_X11_signOf : Cond.static yX11_signOf ∈ tG ∧ Cond.initialized yX11_signOf.cls ∈ tG ∧ Cond.code yX11_signOf cX11_signOf 1 (some .int) ∈ tG ∧ (yX11_signOf.cls ≠ "java/lang/invoke/MethodHandle" ∧ yX11_signOf.cls ≠ "java/lang/invoke/VarHandle" ∧ (parseMethodDescriptor yX11_signOf.desc).map (fun d => d.parameters.length) = some 1) ∧ 1 ≤ 60 := ⟨(tG_of (tb6 (List.mem_of_getElem? (i := 63) rfl)) (by decide +kernel)), (tG_of (tb1 (List.mem_of_getElem? (i := 12) rfl)) (by decide +kernel)), (tG_of (tb6 (List.mem_of_getElem? (i := 64) rfl)) (by decide +kernel)), ⟨by decide, by decide, by decide +kernel⟩, by decide⟩
set_option maxRecDepth 100000 in
theorem mv_X11_217 : mS RX11 217 mX11_signOf 1 := ⟨(tG_of (tb6 (List.mem_of_getElem? (i := 62) rfl)) (by decide +kernel)), mi_X11_signOf.1, (tG_of (tb1 (List.mem_of_getElem? (i := 12) rfl)) (by decide +kernel)), mi_X11_signOf.2⟩
theorem dX11_signOf_0 : decode cX11_signOf 0 = .ok (.iload_n 0, 1) := dc_26 (byA eNcX11_signOf (p := 0) (v := 26) (by decide +kernel))
theorem dX11_signOf_1 : decode cX11_signOf 1 = .ok (.bipush 46, 2) := dc_16 (byA eNcX11_signOf (p := 1) (v := 16) (by decide +kernel)) (byA eNcX11_signOf (p := 2) (v := 46) (by decide +kernel)) (by decide +kernel)
theorem dX11_signOf_3 : decode cX11_signOf 3 = .ok (.if_icmp .ne 7, 3) := dc_160 (byA eNcX11_signOf (p := 3) (v := 160) (by decide +kernel)) (byA eNcX11_signOf (p := 4) (v := 0) (by decide +kernel)) (byA eNcX11_signOf (p := 5) (v := 7) (by decide +kernel)) (by decide +kernel)
theorem dX11_signOf_6 : decode cX11_signOf 6 = .ok (.iconst 0, 1) := dc_3 (byA eNcX11_signOf (p := 6) (v := 3) (by decide +kernel))
theorem dX11_signOf_7 : decode cX11_signOf 7 = .ok (.goto 46, 3) := dc_167 (byA eNcX11_signOf (p := 7) (v := 167) (by decide +kernel)) (byA eNcX11_signOf (p := 8) (v := 0) (by decide +kernel)) (byA eNcX11_signOf (p := 9) (v := 46) (by decide +kernel)) (by decide +kernel)
theorem dX11_signOf_10 : decode cX11_signOf 10 = .ok (.iload_n 0, 1) := dc_26 (byA eNcX11_signOf (p := 10) (v := 26) (by decide +kernel))
theorem dX11_signOf_11 : decode cX11_signOf 11 = .ok (.bipush 35, 2) := dc_16 (byA eNcX11_signOf (p := 11) (v := 16) (by decide +kernel)) (byA eNcX11_signOf (p := 12) (v := 35) (by decide +kernel)) (by decide +kernel)
theorem dX11_signOf_13 : decode cX11_signOf 13 = .ok (.if_icmp .ne 7, 3) := dc_160 (byA eNcX11_signOf (p := 13) (v := 160) (by decide +kernel)) (byA eNcX11_signOf (p := 14) (v := 0) (by decide +kernel)) (byA eNcX11_signOf (p := 15) (v := 7) (by decide +kernel)) (by decide +kernel)
theorem dX11_signOf_16 : decode cX11_signOf 16 = .ok (.iconst 1, 1) := dc_4 (byA eNcX11_signOf (p := 16) (v := 4) (by decide +kernel))
theorem dX11_signOf_17 : decode cX11_signOf 17 = .ok (.goto 36, 3) := dc_167 (byA eNcX11_signOf (p := 17) (v := 167) (by decide +kernel)) (byA eNcX11_signOf (p := 18) (v := 0) (by decide +kernel)) (byA eNcX11_signOf (p := 19) (v := 36) (by decide +kernel)) (by decide +kernel)
theorem dX11_signOf_20 : decode cX11_signOf 20 = .ok (.iload_n 0, 1) := dc_26 (byA eNcX11_signOf (p := 20) (v := 26) (by decide +kernel))
theorem dX11_signOf_21 : decode cX11_signOf 21 = .ok (.bipush 42, 2) := dc_16 (byA eNcX11_signOf (p := 21) (v := 16) (by decide +kernel)) (byA eNcX11_signOf (p := 22) (v := 42) (by decide +kernel)) (by decide +kernel)
theorem dX11_signOf_23 : decode cX11_signOf 23 = .ok (.if_icmp .ne 7, 3) := dc_160 (byA eNcX11_signOf (p := 23) (v := 160) (by decide +kernel)) (byA eNcX11_signOf (p := 24) (v := 0) (by decide +kernel)) (byA eNcX11_signOf (p := 25) (v := 7) (by decide +kernel)) (by decide +kernel)
theorem dX11_signOf_26 : decode cX11_signOf 26 = .ok (.iconst 2, 1) := dc_5 (byA eNcX11_signOf (p := 26) (v := 5) (by decide +kernel))
theorem dX11_signOf_27 : decode cX11_signOf 27 = .ok (.goto 26, 3) := dc_167 (byA eNcX11_signOf (p := 27) (v := 167) (by decide +kernel)) (byA eNcX11_signOf (p := 28) (v := 0) (by decide +kernel)) (byA eNcX11_signOf (p := 29) (v := 26) (by decide +kernel)) (by decide +kernel)
theorem dX11_signOf_30 : decode cX11_signOf 30 = .ok (.iload_n 0, 1) := dc_26 (byA eNcX11_signOf (p := 30) (v := 26) (by decide +kernel))
theorem dX11_signOf_31 : decode cX11_signOf 31 = .ok (.bipush 65, 2) := dc_16 (byA eNcX11_signOf (p := 31) (v := 16) (by decide +kernel)) (byA eNcX11_signOf (p := 32) (v := 65) (by decide +kernel)) (by decide +kernel)
theorem dX11_signOf_33 : decode cX11_signOf 33 = .ok (.isub, 1) := dc_100 (byA eNcX11_signOf (p := 33) (v := 100) (by decide +kernel))
theorem dX11_signOf_34 : decode cX11_signOf 34 = .ok (.iconst 0, 1) := dc_3 (byA eNcX11_signOf (p := 34) (v := 3) (by decide +kernel))
theorem dX11_signOf_35 : decode cX11_signOf 35 = .ok (.bipush 7, 2) := dc_16 (byA eNcX11_signOf (p := 35) (v := 16) (by decide +kernel)) (byA eNcX11_signOf (p := 36) (v := 7) (by decide +kernel)) (by decide +kernel)
theorem dX11_signOf_37 : decode cX11_signOf 37 = .ok (.invokestatic 213, 3) := dc_184 (byA eNcX11_signOf (p := 37) (v := 184) (by decide +kernel)) (byA eNcX11_signOf (p := 38) (v := 0) (by decide +kernel)) (byA eNcX11_signOf (p := 39) (v := 213) (by decide +kernel)) rfl
theorem dX11_signOf_40 : decode cX11_signOf 40 = .ok (.ifCond .eq 12, 3) := dc_153 (byA eNcX11_signOf (p := 40) (v := 153) (by decide +kernel)) (byA eNcX11_signOf (p := 41) (v := 0) (by decide +kernel)) (byA eNcX11_signOf (p := 42) (v := 12) (by decide +kernel)) (by decide +kernel)
theorem dX11_signOf_43 : decode cX11_signOf 43 = .ok (.iconst 3, 1) := dc_6 (byA eNcX11_signOf (p := 43) (v := 6) (by decide +kernel))
theorem dX11_signOf_44 : decode cX11_signOf 44 = .ok (.iload_n 0, 1) := dc_26 (byA eNcX11_signOf (p := 44) (v := 26) (by decide +kernel))
theorem dX11_signOf_45 : decode cX11_signOf 45 = .ok (.iadd, 1) := dc_96 (byA eNcX11_signOf (p := 45) (v := 96) (by decide +kernel))
theorem dX11_signOf_46 : decode cX11_signOf 46 = .ok (.bipush 65, 2) := dc_16 (byA eNcX11_signOf (p := 46) (v := 16) (by decide +kernel)) (byA eNcX11_signOf (p := 47) (v := 65) (by decide +kernel)) (by decide +kernel)
theorem dX11_signOf_48 : decode cX11_signOf 48 = .ok (.isub, 1) := dc_100 (byA eNcX11_signOf (p := 48) (v := 100) (by decide +kernel))
theorem dX11_signOf_49 : decode cX11_signOf 49 = .ok (.goto 4, 3) := dc_167 (byA eNcX11_signOf (p := 49) (v := 167) (by decide +kernel)) (byA eNcX11_signOf (p := 50) (v := 0) (by decide +kernel)) (byA eNcX11_signOf (p := 51) (v := 4) (by decide +kernel)) (by decide +kernel)
theorem dX11_signOf_52 : decode cX11_signOf 52 = .ok (.iconst (-1), 1) := dc_2 (byA eNcX11_signOf (p := 52) (v := 2) (by decide +kernel))
theorem dX11_signOf_53 : decode cX11_signOf 53 = .ok (.ireturn, 1) := dc_172 (byA eNcX11_signOf (p := 53) (v := 172) (by decide +kernel))
def X11_signOf (l0 : Int) (μ : Mm) : Rs := if l0 = 46 then (some (0, μ)) else (if l0 = 35 then (some (1, μ)) else (if l0 = 42 then (some (2, μ)) else (bd (X11_in (iS l0 65) 0 7 μ) fun v4 μ5 => if v4 = 0 then (some ((-1), μ5)) else (some (iS (iA 3 l0) 65, μ5)))))
set_option maxHeartbeats 4000000 in
set_option maxRecDepth 100000 in
theorem kX11_signOf (d : Nat) (hd : 2 ≤ d) {l0 : Int} {μ : Mm} {r : Int} {μ' : Mm} (h : X11_signOf l0 μ = some (r, μ')) : CC d mX11_signOf [vI l0] μ r μ' := by
  unfold X11_signOf at h
  refine V_enter (by decide) (Nat.le_of_ble_eq_true rfl) ?_
  show VV d mX11_signOf 0 [some (vI l0)] [] μ r μ'
  refine V_iload_n (q := 1) dX11_signOf_0 rfl rfl rfl ?_
  refine V_bipush (q := 3) dX11_signOf_1 rfl rfl rfl ?_
  refine V_icmpne (q := 10) (q2 := 6) dX11_signOf_3 (by decide) rfl (fun hc1 => ?_) (fun hc1 => ?_)
  · have h := ifF hc1 h
    refine V_iload_n (q := 11) dX11_signOf_10 rfl rfl rfl ?_
    refine V_bipush (q := 13) dX11_signOf_11 rfl rfl rfl ?_
    refine V_icmpne (q := 20) (q2 := 16) dX11_signOf_13 (by decide) rfl (fun hc2 => ?_) (fun hc2 => ?_)
    · have h := ifF hc2 h
      refine V_iload_n (q := 21) dX11_signOf_20 rfl rfl rfl ?_
      refine V_bipush (q := 23) dX11_signOf_21 rfl rfl rfl ?_
      refine V_icmpne (q := 30) (q2 := 26) dX11_signOf_23 (by decide) rfl (fun hc3 => ?_) (fun hc3 => ?_)
      · have h := ifF hc3 h
        refine V_iload_n (q := 31) dX11_signOf_30 rfl rfl rfl ?_
        refine V_bipush (q := 33) dX11_signOf_31 rfl rfl rfl ?_
        refine V_isub (q := 34) dX11_signOf_33 rfl ?_
        refine V_iconst (q := 35) dX11_signOf_34 rfl rfl ?_
        refine V_bipush (q := 37) dX11_signOf_35 rfl rfl rfl ?_
        obtain ⟨v4, μ5, hc6, h⟩ := bd_i h
        refine V_cS1 (q := 40) (v := vI v4) (kX11_in (d - 1) (by omega) hc6) (by omega) mv_X11_213 rfl rfl rfl rfl dX11_signOf_37 rfl ?_
        refine V_ifeq (q := 52) (q2 := 43) dX11_signOf_40 (by decide) rfl (fun hc7 => ?_) (fun hc7 => ?_)
        · have h := ifT hc7 h
          refine V_iconst (q := 53) dX11_signOf_52 rfl rfl ?_
          exact V_iret rfl h dX11_signOf_53
        · have h := ifF hc7 h
          refine V_iconst (q := 44) dX11_signOf_43 rfl rfl ?_
          refine V_iload_n (q := 45) dX11_signOf_44 rfl rfl rfl ?_
          refine V_iadd (q := 46) dX11_signOf_45 rfl ?_
          refine V_bipush (q := 48) dX11_signOf_46 rfl rfl rfl ?_
          refine V_isub (q := 49) dX11_signOf_48 rfl ?_
          refine V_goto (q := 53) dX11_signOf_49 (by decide) ?_
          exact V_iret rfl h dX11_signOf_53
      · have h := ifT hc3 h
        refine V_iconst (q := 27) dX11_signOf_26 rfl rfl ?_
        refine V_goto (q := 53) dX11_signOf_27 (by decide) ?_
        exact V_iret rfl h dX11_signOf_53
    · have h := ifT hc2 h
      refine V_iconst (q := 17) dX11_signOf_16 rfl rfl ?_
      refine V_goto (q := 53) dX11_signOf_17 (by decide) ?_
      exact V_iret rfl h dX11_signOf_53
  · have h := ifT hc1 h
    refine V_iconst (q := 7) dX11_signOf_6 rfl rfl ?_
    refine V_goto (q := 53) dX11_signOf_7 (by decide) ?_
    exact V_iret rfl h dX11_signOf_53
abbrev mX11_rowText : Mth := (yX11_rowText, cX11_rowText, 4, none)
set_option maxRecDepth 100000 in
theorem mi_X11_rowText : Cond.instanceMethod yX11_rowText ∈ tG ∧ Cond.selects yX11_rowText.cls yX11_rowText yX11_rowText ∈ tG ∧ Cond.initialized yX11_rowText.cls ∈ tG ∧ Cond.code yX11_rowText cX11_rowText 4 (none) ∈ tG ∧ (yX11_rowText.cls ≠ "java/lang/invoke/MethodHandle" ∧ yX11_rowText.cls ≠ "java/lang/invoke/VarHandle" ∧ (parseMethodDescriptor yX11_rowText.desc).map (fun d => d.parameters.length) = some 0) ∧ 4 ≤ 60 := ⟨(tG_of (tb6 (List.mem_of_getElem? (i := 52) rfl)) (by decide +kernel)), (tG_of (List.mem_of_getElem? (i := 48) (by decide +kernel)) (by decide +kernel)), (tG_of (tb1 (List.mem_of_getElem? (i := 12) rfl)) (by decide +kernel)), (tG_of (tb6 (List.mem_of_getElem? (i := 53) rfl)) (by decide +kernel)), ⟨by decide, by decide, by decide +kernel⟩, by decide⟩
set_option maxRecDepth 100000 in
theorem mv_X11_237 : mV RX11 237 mX11_rowText 0 := ⟨(tG_of (tb6 (List.mem_of_getElem? (i := 50) rfl)) (by decide +kernel)), mi_X11_rowText⟩
theorem dX11_rowText_0 : decode cX11_rowText 0 = .ok (.iconst 0, 1) := dc_3 (byA eNcX11_rowText (p := 0) (v := 3) (by decide +kernel))
theorem dX11_rowText_1 : decode cX11_rowText 1 = .ok (.istore_n 1, 1) := dc_60 (byA eNcX11_rowText (p := 1) (v := 60) (by decide +kernel))
theorem dX11_rowText_2 : decode cX11_rowText 2 = .ok (.aload_n 0, 1) := dc_42 (byA eNcX11_rowText (p := 2) (v := 42) (by decide +kernel))
theorem dX11_rowText_3 : decode cX11_rowText 3 = .ok (.invokevirtual 127, 3) := dc_182 (byA eNcX11_rowText (p := 3) (v := 182) (by decide +kernel)) (byA eNcX11_rowText (p := 4) (v := 0) (by decide +kernel)) (byA eNcX11_rowText (p := 5) (v := 127) (by decide +kernel)) rfl
theorem dX11_rowText_6 : decode cX11_rowText 6 = .ok (.invokestatic 217, 3) := dc_184 (byA eNcX11_rowText (p := 6) (v := 184) (by decide +kernel)) (byA eNcX11_rowText (p := 7) (v := 0) (by decide +kernel)) (byA eNcX11_rowText (p := 8) (v := 217) (by decide +kernel)) rfl
theorem dX11_rowText_9 : decode cX11_rowText 9 = .ok (.istore_n 2, 1) := dc_61 (byA eNcX11_rowText (p := 9) (v := 61) (by decide +kernel))
theorem dX11_rowText_10 : decode cX11_rowText 10 = .ok (.aload_n 0, 1) := dc_42 (byA eNcX11_rowText (p := 10) (v := 42) (by decide +kernel))
theorem dX11_rowText_11 : decode cX11_rowText 11 = .ok (.getfield 115, 3) := dc_180 (byA eNcX11_rowText (p := 11) (v := 180) (by decide +kernel)) (byA eNcX11_rowText (p := 12) (v := 0) (by decide +kernel)) (byA eNcX11_rowText (p := 13) (v := 115) (by decide +kernel)) rfl
theorem dX11_rowText_14 : decode cX11_rowText 14 = .ok (.iconst (-1), 1) := dc_2 (byA eNcX11_rowText (p := 14) (v := 2) (by decide +kernel))
theorem dX11_rowText_15 : decode cX11_rowText 15 = .ok (.if_icmp .ne 156, 3) := dc_160 (byA eNcX11_rowText (p := 15) (v := 160) (by decide +kernel)) (byA eNcX11_rowText (p := 16) (v := 0) (by decide +kernel)) (byA eNcX11_rowText (p := 17) (v := 156) (by decide +kernel)) (by decide +kernel)
theorem dX11_rowText_18 : decode cX11_rowText 18 = .ok (.iload_n 2, 1) := dc_28 (byA eNcX11_rowText (p := 18) (v := 28) (by decide +kernel))
theorem dX11_rowText_19 : decode cX11_rowText 19 = .ok (.iconst (-1), 1) := dc_2 (byA eNcX11_rowText (p := 19) (v := 2) (by decide +kernel))
theorem dX11_rowText_20 : decode cX11_rowText 20 = .ok (.if_icmp .eq 151, 3) := dc_159 (byA eNcX11_rowText (p := 20) (v := 159) (by decide +kernel)) (byA eNcX11_rowText (p := 21) (v := 0) (by decide +kernel)) (byA eNcX11_rowText (p := 22) (v := 151) (by decide +kernel)) (by decide +kernel)
theorem dX11_rowText_23 : decode cX11_rowText 23 = .ok (.iload_n 2, 1) := dc_28 (byA eNcX11_rowText (p := 23) (v := 28) (by decide +kernel))
theorem dX11_rowText_24 : decode cX11_rowText 24 = .ok (.iconst 2, 1) := dc_5 (byA eNcX11_rowText (p := 24) (v := 5) (by decide +kernel))
theorem dX11_rowText_25 : decode cX11_rowText 25 = .ok (.if_icmp .ne 10, 3) := dc_160 (byA eNcX11_rowText (p := 25) (v := 160) (by decide +kernel)) (byA eNcX11_rowText (p := 26) (v := 0) (by decide +kernel)) (byA eNcX11_rowText (p := 27) (v := 10) (by decide +kernel)) (by decide +kernel)
theorem dX11_rowText_28 : decode cX11_rowText 28 = .ok (.aload_n 0, 1) := dc_42 (byA eNcX11_rowText (p := 28) (v := 42) (by decide +kernel))
theorem dX11_rowText_29 : decode cX11_rowText 29 = .ok (.getfield 220, 3) := dc_180 (byA eNcX11_rowText (p := 29) (v := 180) (by decide +kernel)) (byA eNcX11_rowText (p := 30) (v := 0) (by decide +kernel)) (byA eNcX11_rowText (p := 31) (v := 220) (by decide +kernel)) rfl
theorem dX11_rowText_32 : decode cX11_rowText 32 = .ok (.ifCond .ne 21, 3) := dc_154 (byA eNcX11_rowText (p := 32) (v := 154) (by decide +kernel)) (byA eNcX11_rowText (p := 33) (v := 0) (by decide +kernel)) (byA eNcX11_rowText (p := 34) (v := 21) (by decide +kernel)) (by decide +kernel)
theorem dX11_rowText_35 : decode cX11_rowText 35 = .ok (.iload_n 2, 1) := dc_28 (byA eNcX11_rowText (p := 35) (v := 28) (by decide +kernel))
theorem dX11_rowText_36 : decode cX11_rowText 36 = .ok (.iconst 3, 1) := dc_6 (byA eNcX11_rowText (p := 36) (v := 6) (by decide +kernel))
theorem dX11_rowText_37 : decode cX11_rowText 37 = .ok (.if_icmp .lt 20, 3) := dc_161 (byA eNcX11_rowText (p := 37) (v := 161) (by decide +kernel)) (byA eNcX11_rowText (p := 38) (v := 0) (by decide +kernel)) (byA eNcX11_rowText (p := 39) (v := 20) (by decide +kernel)) (by decide +kernel)
theorem dX11_rowText_40 : decode cX11_rowText 40 = .ok (.aload_n 0, 1) := dc_42 (byA eNcX11_rowText (p := 40) (v := 42) (by decide +kernel))
theorem dX11_rowText_41 : decode cX11_rowText 41 = .ok (.getfield 224, 3) := dc_180 (byA eNcX11_rowText (p := 41) (v := 180) (by decide +kernel)) (byA eNcX11_rowText (p := 42) (v := 0) (by decide +kernel)) (byA eNcX11_rowText (p := 43) (v := 224) (by decide +kernel)) rfl
theorem dX11_rowText_44 : decode cX11_rowText 44 = .ok (.iload_n 2, 1) := dc_28 (byA eNcX11_rowText (p := 44) (v := 28) (by decide +kernel))
theorem dX11_rowText_45 : decode cX11_rowText 45 = .ok (.iconst 3, 1) := dc_6 (byA eNcX11_rowText (p := 45) (v := 6) (by decide +kernel))
theorem dX11_rowText_46 : decode cX11_rowText 46 = .ok (.isub, 1) := dc_100 (byA eNcX11_rowText (p := 46) (v := 100) (by decide +kernel))
theorem dX11_rowText_47 : decode cX11_rowText 47 = .ok (.invokestatic 227, 3) := dc_184 (byA eNcX11_rowText (p := 47) (v := 184) (by decide +kernel)) (byA eNcX11_rowText (p := 48) (v := 0) (by decide +kernel)) (byA eNcX11_rowText (p := 49) (v := 227) (by decide +kernel)) rfl
theorem dX11_rowText_50 : decode cX11_rowText 50 = .ok (.ifCond .eq 7, 3) := dc_153 (byA eNcX11_rowText (p := 50) (v := 153) (by decide +kernel)) (byA eNcX11_rowText (p := 51) (v := 0) (by decide +kernel)) (byA eNcX11_rowText (p := 52) (v := 7) (by decide +kernel)) (by decide +kernel)
theorem dX11_rowText_53 : decode cX11_rowText 53 = .ok (.iconst 1, 1) := dc_4 (byA eNcX11_rowText (p := 53) (v := 4) (by decide +kernel))
theorem dX11_rowText_54 : decode cX11_rowText 54 = .ok (.goto 4, 3) := dc_167 (byA eNcX11_rowText (p := 54) (v := 167) (by decide +kernel)) (byA eNcX11_rowText (p := 55) (v := 0) (by decide +kernel)) (byA eNcX11_rowText (p := 56) (v := 4) (by decide +kernel)) (by decide +kernel)
theorem dX11_rowText_57 : decode cX11_rowText 57 = .ok (.iconst 0, 1) := dc_3 (byA eNcX11_rowText (p := 57) (v := 3) (by decide +kernel))
theorem dX11_rowText_58 : decode cX11_rowText 58 = .ok (.istore_n 3, 1) := dc_62 (byA eNcX11_rowText (p := 58) (v := 62) (by decide +kernel))
theorem dX11_rowText_59 : decode cX11_rowText 59 = .ok (.iload_n 3, 1) := dc_29 (byA eNcX11_rowText (p := 59) (v := 29) (by decide +kernel))
theorem dX11_rowText_60 : decode cX11_rowText 60 = .ok (.ifCond .ne 23, 3) := dc_154 (byA eNcX11_rowText (p := 60) (v := 154) (by decide +kernel)) (byA eNcX11_rowText (p := 61) (v := 0) (by decide +kernel)) (byA eNcX11_rowText (p := 62) (v := 23) (by decide +kernel)) (by decide +kernel)
theorem dX11_rowText_63 : decode cX11_rowText 63 = .ok (.iload_n 1, 1) := dc_27 (byA eNcX11_rowText (p := 63) (v := 27) (by decide +kernel))
theorem dX11_rowText_64 : decode cX11_rowText 64 = .ok (.aload_n 0, 1) := dc_42 (byA eNcX11_rowText (p := 64) (v := 42) (by decide +kernel))
theorem dX11_rowText_65 : decode cX11_rowText 65 = .ok (.getfield 231, 3) := dc_180 (byA eNcX11_rowText (p := 65) (v := 180) (by decide +kernel)) (byA eNcX11_rowText (p := 66) (v := 0) (by decide +kernel)) (byA eNcX11_rowText (p := 67) (v := 231) (by decide +kernel)) rfl
theorem dX11_rowText_68 : decode cX11_rowText 68 = .ok (.ifCond .ne 8, 3) := dc_154 (byA eNcX11_rowText (p := 68) (v := 154) (by decide +kernel)) (byA eNcX11_rowText (p := 69) (v := 0) (by decide +kernel)) (byA eNcX11_rowText (p := 70) (v := 8) (by decide +kernel)) (by decide +kernel)
theorem dX11_rowText_71 : decode cX11_rowText 71 = .ok (.bipush 9, 2) := dc_16 (byA eNcX11_rowText (p := 71) (v := 16) (by decide +kernel)) (byA eNcX11_rowText (p := 72) (v := 9) (by decide +kernel)) (by decide +kernel)
theorem dX11_rowText_73 : decode cX11_rowText 73 = .ok (.goto 7, 3) := dc_167 (byA eNcX11_rowText (p := 73) (v := 167) (by decide +kernel)) (byA eNcX11_rowText (p := 74) (v := 0) (by decide +kernel)) (byA eNcX11_rowText (p := 75) (v := 7) (by decide +kernel)) (by decide +kernel)
theorem dX11_rowText_76 : decode cX11_rowText 76 = .ok (.aload_n 0, 1) := dc_42 (byA eNcX11_rowText (p := 76) (v := 42) (by decide +kernel))
theorem dX11_rowText_77 : decode cX11_rowText 77 = .ok (.getfield 234, 3) := dc_180 (byA eNcX11_rowText (p := 77) (v := 180) (by decide +kernel)) (byA eNcX11_rowText (p := 78) (v := 0) (by decide +kernel)) (byA eNcX11_rowText (p := 79) (v := 234) (by decide +kernel)) rfl
theorem dX11_rowText_80 : decode cX11_rowText 80 = .ok (.if_icmp .ne 8, 3) := dc_160 (byA eNcX11_rowText (p := 80) (v := 160) (by decide +kernel)) (byA eNcX11_rowText (p := 81) (v := 0) (by decide +kernel)) (byA eNcX11_rowText (p := 82) (v := 8) (by decide +kernel)) (by decide +kernel)
theorem dX11_rowText_83 : decode cX11_rowText 83 = .ok (.aload_n 0, 1) := dc_42 (byA eNcX11_rowText (p := 83) (v := 42) (by decide +kernel))
theorem dX11_rowText_84 : decode cX11_rowText 84 = .ok (.invokevirtual 124, 3) := dc_182 (byA eNcX11_rowText (p := 84) (v := 182) (by decide +kernel)) (byA eNcX11_rowText (p := 85) (v := 0) (by decide +kernel)) (byA eNcX11_rowText (p := 86) (v := 124) (by decide +kernel)) rfl
theorem dX11_rowText_87 : decode cX11_rowText 87 = .ok (.return_, 1) := dc_177 (byA eNcX11_rowText (p := 87) (v := 177) (by decide +kernel))
theorem dX11_rowText_88 : decode cX11_rowText 88 = .ok (.aload_n 0, 1) := dc_42 (byA eNcX11_rowText (p := 88) (v := 42) (by decide +kernel))
theorem dX11_rowText_89 : decode cX11_rowText 89 = .ok (.aload_n 0, 1) := dc_42 (byA eNcX11_rowText (p := 89) (v := 42) (by decide +kernel))
theorem dX11_rowText_90 : decode cX11_rowText 90 = .ok (.getfield 220, 3) := dc_180 (byA eNcX11_rowText (p := 90) (v := 180) (by decide +kernel)) (byA eNcX11_rowText (p := 91) (v := 0) (by decide +kernel)) (byA eNcX11_rowText (p := 92) (v := 220) (by decide +kernel)) rfl
theorem dX11_rowText_93 : decode cX11_rowText 93 = .ok (.ifCond .ne 8, 3) := dc_154 (byA eNcX11_rowText (p := 93) (v := 154) (by decide +kernel)) (byA eNcX11_rowText (p := 94) (v := 0) (by decide +kernel)) (byA eNcX11_rowText (p := 95) (v := 8) (by decide +kernel)) (by decide +kernel)
theorem dX11_rowText_96 : decode cX11_rowText 96 = .ok (.iload_n 2, 1) := dc_28 (byA eNcX11_rowText (p := 96) (v := 28) (by decide +kernel))
theorem dX11_rowText_97 : decode cX11_rowText 97 = .ok (.iconst 2, 1) := dc_5 (byA eNcX11_rowText (p := 97) (v := 5) (by decide +kernel))
theorem dX11_rowText_98 : decode cX11_rowText 98 = .ok (.if_icmp .ne 7, 3) := dc_160 (byA eNcX11_rowText (p := 98) (v := 160) (by decide +kernel)) (byA eNcX11_rowText (p := 99) (v := 0) (by decide +kernel)) (byA eNcX11_rowText (p := 100) (v := 7) (by decide +kernel)) (by decide +kernel)
theorem dX11_rowText_101 : decode cX11_rowText 101 = .ok (.iconst 1, 1) := dc_4 (byA eNcX11_rowText (p := 101) (v := 4) (by decide +kernel))
theorem dX11_rowText_102 : decode cX11_rowText 102 = .ok (.goto 4, 3) := dc_167 (byA eNcX11_rowText (p := 102) (v := 167) (by decide +kernel)) (byA eNcX11_rowText (p := 103) (v := 0) (by decide +kernel)) (byA eNcX11_rowText (p := 104) (v := 4) (by decide +kernel)) (by decide +kernel)
theorem dX11_rowText_105 : decode cX11_rowText 105 = .ok (.iconst 0, 1) := dc_3 (byA eNcX11_rowText (p := 105) (v := 3) (by decide +kernel))
theorem dX11_rowText_106 : decode cX11_rowText 106 = .ok (.putfield 220, 3) := dc_181 (byA eNcX11_rowText (p := 106) (v := 181) (by decide +kernel)) (byA eNcX11_rowText (p := 107) (v := 0) (by decide +kernel)) (byA eNcX11_rowText (p := 108) (v := 220) (by decide +kernel)) rfl
theorem dX11_rowText_109 : decode cX11_rowText 109 = .ok (.aload_n 0, 1) := dc_42 (byA eNcX11_rowText (p := 109) (v := 42) (by decide +kernel))
theorem dX11_rowText_110 : decode cX11_rowText 110 = .ok (.dup, 1) := dc_89 (byA eNcX11_rowText (p := 110) (v := 89) (by decide +kernel))
theorem dX11_rowText_111 : decode cX11_rowText 111 = .ok (.getfield 224, 3) := dc_180 (byA eNcX11_rowText (p := 111) (v := 180) (by decide +kernel)) (byA eNcX11_rowText (p := 112) (v := 0) (by decide +kernel)) (byA eNcX11_rowText (p := 113) (v := 224) (by decide +kernel)) rfl
theorem dX11_rowText_114 : decode cX11_rowText 114 = .ok (.iload_n 2, 1) := dc_28 (byA eNcX11_rowText (p := 114) (v := 28) (by decide +kernel))
theorem dX11_rowText_115 : decode cX11_rowText 115 = .ok (.iconst 3, 1) := dc_6 (byA eNcX11_rowText (p := 115) (v := 6) (by decide +kernel))
theorem dX11_rowText_116 : decode cX11_rowText 116 = .ok (.if_icmp .lt 11, 3) := dc_161 (byA eNcX11_rowText (p := 116) (v := 161) (by decide +kernel)) (byA eNcX11_rowText (p := 117) (v := 0) (by decide +kernel)) (byA eNcX11_rowText (p := 118) (v := 11) (by decide +kernel)) (by decide +kernel)
theorem dX11_rowText_119 : decode cX11_rowText 119 = .ok (.iconst 1, 1) := dc_4 (byA eNcX11_rowText (p := 119) (v := 4) (by decide +kernel))
theorem dX11_rowText_120 : decode cX11_rowText 120 = .ok (.iload_n 2, 1) := dc_28 (byA eNcX11_rowText (p := 120) (v := 28) (by decide +kernel))
theorem dX11_rowText_121 : decode cX11_rowText 121 = .ok (.iconst 3, 1) := dc_6 (byA eNcX11_rowText (p := 121) (v := 6) (by decide +kernel))
theorem dX11_rowText_122 : decode cX11_rowText 122 = .ok (.isub, 1) := dc_100 (byA eNcX11_rowText (p := 122) (v := 100) (by decide +kernel))
theorem dX11_rowText_123 : decode cX11_rowText 123 = .ok (.ishl, 1) := dc_120 (byA eNcX11_rowText (p := 123) (v := 120) (by decide +kernel))
theorem dX11_rowText_124 : decode cX11_rowText 124 = .ok (.goto 4, 3) := dc_167 (byA eNcX11_rowText (p := 124) (v := 167) (by decide +kernel)) (byA eNcX11_rowText (p := 125) (v := 0) (by decide +kernel)) (byA eNcX11_rowText (p := 126) (v := 4) (by decide +kernel)) (by decide +kernel)
theorem dX11_rowText_127 : decode cX11_rowText 127 = .ok (.iconst 0, 1) := dc_3 (byA eNcX11_rowText (p := 127) (v := 3) (by decide +kernel))
theorem dX11_rowText_128 : decode cX11_rowText 128 = .ok (.ior, 1) := dc_128 (byA eNcX11_rowText (p := 128) (v := 128) (by decide +kernel))
theorem dX11_rowText_129 : decode cX11_rowText 129 = .ok (.putfield 224, 3) := dc_181 (byA eNcX11_rowText (p := 129) (v := 181) (by decide +kernel)) (byA eNcX11_rowText (p := 130) (v := 0) (by decide +kernel)) (byA eNcX11_rowText (p := 131) (v := 224) (by decide +kernel)) rfl
theorem dX11_rowText_132 : decode cX11_rowText 132 = .ok (.aload_n 0, 1) := dc_42 (byA eNcX11_rowText (p := 132) (v := 42) (by decide +kernel))
theorem dX11_rowText_133 : decode cX11_rowText 133 = .ok (.getfield 40, 3) := dc_180 (byA eNcX11_rowText (p := 133) (v := 180) (by decide +kernel)) (byA eNcX11_rowText (p := 134) (v := 0) (by decide +kernel)) (byA eNcX11_rowText (p := 135) (v := 40) (by decide +kernel)) rfl
theorem dX11_rowText_136 : decode cX11_rowText 136 = .ok (.bipush 10, 2) := dc_16 (byA eNcX11_rowText (p := 136) (v := 16) (by decide +kernel)) (byA eNcX11_rowText (p := 137) (v := 10) (by decide +kernel)) (by decide +kernel)
theorem dX11_rowText_138 : decode cX11_rowText 138 = .ok (.aload_n 0, 1) := dc_42 (byA eNcX11_rowText (p := 138) (v := 42) (by decide +kernel))
theorem dX11_rowText_139 : decode cX11_rowText 139 = .ok (.getfield 231, 3) := dc_180 (byA eNcX11_rowText (p := 139) (v := 180) (by decide +kernel)) (byA eNcX11_rowText (p := 140) (v := 0) (by decide +kernel)) (byA eNcX11_rowText (p := 141) (v := 231) (by decide +kernel)) rfl
theorem dX11_rowText_142 : decode cX11_rowText 142 = .ok (.imul, 1) := dc_104 (byA eNcX11_rowText (p := 142) (v := 104) (by decide +kernel))
theorem dX11_rowText_143 : decode cX11_rowText 143 = .ok (.iload_n 1, 1) := dc_27 (byA eNcX11_rowText (p := 143) (v := 27) (by decide +kernel))
theorem dX11_rowText_144 : decode cX11_rowText 144 = .ok (.iadd, 1) := dc_96 (byA eNcX11_rowText (p := 144) (v := 96) (by decide +kernel))
theorem dX11_rowText_145 : decode cX11_rowText 145 = .ok (.iload_n 2, 1) := dc_28 (byA eNcX11_rowText (p := 145) (v := 28) (by decide +kernel))
theorem dX11_rowText_146 : decode cX11_rowText 146 = .ok (.iastore, 1) := dc_79 (byA eNcX11_rowText (p := 146) (v := 79) (by decide +kernel))
theorem dX11_rowText_147 : decode cX11_rowText 147 = .ok (.iinc 1 1, 3) := dc_132 (byA eNcX11_rowText (p := 147) (v := 132) (by decide +kernel)) (byA eNcX11_rowText (p := 148) (v := 1) (by decide +kernel)) (byA eNcX11_rowText (p := 149) (v := 1) (by decide +kernel)) (by decide +kernel)
theorem dX11_rowText_150 : decode cX11_rowText 150 = .ok (.aload_n 0, 1) := dc_42 (byA eNcX11_rowText (p := 150) (v := 42) (by decide +kernel))
theorem dX11_rowText_151 : decode cX11_rowText 151 = .ok (.dup, 1) := dc_89 (byA eNcX11_rowText (p := 151) (v := 89) (by decide +kernel))
theorem dX11_rowText_152 : decode cX11_rowText 152 = .ok (.getfield 108, 3) := dc_180 (byA eNcX11_rowText (p := 152) (v := 180) (by decide +kernel)) (byA eNcX11_rowText (p := 153) (v := 0) (by decide +kernel)) (byA eNcX11_rowText (p := 154) (v := 108) (by decide +kernel)) rfl
theorem dX11_rowText_155 : decode cX11_rowText 155 = .ok (.iconst 1, 1) := dc_4 (byA eNcX11_rowText (p := 155) (v := 4) (by decide +kernel))
theorem dX11_rowText_156 : decode cX11_rowText 156 = .ok (.iadd, 1) := dc_96 (byA eNcX11_rowText (p := 156) (v := 96) (by decide +kernel))
theorem dX11_rowText_157 : decode cX11_rowText 157 = .ok (.putfield 108, 3) := dc_181 (byA eNcX11_rowText (p := 157) (v := 181) (by decide +kernel)) (byA eNcX11_rowText (p := 158) (v := 0) (by decide +kernel)) (byA eNcX11_rowText (p := 159) (v := 108) (by decide +kernel)) rfl
theorem dX11_rowText_160 : decode cX11_rowText 160 = .ok (.aload_n 0, 1) := dc_42 (byA eNcX11_rowText (p := 160) (v := 42) (by decide +kernel))
theorem dX11_rowText_161 : decode cX11_rowText 161 = .ok (.invokevirtual 127, 3) := dc_182 (byA eNcX11_rowText (p := 161) (v := 182) (by decide +kernel)) (byA eNcX11_rowText (p := 162) (v := 0) (by decide +kernel)) (byA eNcX11_rowText (p := 163) (v := 127) (by decide +kernel)) rfl
theorem dX11_rowText_164 : decode cX11_rowText 164 = .ok (.invokestatic 217, 3) := dc_184 (byA eNcX11_rowText (p := 164) (v := 184) (by decide +kernel)) (byA eNcX11_rowText (p := 165) (v := 0) (by decide +kernel)) (byA eNcX11_rowText (p := 166) (v := 217) (by decide +kernel)) rfl
theorem dX11_rowText_167 : decode cX11_rowText 167 = .ok (.istore_n 2, 1) := dc_61 (byA eNcX11_rowText (p := 167) (v := 61) (by decide +kernel))
theorem dX11_rowText_168 : decode cX11_rowText 168 = .ok (.goto (-158), 3) := dc_167 (byA eNcX11_rowText (p := 168) (v := 167) (by decide +kernel)) (byA eNcX11_rowText (p := 169) (v := 255) (by decide +kernel)) (byA eNcX11_rowText (p := 170) (v := 98) (by decide +kernel)) (by decide +kernel)
theorem dX11_rowText_171 : decode cX11_rowText 171 = .ok (.aload_n 0, 1) := dc_42 (byA eNcX11_rowText (p := 171) (v := 42) (by decide +kernel))
theorem dX11_rowText_172 : decode cX11_rowText 172 = .ok (.getfield 231, 3) := dc_180 (byA eNcX11_rowText (p := 172) (v := 180) (by decide +kernel)) (byA eNcX11_rowText (p := 173) (v := 0) (by decide +kernel)) (byA eNcX11_rowText (p := 174) (v := 231) (by decide +kernel)) rfl
theorem dX11_rowText_175 : decode cX11_rowText 175 = .ok (.ifCond .ne 11, 3) := dc_154 (byA eNcX11_rowText (p := 175) (v := 154) (by decide +kernel)) (byA eNcX11_rowText (p := 176) (v := 0) (by decide +kernel)) (byA eNcX11_rowText (p := 177) (v := 11) (by decide +kernel)) (by decide +kernel)
theorem dX11_rowText_178 : decode cX11_rowText 178 = .ok (.iload_n 1, 1) := dc_27 (byA eNcX11_rowText (p := 178) (v := 27) (by decide +kernel))
theorem dX11_rowText_179 : decode cX11_rowText 179 = .ok (.iconst 2, 1) := dc_5 (byA eNcX11_rowText (p := 179) (v := 5) (by decide +kernel))
theorem dX11_rowText_180 : decode cX11_rowText 180 = .ok (.if_icmp .ge 18, 3) := dc_162 (byA eNcX11_rowText (p := 180) (v := 162) (by decide +kernel)) (byA eNcX11_rowText (p := 181) (v := 0) (by decide +kernel)) (byA eNcX11_rowText (p := 182) (v := 18) (by decide +kernel)) (by decide +kernel)
theorem dX11_rowText_183 : decode cX11_rowText 183 = .ok (.goto 11, 3) := dc_167 (byA eNcX11_rowText (p := 183) (v := 167) (by decide +kernel)) (byA eNcX11_rowText (p := 184) (v := 0) (by decide +kernel)) (byA eNcX11_rowText (p := 185) (v := 11) (by decide +kernel)) (by decide +kernel)
theorem dX11_rowText_186 : decode cX11_rowText 186 = .ok (.iload_n 1, 1) := dc_27 (byA eNcX11_rowText (p := 186) (v := 27) (by decide +kernel))
theorem dX11_rowText_187 : decode cX11_rowText 187 = .ok (.aload_n 0, 1) := dc_42 (byA eNcX11_rowText (p := 187) (v := 42) (by decide +kernel))
theorem dX11_rowText_188 : decode cX11_rowText 188 = .ok (.getfield 234, 3) := dc_180 (byA eNcX11_rowText (p := 188) (v := 180) (by decide +kernel)) (byA eNcX11_rowText (p := 189) (v := 0) (by decide +kernel)) (byA eNcX11_rowText (p := 190) (v := 234) (by decide +kernel)) rfl
theorem dX11_rowText_191 : decode cX11_rowText 191 = .ok (.if_icmp .ge 7, 3) := dc_162 (byA eNcX11_rowText (p := 191) (v := 162) (by decide +kernel)) (byA eNcX11_rowText (p := 192) (v := 0) (by decide +kernel)) (byA eNcX11_rowText (p := 193) (v := 7) (by decide +kernel)) (by decide +kernel)
theorem dX11_rowText_194 : decode cX11_rowText 194 = .ok (.aload_n 0, 1) := dc_42 (byA eNcX11_rowText (p := 194) (v := 42) (by decide +kernel))
theorem dX11_rowText_195 : decode cX11_rowText 195 = .ok (.invokevirtual 124, 3) := dc_182 (byA eNcX11_rowText (p := 195) (v := 182) (by decide +kernel)) (byA eNcX11_rowText (p := 196) (v := 0) (by decide +kernel)) (byA eNcX11_rowText (p := 197) (v := 124) (by decide +kernel)) rfl
theorem dX11_rowText_198 : decode cX11_rowText 198 = .ok (.aload_n 0, 1) := dc_42 (byA eNcX11_rowText (p := 198) (v := 42) (by decide +kernel))
theorem dX11_rowText_199 : decode cX11_rowText 199 = .ok (.aload_n 0, 1) := dc_42 (byA eNcX11_rowText (p := 199) (v := 42) (by decide +kernel))
theorem dX11_rowText_200 : decode cX11_rowText 200 = .ok (.getfield 231, 3) := dc_180 (byA eNcX11_rowText (p := 200) (v := 180) (by decide +kernel)) (byA eNcX11_rowText (p := 201) (v := 0) (by decide +kernel)) (byA eNcX11_rowText (p := 202) (v := 231) (by decide +kernel)) rfl
theorem dX11_rowText_203 : decode cX11_rowText 203 = .ok (.ifCond .ne 7, 3) := dc_154 (byA eNcX11_rowText (p := 203) (v := 154) (by decide +kernel)) (byA eNcX11_rowText (p := 204) (v := 0) (by decide +kernel)) (byA eNcX11_rowText (p := 205) (v := 7) (by decide +kernel)) (by decide +kernel)
theorem dX11_rowText_206 : decode cX11_rowText 206 = .ok (.iload_n 1, 1) := dc_27 (byA eNcX11_rowText (p := 206) (v := 27) (by decide +kernel))
theorem dX11_rowText_207 : decode cX11_rowText 207 = .ok (.goto 7, 3) := dc_167 (byA eNcX11_rowText (p := 207) (v := 167) (by decide +kernel)) (byA eNcX11_rowText (p := 208) (v := 0) (by decide +kernel)) (byA eNcX11_rowText (p := 209) (v := 7) (by decide +kernel)) (by decide +kernel)
theorem dX11_rowText_210 : decode cX11_rowText 210 = .ok (.aload_n 0, 1) := dc_42 (byA eNcX11_rowText (p := 210) (v := 42) (by decide +kernel))
theorem dX11_rowText_211 : decode cX11_rowText 211 = .ok (.getfield 234, 3) := dc_180 (byA eNcX11_rowText (p := 211) (v := 180) (by decide +kernel)) (byA eNcX11_rowText (p := 212) (v := 0) (by decide +kernel)) (byA eNcX11_rowText (p := 213) (v := 234) (by decide +kernel)) rfl
theorem dX11_rowText_214 : decode cX11_rowText 214 = .ok (.putfield 234, 3) := dc_181 (byA eNcX11_rowText (p := 214) (v := 181) (by decide +kernel)) (byA eNcX11_rowText (p := 215) (v := 0) (by decide +kernel)) (byA eNcX11_rowText (p := 216) (v := 234) (by decide +kernel)) rfl
theorem dX11_rowText_217 : decode cX11_rowText 217 = .ok (.aload_n 0, 1) := dc_42 (byA eNcX11_rowText (p := 217) (v := 42) (by decide +kernel))
theorem dX11_rowText_218 : decode cX11_rowText 218 = .ok (.dup, 1) := dc_89 (byA eNcX11_rowText (p := 218) (v := 89) (by decide +kernel))
theorem dX11_rowText_219 : decode cX11_rowText 219 = .ok (.getfield 231, 3) := dc_180 (byA eNcX11_rowText (p := 219) (v := 180) (by decide +kernel)) (byA eNcX11_rowText (p := 220) (v := 0) (by decide +kernel)) (byA eNcX11_rowText (p := 221) (v := 231) (by decide +kernel)) rfl
theorem dX11_rowText_222 : decode cX11_rowText 222 = .ok (.iconst 1, 1) := dc_4 (byA eNcX11_rowText (p := 222) (v := 4) (by decide +kernel))
theorem dX11_rowText_223 : decode cX11_rowText 223 = .ok (.iadd, 1) := dc_96 (byA eNcX11_rowText (p := 223) (v := 96) (by decide +kernel))
theorem dX11_rowText_224 : decode cX11_rowText 224 = .ok (.putfield 231, 3) := dc_181 (byA eNcX11_rowText (p := 224) (v := 181) (by decide +kernel)) (byA eNcX11_rowText (p := 225) (v := 0) (by decide +kernel)) (byA eNcX11_rowText (p := 226) (v := 231) (by decide +kernel)) rfl
theorem dX11_rowText_227 : decode cX11_rowText 227 = .ok (.return_, 1) := dc_177 (byA eNcX11_rowText (p := 227) (v := 177) (by decide +kernel))
def X11_rowText_J128 (k10 : Int → Int → Mm → Rs) (l1 : Int) (l2 : Int) (s1 : Int) (s2 : Int) (μ : Mm) : Rs := sF μ 70 20 (bO s1 s2) fun μ18 => stA μ18 81 (iA (iM 10 (μ18 70 18)) l1) l2 fun μ19 => sF μ19 70 3 (iA (μ19 70 3) 1) fun μ21 => bd (X11_look μ21) fun v22 μ23 => bd (X11_signOf v22 μ23) fun v25 μ26 => k10 (iA l1 1) v25 μ26
def X11_rowText_J106 (k10 : Int → Int → Mm → Rs) (l1 : Int) (l2 : Int) (s1 : Int) (μ : Mm) : Rs := sZ μ 70 21 s1 fun μ15 => if l2 < 3 then (X11_rowText_J128 (fun w1 w2 μq => k10 w1 w2 μq) l1 l2 (μ15 70 20) 0 μ15) else (X11_rowText_J128 (fun w1 w2 μq => k10 w1 w2 μq) l1 l2 (μ15 70 20) (bL 1 (iS l2 3)) μ15)
def X11_rowText_J101 (k10 : Int → Int → Mm → Rs) (l1 : Int) (l2 : Int) (μ : Mm) : Rs := X11_rowText_J106 (fun w1 w2 μq => k10 w1 w2 μq) l1 l2 1 μ
def X11_rowText_J80 (k10 : Int → Int → Mm → Rs) (k83 : Mm → Rs) (l1 : Int) (l2 : Int) (s0 : Int) (s1 : Int) (μ : Mm) : Rs := if s0 = s1 then (k83 μ) else (if (μ 70 21) = 0 then (if l2 = 2 then (X11_rowText_J101 (fun w1 w2 μq => k10 w1 w2 μq) l1 l2 μ) else (X11_rowText_J106 (fun w1 w2 μq => k10 w1 w2 μq) l1 l2 0 μ)) else (X11_rowText_J101 (fun w1 w2 μq => k10 w1 w2 μq) l1 l2 μ))
def X11_rowText_J58 (k10 : Int → Int → Mm → Rs) (k83 : Mm → Rs) (l1 : Int) (l2 : Int) (s0 : Int) (μ : Mm) : Rs := if s0 = 0 then (if (μ 70 18) = 0 then (X11_rowText_J80 (fun w1 w2 μq => k10 w1 w2 μq) (fun μq => k83 μq) l1 l2 l1 9 μ) else (X11_rowText_J80 (fun w1 w2 μq => k10 w1 w2 μq) (fun μq => k83 μq) l1 l2 l1 (μ 70 19) μ)) else (k83 μ)
def X11_rowText_J57 (k10 : Int → Int → Mm → Rs) (k83 : Mm → Rs) (l1 : Int) (l2 : Int) (μ : Mm) : Rs := X11_rowText_J58 (fun w1 w2 μq => k10 w1 w2 μq) (fun μq => k83 μq) l1 l2 0 μ
def X11_rowText_J53 (k10 : Int → Int → Mm → Rs) (k83 : Mm → Rs) (l1 : Int) (l2 : Int) (μ : Mm) : Rs := X11_rowText_J58 (fun w1 w2 μq => k10 w1 w2 μq) (fun μq => k83 μq) l1 l2 1 μ
def X11_rowText_J35 (k10 : Int → Int → Mm → Rs) (k83 : Mm → Rs) (l1 : Int) (l2 : Int) (μ : Mm) : Rs := if l2 < 3 then (X11_rowText_J57 (fun w1 w2 μq => k10 w1 w2 μq) (fun μq => k83 μq) l1 l2 μ) else (bd (X11_has (μ 70 20) (iS l2 3) μ) fun v29 μ30 => if v29 = 0 then (X11_rowText_J57 (fun w1 w2 μq => k10 w1 w2 μq) (fun μq => k83 μq) l1 l2 μ30) else (X11_rowText_J53 (fun w1 w2 μq => k10 w1 w2 μq) (fun μq => k83 μq) l1 l2 μ30))
def X11_rowText_L10 (k171 : Int → Mm → Rs) (k83 : Mm → Rs) : Nat → Int → Int → Mm → Rs
  | 0, _, _, _ => none
  | n + 1, l1, l2, μ => if (μ 70 4) = (-1) then (if l2 = (-1) then (k171 l1 μ) else (if l2 = 2 then (if (μ 70 21) = 0 then (X11_rowText_J35 (fun w1 w2 μq => X11_rowText_L10 k171 k83 n w1 w2 μq) (fun μq => k83 μq) l1 l2 μ) else (X11_rowText_J53 (fun w1 w2 μq => X11_rowText_L10 k171 k83 n w1 w2 μq) (fun μq => k83 μq) l1 l2 μ)) else (X11_rowText_J35 (fun w1 w2 μq => X11_rowText_L10 k171 k83 n w1 w2 μq) (fun μq => k83 μq) l1 l2 μ))) else (k171 l1 μ)
def X11_rowText_J198 (l1 : Int) (μ : Mm) : Rs := if (μ 70 18) = 0 then (sF μ 70 19 l1 fun μ41 => sF μ41 70 18 (iA (μ41 70 18) 1) fun μ42 => some (0, μ42)) else (sF μ 70 19 (μ 70 19) fun μ39 => sF μ39 70 18 (iA (μ39 70 18) 1) fun μ40 => some (0, μ40))
def X11_rowText_J194 (l1 : Int) (μ : Mm) : Rs := bd (X11_bad μ) fun v43 μ44 => X11_rowText_J198 l1 μ44
def X11_rowText_J171 (l1 : Int) (μ : Mm) : Rs := if (μ 70 18) = 0 then (if 2 ≤ l1 then (X11_rowText_J198 l1 μ) else (X11_rowText_J194 l1 μ)) else (if (μ 70 19) ≤ l1 then (X11_rowText_J198 l1 μ) else (X11_rowText_J194 l1 μ))
def X11_rowText (μ : Mm) : Rs := bd (X11_look μ) fun v1 μ2 => bd (X11_signOf v1 μ2) fun v4 μ5 => X11_rowText_L10 (fun v34 μ35 => X11_rowText_J171 v34 μ35) (fun μ47 => bd (X11_bad μ47) fun v48 μ49 => some (0, μ49)) FU 0 v4 μ5
set_option maxHeartbeats 4000000 in
set_option maxRecDepth 100000 in
theorem kX11_rowText_J128 (d : Nat) (hd : 3 ≤ d) {k10 : Int → Int → Mm → Rs} {l1 : Int} {l2 : Int} {s1 : Int} {s2 : Int} {μ : Mm} {r : Int} {μ' : Mm} (hk_10 : ∀ (v1 v2 : Int) (μ1 : Mm), k10 v1 v2 μ1 = some (r, μ') → VV d mX11_rowText 10 [some (vR 70), some (vI v1), some (vI v2), none] [] μ1 r μ') (h : X11_rowText_J128 k10 l1 l2 s1 s2 μ = some (r, μ')) : VV d mX11_rowText 128 [some (vR 70), some (vI l1), some (vI l2), none] [vI s2, vI s1, vR 70] μ r μ' := by
  unfold X11_rowText_J128 at h
  refine V_ior (q := 129) dX11_rowText_128 rfl ?_
  have h := sF_i h
  refine V_putI (q := 132) fl_X11_224 rfl rfl rfl dX11_rowText_129 rfl ?_
  refine V_aload_n (q := 133) dX11_rowText_132 rfl rfl rfl ?_
  refine V_getO (q := 136) (t := 81) fl_X11_40 rfl rfl rfl rfl dX11_rowText_133 rfl ?_
  refine V_bipush (q := 138) dX11_rowText_136 rfl rfl rfl ?_
  refine V_aload_n (q := 139) dX11_rowText_138 rfl rfl rfl ?_
  refine V_getI (q := 142) fl_X11_231 rfl rfl rfl dX11_rowText_139 rfl ?_
  refine V_imul (q := 143) dX11_rowText_142 rfl ?_
  refine V_iload_n (q := 144) dX11_rowText_143 rfl rfl rfl ?_
  refine V_iadd (q := 145) dX11_rowText_144 rfl ?_
  refine V_iload_n (q := 146) dX11_rowText_145 rfl rfl rfl ?_
  obtain ⟨hi20, h⟩ := stA_i h
  refine V_iastore (q := 147) rfl hi20 dX11_rowText_146 rfl ?_
  refine V_iinc (q := 150) dX11_rowText_147 rfl (Nat.le_of_ble_eq_true rfl) trivial rfl ?_
  refine V_aload_n (q := 151) dX11_rowText_150 rfl rfl rfl ?_
  refine V_dup (q := 152) dX11_rowText_151 trivial rfl ?_
  refine V_getI (q := 155) fl_X11_108 rfl rfl rfl dX11_rowText_152 rfl ?_
  refine V_iconst (q := 156) dX11_rowText_155 rfl rfl ?_
  refine V_iadd (q := 157) dX11_rowText_156 rfl ?_
  have h := sF_i h
  refine V_putI (q := 160) fl_X11_108 rfl rfl rfl dX11_rowText_157 rfl ?_
  refine V_aload_n (q := 161) dX11_rowText_160 rfl rfl rfl ?_
  obtain ⟨v22, μ23, hc24, h⟩ := bd_i h
  refine V_cV1 (q := 164) (v := vI v22) (kX11_look (d - 1) (by omega) hc24) (by omega) mv_X11_127 rfl rfl rfl rfl rfl rfl dX11_rowText_161 rfl ?_
  obtain ⟨v25, μ26, hc27, h⟩ := bd_i h
  refine V_cS1 (q := 167) (v := vI v25) (kX11_signOf (d - 1) (by omega) hc27) (by omega) mv_X11_217 rfl rfl rfl rfl dX11_rowText_164 rfl ?_
  refine V_istore_n (q := 168) dX11_rowText_167 rfl (Nat.le_of_ble_eq_true rfl) trivial rfl ?_
  refine V_goto (q := 10) dX11_rowText_168 (by decide) ?_
  exact V_weak (hk_10 _ _ _ h) (sb_s rfl (sb_s rfl (sb_s rfl (sb_n sb_0))))
set_option maxHeartbeats 4000000 in
set_option maxRecDepth 100000 in
theorem kX11_rowText_J106 (d : Nat) (hd : 3 ≤ d) {k10 : Int → Int → Mm → Rs} {l1 : Int} {l2 : Int} {s1 : Int} {μ : Mm} {r : Int} {μ' : Mm} (hk_10 : ∀ (v1 v2 : Int) (μ1 : Mm), k10 v1 v2 μ1 = some (r, μ') → VV d mX11_rowText 10 [some (vR 70), some (vI v1), some (vI v2), none] [] μ1 r μ') (h : X11_rowText_J106 k10 l1 l2 s1 μ = some (r, μ')) : VV d mX11_rowText 106 [some (vR 70), some (vI l1), some (vI l2), none] [vI s1, vR 70] μ r μ' := by
  unfold X11_rowText_J106 at h
  obtain ⟨hz16, h⟩ := sZ_i h
  refine V_putZ (q := 109) fl_X11_220 rfl rfl rfl hz16 dX11_rowText_106 rfl ?_
  refine V_aload_n (q := 110) dX11_rowText_109 rfl rfl rfl ?_
  refine V_dup (q := 111) dX11_rowText_110 trivial rfl ?_
  refine V_getI (q := 114) fl_X11_224 rfl rfl rfl dX11_rowText_111 rfl ?_
  refine V_iload_n (q := 115) dX11_rowText_114 rfl rfl rfl ?_
  refine V_iconst (q := 116) dX11_rowText_115 rfl rfl ?_
  refine V_icmplt (q := 127) (q2 := 119) dX11_rowText_116 (by decide) rfl (fun hc17 => ?_) (fun hc17 => ?_)
  · have h := ifT hc17 h
    refine V_iconst (q := 128) dX11_rowText_127 rfl rfl ?_
    exact V_weak (kX11_rowText_J128 d hd (fun _ _ _ h => hk_10 _ _ _ h) h) (sb_s rfl (sb_s rfl (sb_s rfl (sb_n sb_0))))
  · have h := ifF hc17 h
    refine V_iconst (q := 120) dX11_rowText_119 rfl rfl ?_
    refine V_iload_n (q := 121) dX11_rowText_120 rfl rfl rfl ?_
    refine V_iconst (q := 122) dX11_rowText_121 rfl rfl ?_
    refine V_isub (q := 123) dX11_rowText_122 rfl ?_
    refine V_ishl (q := 124) dX11_rowText_123 rfl ?_
    refine V_goto (q := 128) dX11_rowText_124 (by decide) ?_
    exact V_weak (kX11_rowText_J128 d hd (fun _ _ _ h => hk_10 _ _ _ h) h) (sb_s rfl (sb_s rfl (sb_s rfl (sb_n sb_0))))
set_option maxHeartbeats 4000000 in
set_option maxRecDepth 100000 in
theorem kX11_rowText_J101 (d : Nat) (hd : 3 ≤ d) {k10 : Int → Int → Mm → Rs} {l1 : Int} {l2 : Int} {μ : Mm} {r : Int} {μ' : Mm} (hk_10 : ∀ (v1 v2 : Int) (μ1 : Mm), k10 v1 v2 μ1 = some (r, μ') → VV d mX11_rowText 10 [some (vR 70), some (vI v1), some (vI v2), none] [] μ1 r μ') (h : X11_rowText_J101 k10 l1 l2 μ = some (r, μ')) : VV d mX11_rowText 101 [some (vR 70), some (vI l1), some (vI l2), none] [vR 70] μ r μ' := by
  unfold X11_rowText_J101 at h
  refine V_iconst (q := 102) dX11_rowText_101 rfl rfl ?_
  refine V_goto (q := 106) dX11_rowText_102 (by decide) ?_
  exact V_weak (kX11_rowText_J106 d hd (fun _ _ _ h => hk_10 _ _ _ h) h) (sb_s rfl (sb_s rfl (sb_s rfl (sb_n sb_0))))
set_option maxHeartbeats 4000000 in
set_option maxRecDepth 100000 in
theorem kX11_rowText_J80 (d : Nat) (hd : 3 ≤ d) {k10 : Int → Int → Mm → Rs} {k83 : Mm → Rs} {l1 : Int} {l2 : Int} {s0 : Int} {s1 : Int} {μ : Mm} {r : Int} {μ' : Mm} (hk_10 : ∀ (v1 v2 : Int) (μ1 : Mm), k10 v1 v2 μ1 = some (r, μ') → VV d mX11_rowText 10 [some (vR 70), some (vI v1), some (vI v2), none] [] μ1 r μ') (hk_83 : ∀ (μ1 : Mm), k83 μ1 = some (r, μ') → VV d mX11_rowText 83 [some (vR 70), none, none, none] [] μ1 r μ') (h : X11_rowText_J80 k10 k83 l1 l2 s0 s1 μ = some (r, μ')) : VV d mX11_rowText 80 [some (vR 70), some (vI l1), some (vI l2), none] [vI s1, vI s0] μ r μ' := by
  unfold X11_rowText_J80 at h
  refine V_icmpne (q := 88) (q2 := 83) dX11_rowText_80 (by decide) rfl (fun hc13 => ?_) (fun hc13 => ?_)
  · have h := ifF hc13 h
    refine V_aload_n (q := 89) dX11_rowText_88 rfl rfl rfl ?_
    refine V_aload_n (q := 90) dX11_rowText_89 rfl rfl rfl ?_
    refine V_getI (q := 93) fl_X11_220 rfl rfl rfl dX11_rowText_90 rfl ?_
    refine V_ifne (q := 101) (q2 := 96) dX11_rowText_93 (by decide) rfl (fun hc14 => ?_) (fun hc14 => ?_)
    · have h := ifF hc14 h
      exact V_weak (kX11_rowText_J101 d hd (fun _ _ _ h => hk_10 _ _ _ h) h) (sb_s rfl (sb_s rfl (sb_s rfl (sb_n sb_0))))
    · have h := ifT hc14 h
      refine V_iload_n (q := 97) dX11_rowText_96 rfl rfl rfl ?_
      refine V_iconst (q := 98) dX11_rowText_97 rfl rfl ?_
      refine V_icmpne (q := 105) (q2 := 101) dX11_rowText_98 (by decide) rfl (fun hc28 => ?_) (fun hc28 => ?_)
      · have h := ifF hc28 h
        refine V_iconst (q := 106) dX11_rowText_105 rfl rfl ?_
        exact V_weak (kX11_rowText_J106 d hd (fun _ _ _ h => hk_10 _ _ _ h) h) (sb_s rfl (sb_s rfl (sb_s rfl (sb_n sb_0))))
      · have h := ifT hc28 h
        exact V_weak (kX11_rowText_J101 d hd (fun _ _ _ h => hk_10 _ _ _ h) h) (sb_s rfl (sb_s rfl (sb_s rfl (sb_n sb_0))))
  · have h := ifT hc13 h
    exact V_weak (hk_83 _ h) (sb_s rfl (sb_n (sb_n (sb_n sb_0))))
set_option maxHeartbeats 4000000 in
set_option maxRecDepth 100000 in
theorem kX11_rowText_J58 (d : Nat) (hd : 3 ≤ d) {k10 : Int → Int → Mm → Rs} {k83 : Mm → Rs} {l1 : Int} {l2 : Int} {s0 : Int} {μ : Mm} {r : Int} {μ' : Mm} (hk_10 : ∀ (v1 v2 : Int) (μ1 : Mm), k10 v1 v2 μ1 = some (r, μ') → VV d mX11_rowText 10 [some (vR 70), some (vI v1), some (vI v2), none] [] μ1 r μ') (hk_83 : ∀ (μ1 : Mm), k83 μ1 = some (r, μ') → VV d mX11_rowText 83 [some (vR 70), none, none, none] [] μ1 r μ') (h : X11_rowText_J58 k10 k83 l1 l2 s0 μ = some (r, μ')) : VV d mX11_rowText 58 [some (vR 70), some (vI l1), some (vI l2), none] [vI s0] μ r μ' := by
  unfold X11_rowText_J58 at h
  refine V_istore_n (q := 59) dX11_rowText_58 rfl (Nat.le_of_ble_eq_true rfl) trivial rfl ?_
  refine V_iload_n (q := 60) dX11_rowText_59 rfl rfl rfl ?_
  refine V_ifne (q := 83) (q2 := 63) dX11_rowText_60 (by decide) rfl (fun hc11 => ?_) (fun hc11 => ?_)
  · have h := ifF hc11 h
    exact V_weak (hk_83 _ h) (sb_s rfl (sb_n (sb_n (sb_n sb_0))))
  · have h := ifT hc11 h
    refine V_iload_n (q := 64) dX11_rowText_63 rfl rfl rfl ?_
    refine V_aload_n (q := 65) dX11_rowText_64 rfl rfl rfl ?_
    refine V_getI (q := 68) fl_X11_231 rfl rfl rfl dX11_rowText_65 rfl ?_
    refine V_ifne (q := 76) (q2 := 71) dX11_rowText_68 (by decide) rfl (fun hc12 => ?_) (fun hc12 => ?_)
    · have h := ifF hc12 h
      refine V_aload_n (q := 77) dX11_rowText_76 rfl rfl rfl ?_
      refine V_getI (q := 80) fl_X11_234 rfl rfl rfl dX11_rowText_77 rfl ?_
      exact V_weak (kX11_rowText_J80 d hd (fun _ _ _ h => hk_10 _ _ _ h) (fun _ h => hk_83 _ h) h) (sb_s rfl (sb_s rfl (sb_s rfl (sb_n sb_0))))
    · have h := ifT hc12 h
      refine V_bipush (q := 73) dX11_rowText_71 rfl rfl rfl ?_
      refine V_goto (q := 80) dX11_rowText_73 (by decide) ?_
      exact V_weak (kX11_rowText_J80 d hd (fun _ _ _ h => hk_10 _ _ _ h) (fun _ h => hk_83 _ h) h) (sb_s rfl (sb_s rfl (sb_s rfl (sb_n sb_0))))
set_option maxHeartbeats 4000000 in
set_option maxRecDepth 100000 in
theorem kX11_rowText_J57 (d : Nat) (hd : 3 ≤ d) {k10 : Int → Int → Mm → Rs} {k83 : Mm → Rs} {l1 : Int} {l2 : Int} {μ : Mm} {r : Int} {μ' : Mm} (hk_10 : ∀ (v1 v2 : Int) (μ1 : Mm), k10 v1 v2 μ1 = some (r, μ') → VV d mX11_rowText 10 [some (vR 70), some (vI v1), some (vI v2), none] [] μ1 r μ') (hk_83 : ∀ (μ1 : Mm), k83 μ1 = some (r, μ') → VV d mX11_rowText 83 [some (vR 70), none, none, none] [] μ1 r μ') (h : X11_rowText_J57 k10 k83 l1 l2 μ = some (r, μ')) : VV d mX11_rowText 57 [some (vR 70), some (vI l1), some (vI l2), none] [] μ r μ' := by
  unfold X11_rowText_J57 at h
  refine V_iconst (q := 58) dX11_rowText_57 rfl rfl ?_
  exact V_weak (kX11_rowText_J58 d hd (fun _ _ _ h => hk_10 _ _ _ h) (fun _ h => hk_83 _ h) h) (sb_s rfl (sb_s rfl (sb_s rfl (sb_n sb_0))))
set_option maxHeartbeats 4000000 in
set_option maxRecDepth 100000 in
theorem kX11_rowText_J53 (d : Nat) (hd : 3 ≤ d) {k10 : Int → Int → Mm → Rs} {k83 : Mm → Rs} {l1 : Int} {l2 : Int} {μ : Mm} {r : Int} {μ' : Mm} (hk_10 : ∀ (v1 v2 : Int) (μ1 : Mm), k10 v1 v2 μ1 = some (r, μ') → VV d mX11_rowText 10 [some (vR 70), some (vI v1), some (vI v2), none] [] μ1 r μ') (hk_83 : ∀ (μ1 : Mm), k83 μ1 = some (r, μ') → VV d mX11_rowText 83 [some (vR 70), none, none, none] [] μ1 r μ') (h : X11_rowText_J53 k10 k83 l1 l2 μ = some (r, μ')) : VV d mX11_rowText 53 [some (vR 70), some (vI l1), some (vI l2), none] [] μ r μ' := by
  unfold X11_rowText_J53 at h
  refine V_iconst (q := 54) dX11_rowText_53 rfl rfl ?_
  refine V_goto (q := 58) dX11_rowText_54 (by decide) ?_
  exact V_weak (kX11_rowText_J58 d hd (fun _ _ _ h => hk_10 _ _ _ h) (fun _ h => hk_83 _ h) h) (sb_s rfl (sb_s rfl (sb_s rfl (sb_n sb_0))))
set_option maxHeartbeats 4000000 in
set_option maxRecDepth 100000 in
theorem kX11_rowText_J35 (d : Nat) (hd : 3 ≤ d) {k10 : Int → Int → Mm → Rs} {k83 : Mm → Rs} {l1 : Int} {l2 : Int} {μ : Mm} {r : Int} {μ' : Mm} (hk_10 : ∀ (v1 v2 : Int) (μ1 : Mm), k10 v1 v2 μ1 = some (r, μ') → VV d mX11_rowText 10 [some (vR 70), some (vI v1), some (vI v2), none] [] μ1 r μ') (hk_83 : ∀ (μ1 : Mm), k83 μ1 = some (r, μ') → VV d mX11_rowText 83 [some (vR 70), none, none, none] [] μ1 r μ') (h : X11_rowText_J35 k10 k83 l1 l2 μ = some (r, μ')) : VV d mX11_rowText 35 [some (vR 70), some (vI l1), some (vI l2), none] [] μ r μ' := by
  unfold X11_rowText_J35 at h
  refine V_iload_n (q := 36) dX11_rowText_35 rfl rfl rfl ?_
  refine V_iconst (q := 37) dX11_rowText_36 rfl rfl ?_
  refine V_icmplt (q := 57) (q2 := 40) dX11_rowText_37 (by decide) rfl (fun hc10 => ?_) (fun hc10 => ?_)
  · have h := ifT hc10 h
    exact V_weak (kX11_rowText_J57 d hd (fun _ _ _ h => hk_10 _ _ _ h) (fun _ h => hk_83 _ h) h) (sb_s rfl (sb_s rfl (sb_s rfl (sb_n sb_0))))
  · have h := ifF hc10 h
    refine V_aload_n (q := 41) dX11_rowText_40 rfl rfl rfl ?_
    refine V_getI (q := 44) fl_X11_224 rfl rfl rfl dX11_rowText_41 rfl ?_
    refine V_iload_n (q := 45) dX11_rowText_44 rfl rfl rfl ?_
    refine V_iconst (q := 46) dX11_rowText_45 rfl rfl ?_
    refine V_isub (q := 47) dX11_rowText_46 rfl ?_
    obtain ⟨v29, μ30, hc31, h⟩ := bd_i h
    refine V_cS1 (q := 50) (v := vI v29) (kX11_has (d - 1) (by omega) hc31) (by omega) mv_X11_227 rfl rfl rfl rfl dX11_rowText_47 rfl ?_
    refine V_ifeq (q := 57) (q2 := 53) dX11_rowText_50 (by decide) rfl (fun hc32 => ?_) (fun hc32 => ?_)
    · have h := ifT hc32 h
      exact V_weak (kX11_rowText_J57 d hd (fun _ _ _ h => hk_10 _ _ _ h) (fun _ h => hk_83 _ h) h) (sb_s rfl (sb_s rfl (sb_s rfl (sb_n sb_0))))
    · have h := ifF hc32 h
      exact V_weak (kX11_rowText_J53 d hd (fun _ _ _ h => hk_10 _ _ _ h) (fun _ h => hk_83 _ h) h) (sb_s rfl (sb_s rfl (sb_s rfl (sb_n sb_0))))
set_option maxHeartbeats 4000000 in
set_option maxRecDepth 100000 in
theorem kX11_rowText_L10 (d : Nat) (hd : 3 ≤ d) {k171 : Int → Mm → Rs} {k83 : Mm → Rs} {r : Int} {μ' : Mm} (hk_171 : ∀ (v1 : Int) (μ1 : Mm), k171 v1 μ1 = some (r, μ') → VV d mX11_rowText 171 [some (vR 70), some (vI v1), none, none] [] μ1 r μ') (hk_83 : ∀ (μ1 : Mm), k83 μ1 = some (r, μ') → VV d mX11_rowText 83 [some (vR 70), none, none, none] [] μ1 r μ') : ∀ (n : Nat) {l1 l2 : Int} {μ : Mm}, X11_rowText_L10 k171 k83 n l1 l2 μ = some (r, μ') → VV d mX11_rowText 10 [some (vR 70), some (vI l1), some (vI l2), none] [] μ r μ' := by
  intro n
  induction n with
  | zero => intro l1 l2 μ h; rw [X11_rowText_L10] at h; cases h
  | succ n ih =>
    intro l1 l2 μ h
    rw [X11_rowText_L10] at h
    refine V_aload_n (q := 11) dX11_rowText_10 rfl rfl rfl ?_
    refine V_getI (q := 14) fl_X11_115 rfl rfl rfl dX11_rowText_11 rfl ?_
    refine V_iconst (q := 15) dX11_rowText_14 rfl rfl ?_
    refine V_icmpne (q := 171) (q2 := 18) dX11_rowText_15 (by decide) rfl (fun hc7 => ?_) (fun hc7 => ?_)
    · have h := ifF hc7 h
      exact V_weak (hk_171 _ _ h) (sb_s rfl (sb_s rfl (sb_n (sb_n sb_0))))
    · have h := ifT hc7 h
      refine V_iload_n (q := 19) dX11_rowText_18 rfl rfl rfl ?_
      refine V_iconst (q := 20) dX11_rowText_19 rfl rfl ?_
      refine V_icmpeq (q := 171) (q2 := 23) dX11_rowText_20 (by decide) rfl (fun hc8 => ?_) (fun hc8 => ?_)
      · have h := ifT hc8 h
        exact V_weak (hk_171 _ _ h) (sb_s rfl (sb_s rfl (sb_n (sb_n sb_0))))
      · have h := ifF hc8 h
        refine V_iload_n (q := 24) dX11_rowText_23 rfl rfl rfl ?_
        refine V_iconst (q := 25) dX11_rowText_24 rfl rfl ?_
        refine V_icmpne (q := 35) (q2 := 28) dX11_rowText_25 (by decide) rfl (fun hc9 => ?_) (fun hc9 => ?_)
        · have h := ifF hc9 h
          exact V_weak (kX11_rowText_J35 d hd (fun _ _ _ h => ih h) (fun _ h => hk_83 _ h) h) (sb_s rfl (sb_s rfl (sb_s rfl (sb_n sb_0))))
        · have h := ifT hc9 h
          refine V_aload_n (q := 29) dX11_rowText_28 rfl rfl rfl ?_
          refine V_getI (q := 32) fl_X11_220 rfl rfl rfl dX11_rowText_29 rfl ?_
          refine V_ifne (q := 53) (q2 := 35) dX11_rowText_32 (by decide) rfl (fun hc33 => ?_) (fun hc33 => ?_)
          · have h := ifF hc33 h
            exact V_weak (kX11_rowText_J53 d hd (fun _ _ _ h => ih h) (fun _ h => hk_83 _ h) h) (sb_s rfl (sb_s rfl (sb_s rfl (sb_n sb_0))))
          · have h := ifT hc33 h
            exact V_weak (kX11_rowText_J35 d hd (fun _ _ _ h => ih h) (fun _ h => hk_83 _ h) h) (sb_s rfl (sb_s rfl (sb_s rfl (sb_n sb_0))))
set_option maxHeartbeats 4000000 in
set_option maxRecDepth 100000 in
theorem kX11_rowText_J198 (d : Nat) (hd : 3 ≤ d) {l1 : Int} {μ : Mm} {r : Int} {μ' : Mm} (h : X11_rowText_J198 l1 μ = some (r, μ')) : VV d mX11_rowText 198 [some (vR 70), some (vI l1), none, none] [] μ r μ' := by
  unfold X11_rowText_J198 at h
  refine V_aload_n (q := 199) dX11_rowText_198 rfl rfl rfl ?_
  refine V_aload_n (q := 200) dX11_rowText_199 rfl rfl rfl ?_
  refine V_getI (q := 203) fl_X11_231 rfl rfl rfl dX11_rowText_200 rfl ?_
  refine V_ifne (q := 210) (q2 := 206) dX11_rowText_203 (by decide) rfl (fun hc38 => ?_) (fun hc38 => ?_)
  · have h := ifF hc38 h
    refine V_aload_n (q := 211) dX11_rowText_210 rfl rfl rfl ?_
    refine V_getI (q := 214) fl_X11_234 rfl rfl rfl dX11_rowText_211 rfl ?_
    have h := sF_i h
    refine V_putI (q := 217) fl_X11_234 rfl rfl rfl dX11_rowText_214 rfl ?_
    refine V_aload_n (q := 218) dX11_rowText_217 rfl rfl rfl ?_
    refine V_dup (q := 219) dX11_rowText_218 trivial rfl ?_
    refine V_getI (q := 222) fl_X11_231 rfl rfl rfl dX11_rowText_219 rfl ?_
    refine V_iconst (q := 223) dX11_rowText_222 rfl rfl ?_
    refine V_iadd (q := 224) dX11_rowText_223 rfl ?_
    have h := sF_i h
    refine V_putI (q := 227) fl_X11_231 rfl rfl rfl dX11_rowText_224 rfl ?_
    exact V_vret rfl h dX11_rowText_227
  · have h := ifT hc38 h
    refine V_iload_n (q := 207) dX11_rowText_206 rfl rfl rfl ?_
    refine V_goto (q := 214) dX11_rowText_207 (by decide) ?_
    have h := sF_i h
    refine V_putI (q := 217) fl_X11_234 rfl rfl rfl dX11_rowText_214 rfl ?_
    refine V_aload_n (q := 218) dX11_rowText_217 rfl rfl rfl ?_
    refine V_dup (q := 219) dX11_rowText_218 trivial rfl ?_
    refine V_getI (q := 222) fl_X11_231 rfl rfl rfl dX11_rowText_219 rfl ?_
    refine V_iconst (q := 223) dX11_rowText_222 rfl rfl ?_
    refine V_iadd (q := 224) dX11_rowText_223 rfl ?_
    have h := sF_i h
    refine V_putI (q := 227) fl_X11_231 rfl rfl rfl dX11_rowText_224 rfl ?_
    exact V_vret rfl h dX11_rowText_227
set_option maxHeartbeats 4000000 in
set_option maxRecDepth 100000 in
theorem kX11_rowText_J194 (d : Nat) (hd : 3 ≤ d) {l1 : Int} {μ : Mm} {r : Int} {μ' : Mm} (h : X11_rowText_J194 l1 μ = some (r, μ')) : VV d mX11_rowText 194 [some (vR 70), some (vI l1), none, none] [] μ r μ' := by
  unfold X11_rowText_J194 at h
  refine V_aload_n (q := 195) dX11_rowText_194 rfl rfl rfl ?_
  obtain ⟨v43, μ44, hc45, h⟩ := bd_i h
  refine V_cV0 (q := 198) (kX11_bad (d - 1) (by omega) hc45) (by omega) mv_X11_124 rfl rfl rfl rfl rfl rfl dX11_rowText_195 rfl ?_
  exact V_weak (kX11_rowText_J198 d hd h) (sb_s rfl (sb_s rfl (sb_n (sb_n sb_0))))
set_option maxHeartbeats 4000000 in
set_option maxRecDepth 100000 in
theorem kX11_rowText_J171 (d : Nat) (hd : 3 ≤ d) {l1 : Int} {μ : Mm} {r : Int} {μ' : Mm} (h : X11_rowText_J171 l1 μ = some (r, μ')) : VV d mX11_rowText 171 [some (vR 70), some (vI l1), none, none] [] μ r μ' := by
  unfold X11_rowText_J171 at h
  refine V_aload_n (q := 172) dX11_rowText_171 rfl rfl rfl ?_
  refine V_getI (q := 175) fl_X11_231 rfl rfl rfl dX11_rowText_172 rfl ?_
  refine V_ifne (q := 186) (q2 := 178) dX11_rowText_175 (by decide) rfl (fun hc36 => ?_) (fun hc36 => ?_)
  · have h := ifF hc36 h
    refine V_iload_n (q := 187) dX11_rowText_186 rfl rfl rfl ?_
    refine V_aload_n (q := 188) dX11_rowText_187 rfl rfl rfl ?_
    refine V_getI (q := 191) fl_X11_234 rfl rfl rfl dX11_rowText_188 rfl ?_
    refine V_icmpge (q := 198) (q2 := 194) dX11_rowText_191 (by decide) rfl (fun hc37 => ?_) (fun hc37 => ?_)
    · have h := ifT hc37 h
      exact V_weak (kX11_rowText_J198 d hd h) (sb_s rfl (sb_s rfl (sb_n (sb_n sb_0))))
    · have h := ifF hc37 h
      exact V_weak (kX11_rowText_J194 d hd h) (sb_s rfl (sb_s rfl (sb_n (sb_n sb_0))))
  · have h := ifT hc36 h
    refine V_iload_n (q := 179) dX11_rowText_178 rfl rfl rfl ?_
    refine V_iconst (q := 180) dX11_rowText_179 rfl rfl ?_
    refine V_icmpge (q := 198) (q2 := 183) dX11_rowText_180 (by decide) rfl (fun hc46 => ?_) (fun hc46 => ?_)
    · have h := ifT hc46 h
      exact V_weak (kX11_rowText_J198 d hd h) (sb_s rfl (sb_s rfl (sb_n (sb_n sb_0))))
    · have h := ifF hc46 h
      refine V_goto (q := 194) dX11_rowText_183 (by decide) ?_
      exact V_weak (kX11_rowText_J194 d hd h) (sb_s rfl (sb_s rfl (sb_n (sb_n sb_0))))
set_option maxHeartbeats 4000000 in
set_option maxRecDepth 100000 in
theorem kX11_rowText (d : Nat) (hd : 3 ≤ d) {μ : Mm} {r : Int} {μ' : Mm} (h : X11_rowText μ = some (r, μ')) : CC d mX11_rowText [vR 70] μ r μ' := by
  unfold X11_rowText at h
  refine V_enter (by decide) (Nat.le_of_ble_eq_true rfl) ?_
  show VV d mX11_rowText 0 [some (vR 70), none, none, none] [] μ r μ'
  refine V_iconst (q := 1) dX11_rowText_0 rfl rfl ?_
  refine V_istore_n (q := 2) dX11_rowText_1 rfl (Nat.le_of_ble_eq_true rfl) trivial rfl ?_
  refine V_aload_n (q := 3) dX11_rowText_2 rfl rfl rfl ?_
  obtain ⟨v1, μ2, hc3, h⟩ := bd_i h
  refine V_cV1 (q := 6) (v := vI v1) (kX11_look (d - 1) (by omega) hc3) (by omega) mv_X11_127 rfl rfl rfl rfl rfl rfl dX11_rowText_3 rfl ?_
  obtain ⟨v4, μ5, hc6, h⟩ := bd_i h
  refine V_cS1 (q := 9) (v := vI v4) (kX11_signOf (d - 1) (by omega) hc6) (by omega) mv_X11_217 rfl rfl rfl rfl dX11_rowText_6 rfl ?_
  refine V_istore_n (q := 10) dX11_rowText_9 rfl (Nat.le_of_ble_eq_true rfl) trivial rfl ?_
  refine V_weak (kX11_rowText_L10 d hd (fun v34 μ35 h => ?_) (fun μ47 h => ?_) FU h) (sb_s rfl (sb_s rfl (sb_s rfl (sb_n sb_0))))
  · exact V_weak (kX11_rowText_J171 d hd h) (sb_s rfl (sb_s rfl (sb_n (sb_n sb_0))))
  · refine V_aload_n (q := 84) dX11_rowText_83 rfl rfl rfl ?_
    obtain ⟨v48, μ49, hc50, h⟩ := bd_i h
    refine V_cV0 (q := 87) (kX11_bad (d - 1) (by omega) hc50) (by omega) mv_X11_124 rfl rfl rfl rfl rfl rfl dX11_rowText_84 rfl ?_
    exact V_vret rfl h dX11_rowText_87
