abbrev mX11_letterOf : Mth := (yX11_letterOf, cX11_letterOf, 1, some .int)
theorem mi_X11_letterOf : Cond.static yX11_letterOf ∈ tG ∧ Cond.initialized yX11_letterOf.cls ∈ tG ∧ Cond.code yX11_letterOf cX11_letterOf 1 (some .int) ∈ tG ∧ (yX11_letterOf.cls ≠ "java/lang/invoke/MethodHandle" ∧ yX11_letterOf.cls ≠ "java/lang/invoke/VarHandle" ∧ (parseMethodDescriptor yX11_letterOf.desc).map (fun d => d.parameters.length) = some 1) ∧ 1 ≤ 60 := ⟨(tG_of (List.mem_of_getElem? (i := 1443) (by decide +kernel)) (by decide +kernel)), (tG_of (List.mem_of_getElem? (i := 112) (by decide +kernel)) (by decide +kernel)), (tG_of (List.mem_of_getElem? (i := 1444) (by decide +kernel)) (by decide +kernel)), ⟨by decide, by decide, by decide +kernel⟩, by decide⟩
theorem mv_X11_141 : mS RX11 141 mX11_letterOf 1 := ⟨(tG_of (List.mem_of_getElem? (i := 1442) (by decide +kernel)) (by decide +kernel)), mi_X11_letterOf.1, (tG_of (List.mem_of_getElem? (i := 112) (by decide +kernel)) (by decide +kernel)), mi_X11_letterOf.2⟩
theorem dX11_letterOf_0 : decode cX11_letterOf 0 = .ok (.iload_n 0, 1) := by decide +kernel
theorem dX11_letterOf_1 : decode cX11_letterOf 1 = .ok (.bipush 116, 2) := by decide +kernel
theorem dX11_letterOf_3 : decode cX11_letterOf 3 = .ok (.if_icmp .ne 7, 3) := by decide +kernel
theorem dX11_letterOf_6 : decode cX11_letterOf 6 = .ok (.iconst 0, 1) := by decide +kernel
theorem dX11_letterOf_7 : decode cX11_letterOf 7 = .ok (.goto 44, 3) := by decide +kernel
theorem dX11_letterOf_10 : decode cX11_letterOf 10 = .ok (.iload_n 0, 1) := by decide +kernel
theorem dX11_letterOf_11 : decode cX11_letterOf 11 = .ok (.bipush 107, 2) := by decide +kernel
theorem dX11_letterOf_13 : decode cX11_letterOf 13 = .ok (.if_icmp .ne 7, 3) := by decide +kernel
theorem dX11_letterOf_16 : decode cX11_letterOf 16 = .ok (.iconst 1, 1) := by decide +kernel
theorem dX11_letterOf_17 : decode cX11_letterOf 17 = .ok (.goto 34, 3) := by decide +kernel
theorem dX11_letterOf_20 : decode cX11_letterOf 20 = .ok (.iload_n 0, 1) := by decide +kernel
theorem dX11_letterOf_21 : decode cX11_letterOf 21 = .ok (.bipush 110, 2) := by decide +kernel
theorem dX11_letterOf_23 : decode cX11_letterOf 23 = .ok (.if_icmp .ne 7, 3) := by decide +kernel
theorem dX11_letterOf_26 : decode cX11_letterOf 26 = .ok (.iconst 2, 1) := by decide +kernel
theorem dX11_letterOf_27 : decode cX11_letterOf 27 = .ok (.goto 24, 3) := by decide +kernel
theorem dX11_letterOf_30 : decode cX11_letterOf 30 = .ok (.iload_n 0, 1) := by decide +kernel
theorem dX11_letterOf_31 : decode cX11_letterOf 31 = .ok (.bipush 99, 2) := by decide +kernel
theorem dX11_letterOf_33 : decode cX11_letterOf 33 = .ok (.if_icmp .ne 7, 3) := by decide +kernel
theorem dX11_letterOf_36 : decode cX11_letterOf 36 = .ok (.iconst 3, 1) := by decide +kernel
theorem dX11_letterOf_37 : decode cX11_letterOf 37 = .ok (.goto 14, 3) := by decide +kernel
theorem dX11_letterOf_40 : decode cX11_letterOf 40 = .ok (.iload_n 0, 1) := by decide +kernel
theorem dX11_letterOf_41 : decode cX11_letterOf 41 = .ok (.bipush 108, 2) := by decide +kernel
theorem dX11_letterOf_43 : decode cX11_letterOf 43 = .ok (.if_icmp .ne 7, 3) := by decide +kernel
theorem dX11_letterOf_46 : decode cX11_letterOf 46 = .ok (.iconst 4, 1) := by decide +kernel
theorem dX11_letterOf_47 : decode cX11_letterOf 47 = .ok (.goto 4, 3) := by decide +kernel
theorem dX11_letterOf_50 : decode cX11_letterOf 50 = .ok (.iconst (-1), 1) := by decide +kernel
theorem dX11_letterOf_51 : decode cX11_letterOf 51 = .ok (.ireturn, 1) := by decide +kernel
def X11_letterOf (l0 : Int) (μ : Mm) : Rs := if l0 = 116 then (some (0, μ)) else (if l0 = 107 then (some (1, μ)) else (if l0 = 110 then (some (2, μ)) else (if l0 = 99 then (some (3, μ)) else (if l0 = 108 then (some (4, μ)) else (some ((-1), μ))))))
set_option maxHeartbeats 4000000 in
set_option maxRecDepth 100000 in
theorem kX11_letterOf (d : Nat) (hd : 1 ≤ d) {l0 : Int} {μ : Mm} {r : Int} {μ' : Mm} (h : X11_letterOf l0 μ = some (r, μ')) : CC d mX11_letterOf [vI l0] μ r μ' := by
  unfold X11_letterOf at h
  refine V_enter (by decide) (Nat.le_of_ble_eq_true rfl) ?_
  show VV d mX11_letterOf 0 [some (vI l0)] [] μ r μ'
  refine V_iload_n (q := 1) dX11_letterOf_0 rfl rfl rfl ?_
  refine V_bipush (q := 3) dX11_letterOf_1 rfl rfl rfl ?_
  refine V_icmpne (q := 10) (q2 := 6) dX11_letterOf_3 (by decide) rfl (fun hc1 => ?_) (fun hc1 => ?_)
  · have h := ifF hc1 h
    refine V_iload_n (q := 11) dX11_letterOf_10 rfl rfl rfl ?_
    refine V_bipush (q := 13) dX11_letterOf_11 rfl rfl rfl ?_
    refine V_icmpne (q := 20) (q2 := 16) dX11_letterOf_13 (by decide) rfl (fun hc2 => ?_) (fun hc2 => ?_)
    · have h := ifF hc2 h
      refine V_iload_n (q := 21) dX11_letterOf_20 rfl rfl rfl ?_
      refine V_bipush (q := 23) dX11_letterOf_21 rfl rfl rfl ?_
      refine V_icmpne (q := 30) (q2 := 26) dX11_letterOf_23 (by decide) rfl (fun hc3 => ?_) (fun hc3 => ?_)
      · have h := ifF hc3 h
        refine V_iload_n (q := 31) dX11_letterOf_30 rfl rfl rfl ?_
        refine V_bipush (q := 33) dX11_letterOf_31 rfl rfl rfl ?_
        refine V_icmpne (q := 40) (q2 := 36) dX11_letterOf_33 (by decide) rfl (fun hc4 => ?_) (fun hc4 => ?_)
        · have h := ifF hc4 h
          refine V_iload_n (q := 41) dX11_letterOf_40 rfl rfl rfl ?_
          refine V_bipush (q := 43) dX11_letterOf_41 rfl rfl rfl ?_
          refine V_icmpne (q := 50) (q2 := 46) dX11_letterOf_43 (by decide) rfl (fun hc5 => ?_) (fun hc5 => ?_)
          · have h := ifF hc5 h
            refine V_iconst (q := 51) dX11_letterOf_50 rfl rfl ?_
            exact V_iret rfl h dX11_letterOf_51
          · have h := ifT hc5 h
            refine V_iconst (q := 47) dX11_letterOf_46 rfl rfl ?_
            refine V_goto (q := 51) dX11_letterOf_47 (by decide) ?_
            exact V_iret rfl h dX11_letterOf_51
        · have h := ifT hc4 h
          refine V_iconst (q := 37) dX11_letterOf_36 rfl rfl ?_
          refine V_goto (q := 51) dX11_letterOf_37 (by decide) ?_
          exact V_iret rfl h dX11_letterOf_51
      · have h := ifT hc3 h
        refine V_iconst (q := 27) dX11_letterOf_26 rfl rfl ?_
        refine V_goto (q := 51) dX11_letterOf_27 (by decide) ?_
        exact V_iret rfl h dX11_letterOf_51
    · have h := ifT hc2 h
      refine V_iconst (q := 17) dX11_letterOf_16 rfl rfl ?_
      refine V_goto (q := 51) dX11_letterOf_17 (by decide) ?_
      exact V_iret rfl h dX11_letterOf_51
  · have h := ifT hc1 h
    refine V_iconst (q := 7) dX11_letterOf_6 rfl rfl ?_
    refine V_goto (q := 51) dX11_letterOf_7 (by decide) ?_
    exact V_iret rfl h dX11_letterOf_51
abbrev mX11_opens : Mth := (yX11_opens, cX11_opens, 1, none)
theorem mi_X11_opens : Cond.instanceMethod yX11_opens ∈ tG ∧ Cond.selects yX11_opens.cls yX11_opens yX11_opens ∈ tG ∧ Cond.initialized yX11_opens.cls ∈ tG ∧ Cond.code yX11_opens cX11_opens 1 (none) ∈ tG ∧ (yX11_opens.cls ≠ "java/lang/invoke/MethodHandle" ∧ yX11_opens.cls ≠ "java/lang/invoke/VarHandle" ∧ (parseMethodDescriptor yX11_opens.desc).map (fun d => d.parameters.length) = some 0) ∧ 1 ≤ 60 := ⟨(tG_of (List.mem_of_getElem? (i := 1416) (by decide +kernel)) (by decide +kernel)), (tG_of (List.mem_of_getElem? (i := 60) (by decide +kernel)) (by decide +kernel)), (tG_of (List.mem_of_getElem? (i := 112) (by decide +kernel)) (by decide +kernel)), (tG_of (List.mem_of_getElem? (i := 1417) (by decide +kernel)) (by decide +kernel)), ⟨by decide, by decide, by decide +kernel⟩, by decide⟩
theorem mv_X11_145 : mV RX11 145 mX11_opens 0 := ⟨(tG_of (List.mem_of_getElem? (i := 1414) (by decide +kernel)) (by decide +kernel)), mi_X11_opens⟩
theorem dX11_opens_0 : decode cX11_opens 0 = .ok (.aload_n 0, 1) := by decide +kernel
theorem dX11_opens_1 : decode cX11_opens 1 = .ok (.getfield 121, 3) := by decide +kernel
theorem dX11_opens_4 : decode cX11_opens 4 = .ok (.bipush 6, 2) := by decide +kernel
theorem dX11_opens_6 : decode cX11_opens 6 = .ok (.if_icmp .ne 7, 3) := by decide +kernel
theorem dX11_opens_9 : decode cX11_opens 9 = .ok (.aload_n 0, 1) := by decide +kernel
theorem dX11_opens_10 : decode cX11_opens 10 = .ok (.invokevirtual 124, 3) := by decide +kernel
theorem dX11_opens_13 : decode cX11_opens 13 = .ok (.aload_n 0, 1) := by decide +kernel
theorem dX11_opens_14 : decode cX11_opens 14 = .ok (.dup, 1) := by decide +kernel
theorem dX11_opens_15 : decode cX11_opens 15 = .ok (.getfield 121, 3) := by decide +kernel
theorem dX11_opens_18 : decode cX11_opens 18 = .ok (.iconst 1, 1) := by decide +kernel
theorem dX11_opens_19 : decode cX11_opens 19 = .ok (.iadd, 1) := by decide +kernel
theorem dX11_opens_20 : decode cX11_opens 20 = .ok (.putfield 121, 3) := by decide +kernel
theorem dX11_opens_23 : decode cX11_opens 23 = .ok (.aload_n 0, 1) := by decide +kernel
theorem dX11_opens_24 : decode cX11_opens 24 = .ok (.dup, 1) := by decide +kernel
theorem dX11_opens_25 : decode cX11_opens 25 = .ok (.getfield 108, 3) := by decide +kernel
theorem dX11_opens_28 : decode cX11_opens 28 = .ok (.iconst 1, 1) := by decide +kernel
theorem dX11_opens_29 : decode cX11_opens 29 = .ok (.iadd, 1) := by decide +kernel
theorem dX11_opens_30 : decode cX11_opens 30 = .ok (.putfield 108, 3) := by decide +kernel
theorem dX11_opens_33 : decode cX11_opens 33 = .ok (.return_, 1) := by decide +kernel
def X11_opens_J13 (μ : Mm) : Rs := sF μ 70 5 (iA (μ 70 5) 1) fun μ2 => sF μ2 70 3 (iA (μ2 70 3) 1) fun μ3 => some (0, μ3)
def X11_opens (μ : Mm) : Rs := if (μ 70 5) = 6 then (bd (X11_bad μ) fun v4 μ5 => X11_opens_J13 μ5) else (X11_opens_J13 μ)
set_option maxHeartbeats 4000000 in
set_option maxRecDepth 100000 in
theorem kX11_opens_J13 (d : Nat) (hd : 2 ≤ d) {μ : Mm} {r : Int} {μ' : Mm} (h : X11_opens_J13 μ = some (r, μ')) : VV d mX11_opens 13 [some (vR 70)] [] μ r μ' := by
  unfold X11_opens_J13 at h
  refine V_aload_n (q := 14) dX11_opens_13 rfl rfl rfl ?_
  refine V_dup (q := 15) dX11_opens_14 trivial rfl ?_
  refine V_getI (q := 18) fl_X11_121 rfl rfl rfl dX11_opens_15 rfl ?_
  refine V_iconst (q := 19) dX11_opens_18 rfl rfl ?_
  refine V_iadd (q := 20) dX11_opens_19 rfl ?_
  have h := sF_i h
  refine V_putI (q := 23) fl_X11_121 rfl rfl rfl dX11_opens_20 rfl ?_
  refine V_aload_n (q := 24) dX11_opens_23 rfl rfl rfl ?_
  refine V_dup (q := 25) dX11_opens_24 trivial rfl ?_
  refine V_getI (q := 28) fl_X11_108 rfl rfl rfl dX11_opens_25 rfl ?_
  refine V_iconst (q := 29) dX11_opens_28 rfl rfl ?_
  refine V_iadd (q := 30) dX11_opens_29 rfl ?_
  have h := sF_i h
  refine V_putI (q := 33) fl_X11_108 rfl rfl rfl dX11_opens_30 rfl ?_
  exact V_vret rfl h dX11_opens_33
set_option maxHeartbeats 4000000 in
set_option maxRecDepth 100000 in
theorem kX11_opens (d : Nat) (hd : 2 ≤ d) {μ : Mm} {r : Int} {μ' : Mm} (h : X11_opens μ = some (r, μ')) : CC d mX11_opens [vR 70] μ r μ' := by
  unfold X11_opens at h
  refine V_enter (by decide) (Nat.le_of_ble_eq_true rfl) ?_
  show VV d mX11_opens 0 [some (vR 70)] [] μ r μ'
  refine V_aload_n (q := 1) dX11_opens_0 rfl rfl rfl ?_
  refine V_getI (q := 4) fl_X11_121 rfl rfl rfl dX11_opens_1 rfl ?_
  refine V_bipush (q := 6) dX11_opens_4 rfl rfl rfl ?_
  refine V_icmpne (q := 13) (q2 := 9) dX11_opens_6 (by decide) rfl (fun hc1 => ?_) (fun hc1 => ?_)
  · have h := ifF hc1 h
    exact V_weak (kX11_opens_J13 d hd h) (sb_s rfl sb_0)
  · have h := ifT hc1 h
    refine V_aload_n (q := 10) dX11_opens_9 rfl rfl rfl ?_
    obtain ⟨v4, μ5, hc6, h⟩ := bd_i h
    refine V_cV0 (q := 13) (kX11_bad (d - 1) (by omega) hc6) (by omega) mv_X11_124 rfl rfl rfl rfl rfl rfl dX11_opens_10 rfl ?_
    exact V_weak (kX11_opens_J13 d hd h) (sb_s rfl sb_0)
abbrev mX11_closes : Mth := (yX11_closes, cX11_closes, 2, none)
theorem mi_X11_closes : Cond.instanceMethod yX11_closes ∈ tG ∧ Cond.selects yX11_closes.cls yX11_closes yX11_closes ∈ tG ∧ Cond.initialized yX11_closes.cls ∈ tG ∧ Cond.code yX11_closes cX11_closes 2 (none) ∈ tG ∧ (yX11_closes.cls ≠ "java/lang/invoke/MethodHandle" ∧ yX11_closes.cls ≠ "java/lang/invoke/VarHandle" ∧ (parseMethodDescriptor yX11_closes.desc).map (fun d => d.parameters.length) = some 1) ∧ 2 ≤ 60 := ⟨(tG_of (List.mem_of_getElem? (i := 1424) (by decide +kernel)) (by decide +kernel)), (tG_of (List.mem_of_getElem? (i := 62) (by decide +kernel)) (by decide +kernel)), (tG_of (List.mem_of_getElem? (i := 112) (by decide +kernel)) (by decide +kernel)), (tG_of (List.mem_of_getElem? (i := 1425) (by decide +kernel)) (by decide +kernel)), ⟨by decide, by decide, by decide +kernel⟩, by decide⟩
theorem mv_X11_151 : mV RX11 151 mX11_closes 1 := ⟨(tG_of (List.mem_of_getElem? (i := 1422) (by decide +kernel)) (by decide +kernel)), mi_X11_closes⟩
theorem dX11_closes_0 : decode cX11_closes 0 = .ok (.aload_n 0, 1) := by decide +kernel
theorem dX11_closes_1 : decode cX11_closes 1 = .ok (.getfield 115, 3) := by decide +kernel
theorem dX11_closes_4 : decode cX11_closes 4 = .ok (.iconst (-1), 1) := by decide +kernel
theorem dX11_closes_5 : decode cX11_closes 5 = .ok (.if_icmp .ne 15, 3) := by decide +kernel
theorem dX11_closes_8 : decode cX11_closes 8 = .ok (.aload_n 0, 1) := by decide +kernel
theorem dX11_closes_9 : decode cX11_closes 9 = .ok (.invokevirtual 127, 3) := by decide +kernel
theorem dX11_closes_12 : decode cX11_closes 12 = .ok (.iload_n 1, 1) := by decide +kernel
theorem dX11_closes_13 : decode cX11_closes 13 = .ok (.if_icmp .eq 7, 3) := by decide +kernel
theorem dX11_closes_16 : decode cX11_closes 16 = .ok (.aload_n 0, 1) := by decide +kernel
theorem dX11_closes_17 : decode cX11_closes 17 = .ok (.invokevirtual 124, 3) := by decide +kernel
theorem dX11_closes_20 : decode cX11_closes 20 = .ok (.aload_n 0, 1) := by decide +kernel
theorem dX11_closes_21 : decode cX11_closes 21 = .ok (.dup, 1) := by decide +kernel
theorem dX11_closes_22 : decode cX11_closes 22 = .ok (.getfield 108, 3) := by decide +kernel
theorem dX11_closes_25 : decode cX11_closes 25 = .ok (.iconst 1, 1) := by decide +kernel
theorem dX11_closes_26 : decode cX11_closes 26 = .ok (.iadd, 1) := by decide +kernel
theorem dX11_closes_27 : decode cX11_closes 27 = .ok (.putfield 108, 3) := by decide +kernel
theorem dX11_closes_30 : decode cX11_closes 30 = .ok (.aload_n 0, 1) := by decide +kernel
theorem dX11_closes_31 : decode cX11_closes 31 = .ok (.dup, 1) := by decide +kernel
theorem dX11_closes_32 : decode cX11_closes 32 = .ok (.getfield 121, 3) := by decide +kernel
theorem dX11_closes_35 : decode cX11_closes 35 = .ok (.iconst 1, 1) := by decide +kernel
theorem dX11_closes_36 : decode cX11_closes 36 = .ok (.isub, 1) := by decide +kernel
theorem dX11_closes_37 : decode cX11_closes 37 = .ok (.putfield 121, 3) := by decide +kernel
theorem dX11_closes_40 : decode cX11_closes 40 = .ok (.return_, 1) := by decide +kernel
def X11_closes_J20 (μ : Mm) : Rs := sF μ 70 3 (iA (μ 70 3) 1) fun μ2 => sF μ2 70 5 (iS (μ2 70 5) 1) fun μ3 => some (0, μ3)
def X11_closes (l1 : Int) (μ : Mm) : Rs := if (μ 70 4) = (-1) then (bd (X11_look μ) fun v4 μ5 => if v4 = l1 then (X11_closes_J20 μ5) else (bd (X11_bad μ5) fun v8 μ9 => X11_closes_J20 μ9)) else (X11_closes_J20 μ)
set_option maxHeartbeats 4000000 in
set_option maxRecDepth 100000 in
theorem kX11_closes_J20 (d : Nat) (hd : 3 ≤ d) {μ : Mm} {r : Int} {μ' : Mm} (h : X11_closes_J20 μ = some (r, μ')) : VV d mX11_closes 20 [some (vR 70), none] [] μ r μ' := by
  unfold X11_closes_J20 at h
  refine V_aload_n (q := 21) dX11_closes_20 rfl rfl rfl ?_
  refine V_dup (q := 22) dX11_closes_21 trivial rfl ?_
  refine V_getI (q := 25) fl_X11_108 rfl rfl rfl dX11_closes_22 rfl ?_
  refine V_iconst (q := 26) dX11_closes_25 rfl rfl ?_
  refine V_iadd (q := 27) dX11_closes_26 rfl ?_
  have h := sF_i h
  refine V_putI (q := 30) fl_X11_108 rfl rfl rfl dX11_closes_27 rfl ?_
  refine V_aload_n (q := 31) dX11_closes_30 rfl rfl rfl ?_
  refine V_dup (q := 32) dX11_closes_31 trivial rfl ?_
  refine V_getI (q := 35) fl_X11_121 rfl rfl rfl dX11_closes_32 rfl ?_
  refine V_iconst (q := 36) dX11_closes_35 rfl rfl ?_
  refine V_isub (q := 37) dX11_closes_36 rfl ?_
  have h := sF_i h
  refine V_putI (q := 40) fl_X11_121 rfl rfl rfl dX11_closes_37 rfl ?_
  exact V_vret rfl h dX11_closes_40
set_option maxHeartbeats 4000000 in
set_option maxRecDepth 100000 in
theorem kX11_closes (d : Nat) (hd : 3 ≤ d) {l1 : Int} {μ : Mm} {r : Int} {μ' : Mm} (h : X11_closes l1 μ = some (r, μ')) : CC d mX11_closes [vR 70, vI l1] μ r μ' := by
  unfold X11_closes at h
  refine V_enter (by decide) (Nat.le_of_ble_eq_true rfl) ?_
  show VV d mX11_closes 0 [some (vR 70), some (vI l1)] [] μ r μ'
  refine V_aload_n (q := 1) dX11_closes_0 rfl rfl rfl ?_
  refine V_getI (q := 4) fl_X11_115 rfl rfl rfl dX11_closes_1 rfl ?_
  refine V_iconst (q := 5) dX11_closes_4 rfl rfl ?_
  refine V_icmpne (q := 20) (q2 := 8) dX11_closes_5 (by decide) rfl (fun hc1 => ?_) (fun hc1 => ?_)
  · have h := ifF hc1 h
    exact V_weak (kX11_closes_J20 d hd h) (sb_s rfl (sb_n sb_0))
  · have h := ifT hc1 h
    refine V_aload_n (q := 9) dX11_closes_8 rfl rfl rfl ?_
    obtain ⟨v4, μ5, hc6, h⟩ := bd_i h
    refine V_cV1 (q := 12) (v := vI v4) (kX11_look (d - 1) (by omega) hc6) (by omega) mv_X11_127 rfl rfl rfl rfl rfl rfl dX11_closes_9 rfl ?_
    refine V_iload_n (q := 13) dX11_closes_12 rfl rfl rfl ?_
    refine V_icmpeq (q := 20) (q2 := 16) dX11_closes_13 (by decide) rfl (fun hc7 => ?_) (fun hc7 => ?_)
    · have h := ifT hc7 h
      exact V_weak (kX11_closes_J20 d hd h) (sb_s rfl (sb_n sb_0))
    · have h := ifF hc7 h
      refine V_aload_n (q := 17) dX11_closes_16 rfl rfl rfl ?_
      obtain ⟨v8, μ9, hc10, h⟩ := bd_i h
      refine V_cV0 (q := 20) (kX11_bad (d - 1) (by omega) hc10) (by omega) mv_X11_124 rfl rfl rfl rfl rfl rfl dX11_closes_17 rfl ?_
      exact V_weak (kX11_closes_J20 d hd h) (sb_s rfl (sb_n sb_0))
abbrev mX11_plainNumber : Mth := (yX11_plainNumber, cX11_plainNumber, 3, some .int)
theorem mi_X11_plainNumber : Cond.instanceMethod yX11_plainNumber ∈ tG ∧ Cond.selects yX11_plainNumber.cls yX11_plainNumber yX11_plainNumber ∈ tG ∧ Cond.initialized yX11_plainNumber.cls ∈ tG ∧ Cond.code yX11_plainNumber cX11_plainNumber 3 (some .int) ∈ tG ∧ (yX11_plainNumber.cls ≠ "java/lang/invoke/MethodHandle" ∧ yX11_plainNumber.cls ≠ "java/lang/invoke/VarHandle" ∧ (parseMethodDescriptor yX11_plainNumber.desc).map (fun d => d.parameters.length) = some 0) ∧ 3 ≤ 60 := ⟨(tG_of (List.mem_of_getElem? (i := 1440) (by decide +kernel)) (by decide +kernel)), (tG_of (List.mem_of_getElem? (i := 66) (by decide +kernel)) (by decide +kernel)), (tG_of (List.mem_of_getElem? (i := 112) (by decide +kernel)) (by decide +kernel)), (tG_of (List.mem_of_getElem? (i := 1441) (by decide +kernel)) (by decide +kernel)), ⟨by decide, by decide, by decide +kernel⟩, by decide⟩
theorem mv_X11_134 : mV RX11 134 mX11_plainNumber 0 := ⟨(tG_of (List.mem_of_getElem? (i := 1438) (by decide +kernel)) (by decide +kernel)), mi_X11_plainNumber⟩
theorem dX11_plainNumber_0 : decode cX11_plainNumber 0 = .ok (.iconst 0, 1) := by decide +kernel
theorem dX11_plainNumber_1 : decode cX11_plainNumber 1 = .ok (.istore_n 1, 1) := by decide +kernel
theorem dX11_plainNumber_2 : decode cX11_plainNumber 2 = .ok (.iconst 0, 1) := by decide +kernel
theorem dX11_plainNumber_3 : decode cX11_plainNumber 3 = .ok (.istore_n 2, 1) := by decide +kernel
theorem dX11_plainNumber_4 : decode cX11_plainNumber 4 = .ok (.iload_n 2, 1) := by decide +kernel
theorem dX11_plainNumber_5 : decode cX11_plainNumber 5 = .ok (.iconst 4, 1) := by decide +kernel
theorem dX11_plainNumber_6 : decode cX11_plainNumber 6 = .ok (.if_icmp .ge 42, 3) := by decide +kernel
theorem dX11_plainNumber_9 : decode cX11_plainNumber 9 = .ok (.aload_n 0, 1) := by decide +kernel
theorem dX11_plainNumber_10 : decode cX11_plainNumber 10 = .ok (.invokevirtual 111, 3) := by decide +kernel
theorem dX11_plainNumber_13 : decode cX11_plainNumber 13 = .ok (.invokestatic 130, 3) := by decide +kernel
theorem dX11_plainNumber_16 : decode cX11_plainNumber 16 = .ok (.ifCond .eq 32, 3) := by decide +kernel
theorem dX11_plainNumber_19 : decode cX11_plainNumber 19 = .ok (.bipush 10, 2) := by decide +kernel
theorem dX11_plainNumber_21 : decode cX11_plainNumber 21 = .ok (.iload_n 1, 1) := by decide +kernel
theorem dX11_plainNumber_22 : decode cX11_plainNumber 22 = .ok (.imul, 1) := by decide +kernel
theorem dX11_plainNumber_23 : decode cX11_plainNumber 23 = .ok (.aload_n 0, 1) := by decide +kernel
theorem dX11_plainNumber_24 : decode cX11_plainNumber 24 = .ok (.invokevirtual 111, 3) := by decide +kernel
theorem dX11_plainNumber_27 : decode cX11_plainNumber 27 = .ok (.iadd, 1) := by decide +kernel
theorem dX11_plainNumber_28 : decode cX11_plainNumber 28 = .ok (.bipush 48, 2) := by decide +kernel
theorem dX11_plainNumber_30 : decode cX11_plainNumber 30 = .ok (.isub, 1) := by decide +kernel
theorem dX11_plainNumber_31 : decode cX11_plainNumber 31 = .ok (.istore_n 1, 1) := by decide +kernel
theorem dX11_plainNumber_32 : decode cX11_plainNumber 32 = .ok (.aload_n 0, 1) := by decide +kernel
theorem dX11_plainNumber_33 : decode cX11_plainNumber 33 = .ok (.dup, 1) := by decide +kernel
theorem dX11_plainNumber_34 : decode cX11_plainNumber 34 = .ok (.getfield 108, 3) := by decide +kernel
theorem dX11_plainNumber_37 : decode cX11_plainNumber 37 = .ok (.iconst 1, 1) := by decide +kernel
theorem dX11_plainNumber_38 : decode cX11_plainNumber 38 = .ok (.iadd, 1) := by decide +kernel
theorem dX11_plainNumber_39 : decode cX11_plainNumber 39 = .ok (.putfield 108, 3) := by decide +kernel
theorem dX11_plainNumber_42 : decode cX11_plainNumber 42 = .ok (.iinc 2 1, 3) := by decide +kernel
theorem dX11_plainNumber_45 : decode cX11_plainNumber 45 = .ok (.goto (-41), 3) := by decide +kernel
theorem dX11_plainNumber_48 : decode cX11_plainNumber 48 = .ok (.aload_n 0, 1) := by decide +kernel
theorem dX11_plainNumber_49 : decode cX11_plainNumber 49 = .ok (.invokevirtual 111, 3) := by decide +kernel
theorem dX11_plainNumber_52 : decode cX11_plainNumber 52 = .ok (.invokestatic 130, 3) := by decide +kernel
theorem dX11_plainNumber_55 : decode cX11_plainNumber 55 = .ok (.ifCond .eq 7, 3) := by decide +kernel
theorem dX11_plainNumber_58 : decode cX11_plainNumber 58 = .ok (.aload_n 0, 1) := by decide +kernel
theorem dX11_plainNumber_59 : decode cX11_plainNumber 59 = .ok (.invokevirtual 124, 3) := by decide +kernel
theorem dX11_plainNumber_62 : decode cX11_plainNumber 62 = .ok (.iload_n 1, 1) := by decide +kernel
theorem dX11_plainNumber_63 : decode cX11_plainNumber 63 = .ok (.ireturn, 1) := by decide +kernel
def X11_plainNumber_L4 (k48 : Int → Mm → Rs) : Nat → Int → Int → Mm → Rs
  | 0, _, _, _ => none
  | n + 1, l1, l2, μ => if 4 ≤ l2 then (k48 l1 μ) else (bd (X11_here μ) fun v2 μ3 => bd (X11_isDigit v2 μ3) fun v5 μ6 => if v5 = 0 then (k48 l1 μ6) else (bd (X11_here μ6) fun v9 μ10 => lt_ (iS (iA (iM 10 l1) v9) 48) fun v12 => sF μ10 70 3 (iA (μ10 70 3) 1) fun μ13 => X11_plainNumber_L4 k48 n v12 (iA l2 1) μ13))
def X11_plainNumber (μ : Mm) : Rs := X11_plainNumber_L4 (fun v14 μ15 => bd (X11_here μ15) fun v16 μ17 => bd (X11_isDigit v16 μ17) fun v19 μ20 => if v19 = 0 then (some (v14, μ20)) else (bd (X11_bad μ20) fun v23 μ24 => some (v14, μ24))) FU 0 0 μ
set_option maxHeartbeats 4000000 in
set_option maxRecDepth 100000 in
theorem kX11_plainNumber_L4 (d : Nat) (hd : 2 ≤ d) {k48 : Int → Mm → Rs} {r : Int} {μ' : Mm} (hk_48 : ∀ (v1 : Int) (μ1 : Mm), k48 v1 μ1 = some (r, μ') → VV d mX11_plainNumber 48 [some (vR 70), some (vI v1), none] [] μ1 r μ') : ∀ (n : Nat) {l1 l2 : Int} {μ : Mm}, X11_plainNumber_L4 k48 n l1 l2 μ = some (r, μ') → VV d mX11_plainNumber 4 [some (vR 70), some (vI l1), some (vI l2)] [] μ r μ' := by
  intro n
  induction n with
  | zero => intro l1 l2 μ h; rw [X11_plainNumber_L4] at h; cases h
  | succ n ih =>
    intro l1 l2 μ h
    rw [X11_plainNumber_L4] at h
    refine V_iload_n (q := 5) dX11_plainNumber_4 rfl rfl rfl ?_
    refine V_iconst (q := 6) dX11_plainNumber_5 rfl rfl ?_
    refine V_icmpge (q := 48) (q2 := 9) dX11_plainNumber_6 (by decide) rfl (fun hc1 => ?_) (fun hc1 => ?_)
    · have h := ifT hc1 h
      exact V_weak (hk_48 _ _ h) (sb_s rfl (sb_s rfl (sb_n sb_0)))
    · have h := ifF hc1 h
      refine V_aload_n (q := 10) dX11_plainNumber_9 rfl rfl rfl ?_
      obtain ⟨v2, μ3, hc4, h⟩ := bd_i h
      refine V_cV1 (q := 13) (v := vI v2) (kX11_here (d - 1) (by omega) hc4) (by omega) mv_X11_111 rfl rfl rfl rfl rfl rfl dX11_plainNumber_10 rfl ?_
      obtain ⟨v5, μ6, hc7, h⟩ := bd_i h
      refine V_cS1 (q := 16) (v := vI v5) (kX11_isDigit (d - 1) (by omega) hc7) (by omega) mv_X11_130 rfl rfl rfl rfl dX11_plainNumber_13 rfl ?_
      refine V_ifeq (q := 48) (q2 := 19) dX11_plainNumber_16 (by decide) rfl (fun hc8 => ?_) (fun hc8 => ?_)
      · have h := ifT hc8 h
        exact V_weak (hk_48 _ _ h) (sb_s rfl (sb_s rfl (sb_n sb_0)))
      · have h := ifF hc8 h
        refine V_bipush (q := 21) dX11_plainNumber_19 rfl rfl rfl ?_
        refine V_iload_n (q := 22) dX11_plainNumber_21 rfl rfl rfl ?_
        refine V_imul (q := 23) dX11_plainNumber_22 rfl ?_
        refine V_aload_n (q := 24) dX11_plainNumber_23 rfl rfl rfl ?_
        obtain ⟨v9, μ10, hc11, h⟩ := bd_i h
        refine V_cV1 (q := 27) (v := vI v9) (kX11_here (d - 1) (by omega) hc11) (by omega) mv_X11_111 rfl rfl rfl rfl rfl rfl dX11_plainNumber_24 rfl ?_
        refine V_iadd (q := 28) dX11_plainNumber_27 rfl ?_
        refine V_bipush (q := 30) dX11_plainNumber_28 rfl rfl rfl ?_
        refine V_isub (q := 31) dX11_plainNumber_30 rfl ?_
        have h := lt_i h
        refine V_istore_n (q := 32) dX11_plainNumber_31 rfl (Nat.le_of_ble_eq_true rfl) trivial rfl ?_
        refine V_aload_n (q := 33) dX11_plainNumber_32 rfl rfl rfl ?_
        refine V_dup (q := 34) dX11_plainNumber_33 trivial rfl ?_
        refine V_getI (q := 37) fl_X11_108 rfl rfl rfl dX11_plainNumber_34 rfl ?_
        refine V_iconst (q := 38) dX11_plainNumber_37 rfl rfl ?_
        refine V_iadd (q := 39) dX11_plainNumber_38 rfl ?_
        have h := sF_i h
        refine V_putI (q := 42) fl_X11_108 rfl rfl rfl dX11_plainNumber_39 rfl ?_
        refine V_iinc (q := 45) dX11_plainNumber_42 rfl (Nat.le_of_ble_eq_true rfl) trivial rfl ?_
        refine V_goto (q := 4) dX11_plainNumber_45 (by decide) ?_
        exact V_weak (ih h) (sb_s rfl (sb_s rfl (sb_s rfl sb_0)))
set_option maxHeartbeats 4000000 in
set_option maxRecDepth 100000 in
theorem kX11_plainNumber (d : Nat) (hd : 2 ≤ d) {μ : Mm} {r : Int} {μ' : Mm} (h : X11_plainNumber μ = some (r, μ')) : CC d mX11_plainNumber [vR 70] μ r μ' := by
  unfold X11_plainNumber at h
  refine V_enter (by decide) (Nat.le_of_ble_eq_true rfl) ?_
  show VV d mX11_plainNumber 0 [some (vR 70), none, none] [] μ r μ'
  refine V_iconst (q := 1) dX11_plainNumber_0 rfl rfl ?_
  refine V_istore_n (q := 2) dX11_plainNumber_1 rfl (Nat.le_of_ble_eq_true rfl) trivial rfl ?_
  refine V_iconst (q := 3) dX11_plainNumber_2 rfl rfl ?_
  refine V_istore_n (q := 4) dX11_plainNumber_3 rfl (Nat.le_of_ble_eq_true rfl) trivial rfl ?_
  refine V_weak (kX11_plainNumber_L4 d hd (fun v14 μ15 h => ?_) FU h) (sb_s rfl (sb_s rfl (sb_s rfl sb_0)))
  refine V_aload_n (q := 49) dX11_plainNumber_48 rfl rfl rfl ?_
  obtain ⟨v16, μ17, hc18, h⟩ := bd_i h
  refine V_cV1 (q := 52) (v := vI v16) (kX11_here (d - 1) (by omega) hc18) (by omega) mv_X11_111 rfl rfl rfl rfl rfl rfl dX11_plainNumber_49 rfl ?_
  obtain ⟨v19, μ20, hc21, h⟩ := bd_i h
  refine V_cS1 (q := 55) (v := vI v19) (kX11_isDigit (d - 1) (by omega) hc21) (by omega) mv_X11_130 rfl rfl rfl rfl dX11_plainNumber_52 rfl ?_
  refine V_ifeq (q := 62) (q2 := 58) dX11_plainNumber_55 (by decide) rfl (fun hc22 => ?_) (fun hc22 => ?_)
  · have h := ifT hc22 h
    refine V_iload_n (q := 63) dX11_plainNumber_62 rfl rfl rfl ?_
    exact V_iret rfl h dX11_plainNumber_63
  · have h := ifF hc22 h
    refine V_aload_n (q := 59) dX11_plainNumber_58 rfl rfl rfl ?_
    obtain ⟨v23, μ24, hc25, h⟩ := bd_i h
    refine V_cV0 (q := 62) (kX11_bad (d - 1) (by omega) hc25) (by omega) mv_X11_124 rfl rfl rfl rfl rfl rfl dX11_plainNumber_59 rfl ?_
    refine V_iload_n (q := 63) dX11_plainNumber_62 rfl rfl rfl ?_
    exact V_iret rfl h dX11_plainNumber_63
abbrev mX11_atom : Mth := (yX11_atom, cX11_atom, 2, none)
theorem mi_X11_atom : Cond.instanceMethod yX11_atom ∈ tG ∧ Cond.selects yX11_atom.cls yX11_atom yX11_atom ∈ tG ∧ Cond.initialized yX11_atom.cls ∈ tG ∧ Cond.code yX11_atom cX11_atom 2 (none) ∈ tG ∧ (yX11_atom.cls ≠ "java/lang/invoke/MethodHandle" ∧ yX11_atom.cls ≠ "java/lang/invoke/VarHandle" ∧ (parseMethodDescriptor yX11_atom.desc).map (fun d => d.parameters.length) = some 0) ∧ 2 ≤ 60 := ⟨(tG_of (List.mem_of_getElem? (i := 1436) (by decide +kernel)) (by decide +kernel)), (tG_of (List.mem_of_getElem? (i := 65) (by decide +kernel)) (by decide +kernel)), (tG_of (List.mem_of_getElem? (i := 112) (by decide +kernel)) (by decide +kernel)), (tG_of (List.mem_of_getElem? (i := 1437) (by decide +kernel)) (by decide +kernel)), ⟨by decide, by decide, by decide +kernel⟩, by decide⟩
theorem mv_X11_155 : mV RX11 155 mX11_atom 0 := ⟨(tG_of (List.mem_of_getElem? (i := 1434) (by decide +kernel)) (by decide +kernel)), mi_X11_atom⟩
theorem dX11_atom_0 : decode cX11_atom 0 = .ok (.aload_n 0, 1) := by decide +kernel
theorem dX11_atom_1 : decode cX11_atom 1 = .ok (.invokevirtual 127, 3) := by decide +kernel
theorem dX11_atom_4 : decode cX11_atom 4 = .ok (.istore_n 1, 1) := by decide +kernel
theorem dX11_atom_5 : decode cX11_atom 5 = .ok (.iload_n 1, 1) := by decide +kernel
theorem dX11_atom_6 : decode cX11_atom 6 = .ok (.invokestatic 130, 3) := by decide +kernel
theorem dX11_atom_9 : decode cX11_atom 9 = .ok (.ifCond .eq 15, 3) := by decide +kernel
theorem dX11_atom_12 : decode cX11_atom 12 = .ok (.aload_n 0, 1) := by decide +kernel
theorem dX11_atom_13 : decode cX11_atom 13 = .ok (.iconst 0, 1) := by decide +kernel
theorem dX11_atom_14 : decode cX11_atom 14 = .ok (.aload_n 0, 1) := by decide +kernel
theorem dX11_atom_15 : decode cX11_atom 15 = .ok (.invokevirtual 134, 3) := by decide +kernel
theorem dX11_atom_18 : decode cX11_atom 18 = .ok (.invokevirtual 137, 3) := by decide +kernel
theorem dX11_atom_21 : decode cX11_atom 21 = .ok (.goto 68, 3) := by decide +kernel
theorem dX11_atom_24 : decode cX11_atom 24 = .ok (.iload_n 1, 1) := by decide +kernel
theorem dX11_atom_25 : decode cX11_atom 25 = .ok (.invokestatic 141, 3) := by decide +kernel
theorem dX11_atom_28 : decode cX11_atom 28 = .ok (.iconst (-1), 1) := by decide +kernel
theorem dX11_atom_29 : decode cX11_atom 29 = .ok (.if_icmp .eq 25, 3) := by decide +kernel
theorem dX11_atom_32 : decode cX11_atom 32 = .ok (.aload_n 0, 1) := by decide +kernel
theorem dX11_atom_33 : decode cX11_atom 33 = .ok (.dup, 1) := by decide +kernel
theorem dX11_atom_34 : decode cX11_atom 34 = .ok (.getfield 108, 3) := by decide +kernel
theorem dX11_atom_37 : decode cX11_atom 37 = .ok (.iconst 1, 1) := by decide +kernel
theorem dX11_atom_38 : decode cX11_atom 38 = .ok (.iadd, 1) := by decide +kernel
theorem dX11_atom_39 : decode cX11_atom 39 = .ok (.putfield 108, 3) := by decide +kernel
theorem dX11_atom_42 : decode cX11_atom 42 = .ok (.aload_n 0, 1) := by decide +kernel
theorem dX11_atom_43 : decode cX11_atom 43 = .ok (.iconst 1, 1) := by decide +kernel
theorem dX11_atom_44 : decode cX11_atom 44 = .ok (.iload_n 1, 1) := by decide +kernel
theorem dX11_atom_45 : decode cX11_atom 45 = .ok (.invokestatic 141, 3) := by decide +kernel
theorem dX11_atom_48 : decode cX11_atom 48 = .ok (.invokevirtual 137, 3) := by decide +kernel
theorem dX11_atom_51 : decode cX11_atom 51 = .ok (.goto 38, 3) := by decide +kernel
theorem dX11_atom_54 : decode cX11_atom 54 = .ok (.iload_n 1, 1) := by decide +kernel
theorem dX11_atom_55 : decode cX11_atom 55 = .ok (.bipush 91, 2) := by decide +kernel
theorem dX11_atom_57 : decode cX11_atom 57 = .ok (.if_icmp .ne 28, 3) := by decide +kernel
theorem dX11_atom_60 : decode cX11_atom 60 = .ok (.aload_n 0, 1) := by decide +kernel
theorem dX11_atom_61 : decode cX11_atom 61 = .ok (.invokevirtual 145, 3) := by decide +kernel
theorem dX11_atom_64 : decode cX11_atom 64 = .ok (.aload_n 0, 1) := by decide +kernel
theorem dX11_atom_65 : decode cX11_atom 65 = .ok (.getfield 115, 3) := by decide +kernel
theorem dX11_atom_68 : decode cX11_atom 68 = .ok (.iconst (-1), 1) := by decide +kernel
theorem dX11_atom_69 : decode cX11_atom 69 = .ok (.if_icmp .ne 20, 3) := by decide +kernel
theorem dX11_atom_72 : decode cX11_atom 72 = .ok (.aload_n 0, 1) := by decide +kernel
theorem dX11_atom_73 : decode cX11_atom 73 = .ok (.invokevirtual 148, 3) := by decide +kernel
theorem dX11_atom_76 : decode cX11_atom 76 = .ok (.aload_n 0, 1) := by decide +kernel
theorem dX11_atom_77 : decode cX11_atom 77 = .ok (.bipush 93, 2) := by decide +kernel
theorem dX11_atom_79 : decode cX11_atom 79 = .ok (.invokevirtual 151, 3) := by decide +kernel
theorem dX11_atom_82 : decode cX11_atom 82 = .ok (.goto 7, 3) := by decide +kernel
theorem dX11_atom_85 : decode cX11_atom 85 = .ok (.aload_n 0, 1) := by decide +kernel
theorem dX11_atom_86 : decode cX11_atom 86 = .ok (.invokevirtual 124, 3) := by decide +kernel
theorem dX11_atom_89 : decode cX11_atom 89 = .ok (.return_, 1) := by decide +kernel
def X11_atom_o (rec : Mm → Rs) (μ : Mm) : Rs := bd (X11_look μ) fun v1 μ2 => bd (X11_isDigit v1 μ2) fun v4 μ5 => if v4 = 0 then (bd (X11_letterOf v1 μ5) fun v8 μ9 => if v8 = (-1) then (if v1 = 91 then (bd (X11_opens μ9) fun v16 μ17 => if (μ17 70 4) = (-1) then (bd (rec μ17) fun v20 μ21 => bd (X11_closes 93 μ21) fun v23 μ24 => some (0, μ24)) else (some (0, μ17))) else (bd (X11_bad μ9) fun v13 μ14 => some (0, μ14))) else (sF μ9 70 3 (iA (μ9 70 3) 1) fun μ26 => bd (X11_letterOf v1 μ26) fun v27 μ28 => bd (X11_put 1 v27 μ28) fun v30 μ31 => some (0, μ31))) else (bd (X11_plainNumber μ5) fun v33 μ34 => bd (X11_put 0 v33 μ34) fun v36 μ37 => some (0, μ37))
set_option maxHeartbeats 4000000 in
set_option maxRecDepth 100000 in
theorem kX11_atom (d : Nat) (hd : d0 + 2 ≤ d) {rec : Mm → Rs} (hrec : ∀  {μ1 : Mm} {r1 : Int} {μ2 : Mm}, rec  μ1 = some (r1, μ2) → CC d0 mX11_sum [vR 70] μ1 r1 μ2) (hb : 6 ≤ d) {μ : Mm} {r : Int} {μ' : Mm} (h : X11_atom_o rec μ = some (r, μ')) : CC d mX11_atom [vR 70] μ r μ' := by
  unfold X11_atom_o at h
  refine V_enter (by decide) (Nat.le_of_ble_eq_true rfl) ?_
  show VV d mX11_atom 0 [some (vR 70), none] [] μ r μ'
  refine V_aload_n (q := 1) dX11_atom_0 rfl rfl rfl ?_
  obtain ⟨v1, μ2, hc3, h⟩ := bd_i h
  refine V_cV1 (q := 4) (v := vI v1) (kX11_look (d - 1) (by omega) hc3) (by omega) mv_X11_127 rfl rfl rfl rfl rfl rfl dX11_atom_1 rfl ?_
  refine V_istore_n (q := 5) dX11_atom_4 rfl (Nat.le_of_ble_eq_true rfl) trivial rfl ?_
  refine V_iload_n (q := 6) dX11_atom_5 rfl rfl rfl ?_
  obtain ⟨v4, μ5, hc6, h⟩ := bd_i h
  refine V_cS1 (q := 9) (v := vI v4) (kX11_isDigit (d - 1) (by omega) hc6) (by omega) mv_X11_130 rfl rfl rfl rfl dX11_atom_6 rfl ?_
  refine V_ifeq (q := 24) (q2 := 12) dX11_atom_9 (by decide) rfl (fun hc7 => ?_) (fun hc7 => ?_)
  · have h := ifT hc7 h
    refine V_iload_n (q := 25) dX11_atom_24 rfl rfl rfl ?_
    obtain ⟨v8, μ9, hc10, h⟩ := bd_i h
    refine V_cS1 (q := 28) (v := vI v8) (kX11_letterOf (d - 1) (by omega) hc10) (by omega) mv_X11_141 rfl rfl rfl rfl dX11_atom_25 rfl ?_
    refine V_iconst (q := 29) dX11_atom_28 rfl rfl ?_
    refine V_icmpeq (q := 54) (q2 := 32) dX11_atom_29 (by decide) rfl (fun hc11 => ?_) (fun hc11 => ?_)
    · have h := ifT hc11 h
      refine V_iload_n (q := 55) dX11_atom_54 rfl rfl rfl ?_
      refine V_bipush (q := 57) dX11_atom_55 rfl rfl rfl ?_
      refine V_icmpne (q := 85) (q2 := 60) dX11_atom_57 (by decide) rfl (fun hc12 => ?_) (fun hc12 => ?_)
      · have h := ifF hc12 h
        refine V_aload_n (q := 86) dX11_atom_85 rfl rfl rfl ?_
        obtain ⟨v13, μ14, hc15, h⟩ := bd_i h
        refine V_cV0 (q := 89) (kX11_bad (d - 1) (by omega) hc15) (by omega) mv_X11_124 rfl rfl rfl rfl rfl rfl dX11_atom_86 rfl ?_
        exact V_vret rfl h dX11_atom_89
      · have h := ifT hc12 h
        refine V_aload_n (q := 61) dX11_atom_60 rfl rfl rfl ?_
        obtain ⟨v16, μ17, hc18, h⟩ := bd_i h
        refine V_cV0 (q := 64) (kX11_opens (d - 1) (by omega) hc18) (by omega) mv_X11_145 rfl rfl rfl rfl rfl rfl dX11_atom_61 rfl ?_
        refine V_aload_n (q := 65) dX11_atom_64 rfl rfl rfl ?_
        refine V_getI (q := 68) fl_X11_115 rfl rfl rfl dX11_atom_65 rfl ?_
        refine V_iconst (q := 69) dX11_atom_68 rfl rfl ?_
        refine V_icmpne (q := 89) (q2 := 72) dX11_atom_69 (by decide) rfl (fun hc19 => ?_) (fun hc19 => ?_)
        · have h := ifF hc19 h
          exact V_vret rfl h dX11_atom_89
        · have h := ifT hc19 h
          refine V_aload_n (q := 73) dX11_atom_72 rfl rfl rfl ?_
          obtain ⟨v20, μ21, hc22, h⟩ := bd_i h
          refine V_cV0 (q := 76) (hrec hc22) (by omega) mv_X11_148 rfl rfl rfl rfl rfl rfl dX11_atom_73 rfl ?_
          refine V_aload_n (q := 77) dX11_atom_76 rfl rfl rfl ?_
          refine V_bipush (q := 79) dX11_atom_77 rfl rfl rfl ?_
          obtain ⟨v23, μ24, hc25, h⟩ := bd_i h
          refine V_cV0 (q := 82) (kX11_closes (d - 1) (by omega) hc25) (by omega) mv_X11_151 rfl rfl rfl rfl rfl rfl dX11_atom_79 rfl ?_
          refine V_goto (q := 89) dX11_atom_82 (by decide) ?_
          exact V_vret rfl h dX11_atom_89
    · have h := ifF hc11 h
      refine V_aload_n (q := 33) dX11_atom_32 rfl rfl rfl ?_
      refine V_dup (q := 34) dX11_atom_33 trivial rfl ?_
      refine V_getI (q := 37) fl_X11_108 rfl rfl rfl dX11_atom_34 rfl ?_
      refine V_iconst (q := 38) dX11_atom_37 rfl rfl ?_
      refine V_iadd (q := 39) dX11_atom_38 rfl ?_
      have h := sF_i h
      refine V_putI (q := 42) fl_X11_108 rfl rfl rfl dX11_atom_39 rfl ?_
      refine V_aload_n (q := 43) dX11_atom_42 rfl rfl rfl ?_
      refine V_iconst (q := 44) dX11_atom_43 rfl rfl ?_
      refine V_iload_n (q := 45) dX11_atom_44 rfl rfl rfl ?_
      obtain ⟨v27, μ28, hc29, h⟩ := bd_i h
      refine V_cS1 (q := 48) (v := vI v27) (kX11_letterOf (d - 1) (by omega) hc29) (by omega) mv_X11_141 rfl rfl rfl rfl dX11_atom_45 rfl ?_
      obtain ⟨v30, μ31, hc32, h⟩ := bd_i h
      refine V_cV0 (q := 51) (kX11_put (d - 1) (by omega) hc32) (by omega) mv_X11_137 rfl rfl rfl rfl rfl rfl dX11_atom_48 rfl ?_
      refine V_goto (q := 89) dX11_atom_51 (by decide) ?_
      exact V_vret rfl h dX11_atom_89
  · have h := ifF hc7 h
    refine V_aload_n (q := 13) dX11_atom_12 rfl rfl rfl ?_
    refine V_iconst (q := 14) dX11_atom_13 rfl rfl ?_
    refine V_aload_n (q := 15) dX11_atom_14 rfl rfl rfl ?_
    obtain ⟨v33, μ34, hc35, h⟩ := bd_i h
    refine V_cV1 (q := 18) (v := vI v33) (kX11_plainNumber (d - 1) (by omega) hc35) (by omega) mv_X11_134 rfl rfl rfl rfl rfl rfl dX11_atom_15 rfl ?_
    obtain ⟨v36, μ37, hc38, h⟩ := bd_i h
    refine V_cV0 (q := 21) (kX11_put (d - 1) (by omega) hc38) (by omega) mv_X11_137 rfl rfl rfl rfl rfl rfl dX11_atom_18 rfl ?_
    refine V_goto (q := 89) dX11_atom_21 (by decide) ?_
    exact V_vret rfl h dX11_atom_89
abbrev mX11_term : Mth := (yX11_term, cX11_term, 2, none)
theorem mi_X11_term : Cond.instanceMethod yX11_term ∈ tG ∧ Cond.selects yX11_term.cls yX11_term yX11_term ∈ tG ∧ Cond.initialized yX11_term.cls ∈ tG ∧ Cond.code yX11_term cX11_term 2 (none) ∈ tG ∧ (yX11_term.cls ≠ "java/lang/invoke/MethodHandle" ∧ yX11_term.cls ≠ "java/lang/invoke/VarHandle" ∧ (parseMethodDescriptor yX11_term.desc).map (fun d => d.parameters.length) = some 0) ∧ 2 ≤ 60 := ⟨(tG_of (List.mem_of_getElem? (i := 1432) (by decide +kernel)) (by decide +kernel)), (tG_of (List.mem_of_getElem? (i := 64) (by decide +kernel)) (by decide +kernel)), (tG_of (List.mem_of_getElem? (i := 112) (by decide +kernel)) (by decide +kernel)), (tG_of (List.mem_of_getElem? (i := 1433) (by decide +kernel)) (by decide +kernel)), ⟨by decide, by decide, by decide +kernel⟩, by decide⟩
theorem mv_X11_158 : mV RX11 158 mX11_term 0 := ⟨(tG_of (List.mem_of_getElem? (i := 1430) (by decide +kernel)) (by decide +kernel)), mi_X11_term⟩
theorem dX11_term_0 : decode cX11_term 0 = .ok (.aload_n 0, 1) := by decide +kernel
theorem dX11_term_1 : decode cX11_term 1 = .ok (.invokevirtual 155, 3) := by decide +kernel
theorem dX11_term_4 : decode cX11_term 4 = .ok (.aload_n 0, 1) := by decide +kernel
theorem dX11_term_5 : decode cX11_term 5 = .ok (.getfield 115, 3) := by decide +kernel
theorem dX11_term_8 : decode cX11_term 8 = .ok (.iconst (-1), 1) := by decide +kernel
theorem dX11_term_9 : decode cX11_term 9 = .ok (.if_icmp .ne 10, 3) := by decide +kernel
theorem dX11_term_12 : decode cX11_term 12 = .ok (.aload_n 0, 1) := by decide +kernel
theorem dX11_term_13 : decode cX11_term 13 = .ok (.invokevirtual 127, 3) := by decide +kernel
theorem dX11_term_16 : decode cX11_term 16 = .ok (.goto 4, 3) := by decide +kernel
theorem dX11_term_19 : decode cX11_term 19 = .ok (.iconst (-1), 1) := by decide +kernel
theorem dX11_term_20 : decode cX11_term 20 = .ok (.istore_n 1, 1) := by decide +kernel
theorem dX11_term_21 : decode cX11_term 21 = .ok (.iload_n 1, 1) := by decide +kernel
theorem dX11_term_22 : decode cX11_term 22 = .ok (.bipush 42, 2) := by decide +kernel
theorem dX11_term_24 : decode cX11_term 24 = .ok (.if_icmp .eq 9, 3) := by decide +kernel
theorem dX11_term_27 : decode cX11_term 27 = .ok (.iload_n 1, 1) := by decide +kernel
theorem dX11_term_28 : decode cX11_term 28 = .ok (.bipush 47, 2) := by decide +kernel
theorem dX11_term_30 : decode cX11_term 30 = .ok (.if_icmp .ne 53, 3) := by decide +kernel
theorem dX11_term_33 : decode cX11_term 33 = .ok (.aload_n 0, 1) := by decide +kernel
theorem dX11_term_34 : decode cX11_term 34 = .ok (.dup, 1) := by decide +kernel
theorem dX11_term_35 : decode cX11_term 35 = .ok (.getfield 108, 3) := by decide +kernel
theorem dX11_term_38 : decode cX11_term 38 = .ok (.iconst 1, 1) := by decide +kernel
theorem dX11_term_39 : decode cX11_term 39 = .ok (.iadd, 1) := by decide +kernel
theorem dX11_term_40 : decode cX11_term 40 = .ok (.putfield 108, 3) := by decide +kernel
theorem dX11_term_43 : decode cX11_term 43 = .ok (.aload_n 0, 1) := by decide +kernel
theorem dX11_term_44 : decode cX11_term 44 = .ok (.invokevirtual 155, 3) := by decide +kernel
theorem dX11_term_47 : decode cX11_term 47 = .ok (.aload_n 0, 1) := by decide +kernel
theorem dX11_term_48 : decode cX11_term 48 = .ok (.iload_n 1, 1) := by decide +kernel
theorem dX11_term_49 : decode cX11_term 49 = .ok (.bipush 42, 2) := by decide +kernel
theorem dX11_term_51 : decode cX11_term 51 = .ok (.if_icmp .ne 7, 3) := by decide +kernel
theorem dX11_term_54 : decode cX11_term 54 = .ok (.iconst 4, 1) := by decide +kernel
theorem dX11_term_55 : decode cX11_term 55 = .ok (.goto 4, 3) := by decide +kernel
theorem dX11_term_58 : decode cX11_term 58 = .ok (.iconst 5, 1) := by decide +kernel
theorem dX11_term_59 : decode cX11_term 59 = .ok (.iconst 0, 1) := by decide +kernel
theorem dX11_term_60 : decode cX11_term 60 = .ok (.invokevirtual 137, 3) := by decide +kernel
theorem dX11_term_63 : decode cX11_term 63 = .ok (.aload_n 0, 1) := by decide +kernel
theorem dX11_term_64 : decode cX11_term 64 = .ok (.getfield 115, 3) := by decide +kernel
theorem dX11_term_67 : decode cX11_term 67 = .ok (.iconst (-1), 1) := by decide +kernel
theorem dX11_term_68 : decode cX11_term 68 = .ok (.if_icmp .ne 10, 3) := by decide +kernel
theorem dX11_term_71 : decode cX11_term 71 = .ok (.aload_n 0, 1) := by decide +kernel
theorem dX11_term_72 : decode cX11_term 72 = .ok (.invokevirtual 127, 3) := by decide +kernel
theorem dX11_term_75 : decode cX11_term 75 = .ok (.goto 4, 3) := by decide +kernel
theorem dX11_term_78 : decode cX11_term 78 = .ok (.iconst (-1), 1) := by decide +kernel
theorem dX11_term_79 : decode cX11_term 79 = .ok (.istore_n 1, 1) := by decide +kernel
theorem dX11_term_80 : decode cX11_term 80 = .ok (.goto (-59), 3) := by decide +kernel
theorem dX11_term_83 : decode cX11_term 83 = .ok (.return_, 1) := by decide +kernel
def X11_term_J59 (rec : Mm → Rs) (k21 : Int → Mm → Rs) (s1 : Int) (μ : Mm) : Rs := bd (X11_put s1 0 μ) fun v11 μ12 => if (μ12 70 4) = (-1) then (bd (X11_look μ12) fun v15 μ16 => k21 v15 μ16) else (k21 (-1) μ12)
def X11_term_J33 (rec : Mm → Rs) (k21 : Int → Mm → Rs) (l1 : Int) (μ : Mm) : Rs := sF μ 70 3 (iA (μ 70 3) 1) fun μ6 => bd (X11_atom_o rec μ6) fun v7 μ8 => if l1 = 42 then (X11_term_J59 rec (fun w1 μq => k21 w1 μq) 4 μ8) else (X11_term_J59 rec (fun w1 μq => k21 w1 μq) 5 μ8)
def X11_term_L21 (rec : Mm → Rs) : Nat → Int → Mm → Rs
  | 0, _, _ => none
  | n + 1, l1, μ => if l1 = 42 then (X11_term_J33 rec (fun w1 μq => X11_term_L21 rec n w1 μq) l1 μ) else (if l1 = 47 then (X11_term_J33 rec (fun w1 μq => X11_term_L21 rec n w1 μq) l1 μ) else (some (0, μ)))
def X11_term_J20 (rec : Mm → Rs) (s0 : Int) (μ : Mm) : Rs := X11_term_L21 rec FU s0 μ
def X11_term_o (rec : Mm → Rs) (μ : Mm) : Rs := bd (X11_atom_o rec μ) fun v1 μ2 => if (μ2 70 4) = (-1) then (bd (X11_look μ2) fun v19 μ20 => X11_term_J20 rec v19 μ20) else (X11_term_J20 rec (-1) μ2)
set_option maxHeartbeats 4000000 in
set_option maxRecDepth 100000 in
theorem kX11_term_J59 (d : Nat) (hd : d0 + 3 ≤ d) {rec : Mm → Rs} (hrec : ∀  {μ1 : Mm} {r1 : Int} {μ2 : Mm}, rec  μ1 = some (r1, μ2) → CC d0 mX11_sum [vR 70] μ1 r1 μ2) (hb : 7 ≤ d) {k21 : Int → Mm → Rs} {s1 : Int} {μ : Mm} {r : Int} {μ' : Mm} (hk_21 : ∀ (v1 : Int) (μ1 : Mm), k21 v1 μ1 = some (r, μ') → VV d mX11_term 21 [some (vR 70), some (vI v1)] [] μ1 r μ') (h : X11_term_J59 rec k21 s1 μ = some (r, μ')) : VV d mX11_term 59 [some (vR 70), none] [vR 70, vI s1] μ r μ' := by
  unfold X11_term_J59 at h
  refine V_iconst (q := 60) dX11_term_59 rfl rfl ?_
  obtain ⟨v11, μ12, hc13, h⟩ := bd_i h
  refine V_cV0 (q := 63) (kX11_put (d - 1) (by omega) hc13) (by omega) mv_X11_137 rfl rfl rfl rfl rfl rfl dX11_term_60 rfl ?_
  refine V_aload_n (q := 64) dX11_term_63 rfl rfl rfl ?_
  refine V_getI (q := 67) fl_X11_115 rfl rfl rfl dX11_term_64 rfl ?_
  refine V_iconst (q := 68) dX11_term_67 rfl rfl ?_
  refine V_icmpne (q := 78) (q2 := 71) dX11_term_68 (by decide) rfl (fun hc14 => ?_) (fun hc14 => ?_)
  · have h := ifF hc14 h
    refine V_iconst (q := 79) dX11_term_78 rfl rfl ?_
    refine V_istore_n (q := 80) dX11_term_79 rfl (Nat.le_of_ble_eq_true rfl) trivial rfl ?_
    refine V_goto (q := 21) dX11_term_80 (by decide) ?_
    exact V_weak (hk_21 _ _ h) (sb_s rfl (sb_s rfl sb_0))
  · have h := ifT hc14 h
    refine V_aload_n (q := 72) dX11_term_71 rfl rfl rfl ?_
    obtain ⟨v15, μ16, hc17, h⟩ := bd_i h
    refine V_cV1 (q := 75) (v := vI v15) (kX11_look (d - 1) (by omega) hc17) (by omega) mv_X11_127 rfl rfl rfl rfl rfl rfl dX11_term_72 rfl ?_
    refine V_goto (q := 79) dX11_term_75 (by decide) ?_
    refine V_istore_n (q := 80) dX11_term_79 rfl (Nat.le_of_ble_eq_true rfl) trivial rfl ?_
    refine V_goto (q := 21) dX11_term_80 (by decide) ?_
    exact V_weak (hk_21 _ _ h) (sb_s rfl (sb_s rfl sb_0))
set_option maxHeartbeats 4000000 in
set_option maxRecDepth 100000 in
theorem kX11_term_J33 (d : Nat) (hd : d0 + 3 ≤ d) {rec : Mm → Rs} (hrec : ∀  {μ1 : Mm} {r1 : Int} {μ2 : Mm}, rec  μ1 = some (r1, μ2) → CC d0 mX11_sum [vR 70] μ1 r1 μ2) (hb : 7 ≤ d) {k21 : Int → Mm → Rs} {l1 : Int} {μ : Mm} {r : Int} {μ' : Mm} (hk_21 : ∀ (v1 : Int) (μ1 : Mm), k21 v1 μ1 = some (r, μ') → VV d mX11_term 21 [some (vR 70), some (vI v1)] [] μ1 r μ') (h : X11_term_J33 rec k21 l1 μ = some (r, μ')) : VV d mX11_term 33 [some (vR 70), some (vI l1)] [] μ r μ' := by
  unfold X11_term_J33 at h
  refine V_aload_n (q := 34) dX11_term_33 rfl rfl rfl ?_
  refine V_dup (q := 35) dX11_term_34 trivial rfl ?_
  refine V_getI (q := 38) fl_X11_108 rfl rfl rfl dX11_term_35 rfl ?_
  refine V_iconst (q := 39) dX11_term_38 rfl rfl ?_
  refine V_iadd (q := 40) dX11_term_39 rfl ?_
  have h := sF_i h
  refine V_putI (q := 43) fl_X11_108 rfl rfl rfl dX11_term_40 rfl ?_
  refine V_aload_n (q := 44) dX11_term_43 rfl rfl rfl ?_
  obtain ⟨v7, μ8, hc9, h⟩ := bd_i h
  refine V_cV0 (q := 47) (kX11_atom (d - 1) (by omega) hrec (by omega) hc9) (by omega) mv_X11_155 rfl rfl rfl rfl rfl rfl dX11_term_44 rfl ?_
  refine V_aload_n (q := 48) dX11_term_47 rfl rfl rfl ?_
  refine V_iload_n (q := 49) dX11_term_48 rfl rfl rfl ?_
  refine V_bipush (q := 51) dX11_term_49 rfl rfl rfl ?_
  refine V_icmpne (q := 58) (q2 := 54) dX11_term_51 (by decide) rfl (fun hc10 => ?_) (fun hc10 => ?_)
  · have h := ifF hc10 h
    refine V_iconst (q := 59) dX11_term_58 rfl rfl ?_
    exact V_weak (kX11_term_J59 d hd hrec hb (fun _ _ h => hk_21 _ _ h) h) (sb_s rfl (sb_n sb_0))
  · have h := ifT hc10 h
    refine V_iconst (q := 55) dX11_term_54 rfl rfl ?_
    refine V_goto (q := 59) dX11_term_55 (by decide) ?_
    exact V_weak (kX11_term_J59 d hd hrec hb (fun _ _ h => hk_21 _ _ h) h) (sb_s rfl (sb_n sb_0))
set_option maxHeartbeats 4000000 in
set_option maxRecDepth 100000 in
theorem kX11_term_L21 (d : Nat) (hd : d0 + 3 ≤ d) {rec : Mm → Rs} (hrec : ∀  {μ1 : Mm} {r1 : Int} {μ2 : Mm}, rec  μ1 = some (r1, μ2) → CC d0 mX11_sum [vR 70] μ1 r1 μ2) (hb : 7 ≤ d) {r : Int} {μ' : Mm} : ∀ (n : Nat) {l1 : Int} {μ : Mm}, X11_term_L21 rec n l1 μ = some (r, μ') → VV d mX11_term 21 [some (vR 70), some (vI l1)] [] μ r μ' := by
  intro n
  induction n with
  | zero => intro l1 μ h; rw [X11_term_L21] at h; cases h
  | succ n ih =>
    intro l1 μ h
    rw [X11_term_L21] at h
    refine V_iload_n (q := 22) dX11_term_21 rfl rfl rfl ?_
    refine V_bipush (q := 24) dX11_term_22 rfl rfl rfl ?_
    refine V_icmpeq (q := 33) (q2 := 27) dX11_term_24 (by decide) rfl (fun hc5 => ?_) (fun hc5 => ?_)
    · have h := ifT hc5 h
      exact V_weak (kX11_term_J33 d hd hrec hb (fun _ _ h => ih h) h) (sb_s rfl (sb_s rfl sb_0))
    · have h := ifF hc5 h
      refine V_iload_n (q := 28) dX11_term_27 rfl rfl rfl ?_
      refine V_bipush (q := 30) dX11_term_28 rfl rfl rfl ?_
      refine V_icmpne (q := 83) (q2 := 33) dX11_term_30 (by decide) rfl (fun hc18 => ?_) (fun hc18 => ?_)
      · have h := ifF hc18 h
        exact V_vret rfl h dX11_term_83
      · have h := ifT hc18 h
        exact V_weak (kX11_term_J33 d hd hrec hb (fun _ _ h => ih h) h) (sb_s rfl (sb_s rfl sb_0))
set_option maxHeartbeats 4000000 in
set_option maxRecDepth 100000 in
theorem kX11_term_J20 (d : Nat) (hd : d0 + 3 ≤ d) {rec : Mm → Rs} (hrec : ∀  {μ1 : Mm} {r1 : Int} {μ2 : Mm}, rec  μ1 = some (r1, μ2) → CC d0 mX11_sum [vR 70] μ1 r1 μ2) (hb : 7 ≤ d) {s0 : Int} {μ : Mm} {r : Int} {μ' : Mm} (h : X11_term_J20 rec s0 μ = some (r, μ')) : VV d mX11_term 20 [some (vR 70), none] [vI s0] μ r μ' := by
  unfold X11_term_J20 at h
  refine V_istore_n (q := 21) dX11_term_20 rfl (Nat.le_of_ble_eq_true rfl) trivial rfl ?_
  exact V_weak (kX11_term_L21 d hd hrec hb  FU h) (sb_s rfl (sb_s rfl sb_0))
set_option maxHeartbeats 4000000 in
set_option maxRecDepth 100000 in
theorem kX11_term (d : Nat) (hd : d0 + 3 ≤ d) {rec : Mm → Rs} (hrec : ∀  {μ1 : Mm} {r1 : Int} {μ2 : Mm}, rec  μ1 = some (r1, μ2) → CC d0 mX11_sum [vR 70] μ1 r1 μ2) (hb : 7 ≤ d) {μ : Mm} {r : Int} {μ' : Mm} (h : X11_term_o rec μ = some (r, μ')) : CC d mX11_term [vR 70] μ r μ' := by
  unfold X11_term_o at h
  refine V_enter (by decide) (Nat.le_of_ble_eq_true rfl) ?_
  show VV d mX11_term 0 [some (vR 70), none] [] μ r μ'
  refine V_aload_n (q := 1) dX11_term_0 rfl rfl rfl ?_
  obtain ⟨v1, μ2, hc3, h⟩ := bd_i h
  refine V_cV0 (q := 4) (kX11_atom (d - 1) (by omega) hrec (by omega) hc3) (by omega) mv_X11_155 rfl rfl rfl rfl rfl rfl dX11_term_1 rfl ?_
  refine V_aload_n (q := 5) dX11_term_4 rfl rfl rfl ?_
  refine V_getI (q := 8) fl_X11_115 rfl rfl rfl dX11_term_5 rfl ?_
  refine V_iconst (q := 9) dX11_term_8 rfl rfl ?_
  refine V_icmpne (q := 19) (q2 := 12) dX11_term_9 (by decide) rfl (fun hc4 => ?_) (fun hc4 => ?_)
  · have h := ifF hc4 h
    refine V_iconst (q := 20) dX11_term_19 rfl rfl ?_
    exact V_weak (kX11_term_J20 d hd hrec hb h) (sb_s rfl (sb_n sb_0))
  · have h := ifT hc4 h
    refine V_aload_n (q := 13) dX11_term_12 rfl rfl rfl ?_
    obtain ⟨v19, μ20, hc21, h⟩ := bd_i h
    refine V_cV1 (q := 16) (v := vI v19) (kX11_look (d - 1) (by omega) hc21) (by omega) mv_X11_127 rfl rfl rfl rfl rfl rfl dX11_term_13 rfl ?_
    refine V_goto (q := 20) dX11_term_16 (by decide) ?_
    exact V_weak (kX11_term_J20 d hd hrec hb h) (sb_s rfl (sb_n sb_0))
abbrev mX11_sum : Mth := (yX11_sum, cX11_sum, 2, none)
theorem mi_X11_sum : Cond.instanceMethod yX11_sum ∈ tG ∧ Cond.selects yX11_sum.cls yX11_sum yX11_sum ∈ tG ∧ Cond.initialized yX11_sum.cls ∈ tG ∧ Cond.code yX11_sum cX11_sum 2 (none) ∈ tG ∧ (yX11_sum.cls ≠ "java/lang/invoke/MethodHandle" ∧ yX11_sum.cls ≠ "java/lang/invoke/VarHandle" ∧ (parseMethodDescriptor yX11_sum.desc).map (fun d => d.parameters.length) = some 0) ∧ 2 ≤ 60 := ⟨(tG_of (List.mem_of_getElem? (i := 1428) (by decide +kernel)) (by decide +kernel)), (tG_of (List.mem_of_getElem? (i := 63) (by decide +kernel)) (by decide +kernel)), (tG_of (List.mem_of_getElem? (i := 112) (by decide +kernel)) (by decide +kernel)), (tG_of (List.mem_of_getElem? (i := 1429) (by decide +kernel)) (by decide +kernel)), ⟨by decide, by decide, by decide +kernel⟩, by decide⟩
theorem mv_X11_148 : mV RX11 148 mX11_sum 0 := ⟨(tG_of (List.mem_of_getElem? (i := 1426) (by decide +kernel)) (by decide +kernel)), mi_X11_sum⟩
theorem dX11_sum_0 : decode cX11_sum 0 = .ok (.aload_n 0, 1) := by decide +kernel
theorem dX11_sum_1 : decode cX11_sum 1 = .ok (.invokevirtual 158, 3) := by decide +kernel
theorem dX11_sum_4 : decode cX11_sum 4 = .ok (.aload_n 0, 1) := by decide +kernel
theorem dX11_sum_5 : decode cX11_sum 5 = .ok (.getfield 115, 3) := by decide +kernel
theorem dX11_sum_8 : decode cX11_sum 8 = .ok (.iconst (-1), 1) := by decide +kernel
theorem dX11_sum_9 : decode cX11_sum 9 = .ok (.if_icmp .ne 10, 3) := by decide +kernel
theorem dX11_sum_12 : decode cX11_sum 12 = .ok (.aload_n 0, 1) := by decide +kernel
theorem dX11_sum_13 : decode cX11_sum 13 = .ok (.invokevirtual 127, 3) := by decide +kernel
theorem dX11_sum_16 : decode cX11_sum 16 = .ok (.goto 4, 3) := by decide +kernel
theorem dX11_sum_19 : decode cX11_sum 19 = .ok (.iconst (-1), 1) := by decide +kernel
theorem dX11_sum_20 : decode cX11_sum 20 = .ok (.istore_n 1, 1) := by decide +kernel
theorem dX11_sum_21 : decode cX11_sum 21 = .ok (.iload_n 1, 1) := by decide +kernel
theorem dX11_sum_22 : decode cX11_sum 22 = .ok (.bipush 43, 2) := by decide +kernel
theorem dX11_sum_24 : decode cX11_sum 24 = .ok (.if_icmp .eq 9, 3) := by decide +kernel
theorem dX11_sum_27 : decode cX11_sum 27 = .ok (.iload_n 1, 1) := by decide +kernel
theorem dX11_sum_28 : decode cX11_sum 28 = .ok (.bipush 45, 2) := by decide +kernel
theorem dX11_sum_30 : decode cX11_sum 30 = .ok (.if_icmp .ne 53, 3) := by decide +kernel
theorem dX11_sum_33 : decode cX11_sum 33 = .ok (.aload_n 0, 1) := by decide +kernel
theorem dX11_sum_34 : decode cX11_sum 34 = .ok (.dup, 1) := by decide +kernel
theorem dX11_sum_35 : decode cX11_sum 35 = .ok (.getfield 108, 3) := by decide +kernel
theorem dX11_sum_38 : decode cX11_sum 38 = .ok (.iconst 1, 1) := by decide +kernel
theorem dX11_sum_39 : decode cX11_sum 39 = .ok (.iadd, 1) := by decide +kernel
theorem dX11_sum_40 : decode cX11_sum 40 = .ok (.putfield 108, 3) := by decide +kernel
theorem dX11_sum_43 : decode cX11_sum 43 = .ok (.aload_n 0, 1) := by decide +kernel
theorem dX11_sum_44 : decode cX11_sum 44 = .ok (.invokevirtual 158, 3) := by decide +kernel
theorem dX11_sum_47 : decode cX11_sum 47 = .ok (.aload_n 0, 1) := by decide +kernel
theorem dX11_sum_48 : decode cX11_sum 48 = .ok (.iload_n 1, 1) := by decide +kernel
theorem dX11_sum_49 : decode cX11_sum 49 = .ok (.bipush 43, 2) := by decide +kernel
theorem dX11_sum_51 : decode cX11_sum 51 = .ok (.if_icmp .ne 7, 3) := by decide +kernel
theorem dX11_sum_54 : decode cX11_sum 54 = .ok (.iconst 2, 1) := by decide +kernel
theorem dX11_sum_55 : decode cX11_sum 55 = .ok (.goto 4, 3) := by decide +kernel
theorem dX11_sum_58 : decode cX11_sum 58 = .ok (.iconst 3, 1) := by decide +kernel
theorem dX11_sum_59 : decode cX11_sum 59 = .ok (.iconst 0, 1) := by decide +kernel
theorem dX11_sum_60 : decode cX11_sum 60 = .ok (.invokevirtual 137, 3) := by decide +kernel
theorem dX11_sum_63 : decode cX11_sum 63 = .ok (.aload_n 0, 1) := by decide +kernel
theorem dX11_sum_64 : decode cX11_sum 64 = .ok (.getfield 115, 3) := by decide +kernel
theorem dX11_sum_67 : decode cX11_sum 67 = .ok (.iconst (-1), 1) := by decide +kernel
theorem dX11_sum_68 : decode cX11_sum 68 = .ok (.if_icmp .ne 10, 3) := by decide +kernel
theorem dX11_sum_71 : decode cX11_sum 71 = .ok (.aload_n 0, 1) := by decide +kernel
theorem dX11_sum_72 : decode cX11_sum 72 = .ok (.invokevirtual 127, 3) := by decide +kernel
theorem dX11_sum_75 : decode cX11_sum 75 = .ok (.goto 4, 3) := by decide +kernel
theorem dX11_sum_78 : decode cX11_sum 78 = .ok (.iconst (-1), 1) := by decide +kernel
theorem dX11_sum_79 : decode cX11_sum 79 = .ok (.istore_n 1, 1) := by decide +kernel
theorem dX11_sum_80 : decode cX11_sum 80 = .ok (.goto (-59), 3) := by decide +kernel
theorem dX11_sum_83 : decode cX11_sum 83 = .ok (.return_, 1) := by decide +kernel
def X11_sum_J59 (rec : Mm → Rs) (k21 : Int → Mm → Rs) (s1 : Int) (μ : Mm) : Rs := bd (X11_put s1 0 μ) fun v11 μ12 => if (μ12 70 4) = (-1) then (bd (X11_look μ12) fun v15 μ16 => k21 v15 μ16) else (k21 (-1) μ12)
def X11_sum_J33 (rec : Mm → Rs) (k21 : Int → Mm → Rs) (l1 : Int) (μ : Mm) : Rs := sF μ 70 3 (iA (μ 70 3) 1) fun μ6 => bd (X11_term_o rec μ6) fun v7 μ8 => if l1 = 43 then (X11_sum_J59 rec (fun w1 μq => k21 w1 μq) 2 μ8) else (X11_sum_J59 rec (fun w1 μq => k21 w1 μq) 3 μ8)
def X11_sum_L21 (rec : Mm → Rs) : Nat → Int → Mm → Rs
  | 0, _, _ => none
  | n + 1, l1, μ => if l1 = 43 then (X11_sum_J33 rec (fun w1 μq => X11_sum_L21 rec n w1 μq) l1 μ) else (if l1 = 45 then (X11_sum_J33 rec (fun w1 μq => X11_sum_L21 rec n w1 μq) l1 μ) else (some (0, μ)))
def X11_sum_J20 (rec : Mm → Rs) (s0 : Int) (μ : Mm) : Rs := X11_sum_L21 rec FU s0 μ
def X11_sum : Nat → Mm → Rs
  | 0, _ => none
  | n + 1, , μ => bd (X11_term_o (fun  μq => X11_sum n  μq) μ) fun v1 μ2 => if (μ2 70 4) = (-1) then (bd (X11_look μ2) fun v19 μ20 => X11_sum_J20 (fun  μq => X11_sum n  μq) v19 μ20) else (X11_sum_J20 (fun  μq => X11_sum n  μq) (-1) μ2)
set_option maxHeartbeats 4000000 in
set_option maxRecDepth 100000 in
theorem kX11_sum_J59 (d : Nat) (hd : d0 + 1 ≤ d) (hb : 5 ≤ d) {rec : Mm → Rs} (hrec : ∀  {μ1 : Mm} {r1 : Int} {μ2 : Mm}, rec  μ1 = some (r1, μ2) → CC d0 mX11_sum [vR 70] μ1 r1 μ2) {k21 : Int → Mm → Rs} {s1 : Int} {μ : Mm} {r : Int} {μ' : Mm} (hk_21 : ∀ (v1 : Int) (μ1 : Mm), k21 v1 μ1 = some (r, μ') → VV d mX11_sum 21 [some (vR 70), some (vI v1)] [] μ1 r μ') (h : X11_sum_J59 rec k21 s1 μ = some (r, μ')) : VV d mX11_sum 59 [some (vR 70), none] [vR 70, vI s1] μ r μ' := by
  unfold X11_sum_J59 at h
  refine V_iconst (q := 60) dX11_sum_59 rfl rfl ?_
  obtain ⟨v11, μ12, hc13, h⟩ := bd_i h
  refine V_cV0 (q := 63) (kX11_put (d - 1) (by omega) hc13) (by omega) mv_X11_137 rfl rfl rfl rfl rfl rfl dX11_sum_60 rfl ?_
  refine V_aload_n (q := 64) dX11_sum_63 rfl rfl rfl ?_
  refine V_getI (q := 67) fl_X11_115 rfl rfl rfl dX11_sum_64 rfl ?_
  refine V_iconst (q := 68) dX11_sum_67 rfl rfl ?_
  refine V_icmpne (q := 78) (q2 := 71) dX11_sum_68 (by decide) rfl (fun hc14 => ?_) (fun hc14 => ?_)
  · have h := ifF hc14 h
    refine V_iconst (q := 79) dX11_sum_78 rfl rfl ?_
    refine V_istore_n (q := 80) dX11_sum_79 rfl (Nat.le_of_ble_eq_true rfl) trivial rfl ?_
    refine V_goto (q := 21) dX11_sum_80 (by decide) ?_
    exact V_weak (hk_21 _ _ h) (sb_s rfl (sb_s rfl sb_0))
  · have h := ifT hc14 h
    refine V_aload_n (q := 72) dX11_sum_71 rfl rfl rfl ?_
    obtain ⟨v15, μ16, hc17, h⟩ := bd_i h
    refine V_cV1 (q := 75) (v := vI v15) (kX11_look (d - 1) (by omega) hc17) (by omega) mv_X11_127 rfl rfl rfl rfl rfl rfl dX11_sum_72 rfl ?_
    refine V_goto (q := 79) dX11_sum_75 (by decide) ?_
    refine V_istore_n (q := 80) dX11_sum_79 rfl (Nat.le_of_ble_eq_true rfl) trivial rfl ?_
    refine V_goto (q := 21) dX11_sum_80 (by decide) ?_
    exact V_weak (hk_21 _ _ h) (sb_s rfl (sb_s rfl sb_0))
set_option maxHeartbeats 4000000 in
set_option maxRecDepth 100000 in
theorem kX11_sum_J33 (d : Nat) (hd : d0 + 1 ≤ d) (hb : 5 ≤ d) {rec : Mm → Rs} (hrec : ∀  {μ1 : Mm} {r1 : Int} {μ2 : Mm}, rec  μ1 = some (r1, μ2) → CC d0 mX11_sum [vR 70] μ1 r1 μ2) {k21 : Int → Mm → Rs} {l1 : Int} {μ : Mm} {r : Int} {μ' : Mm} (hk_21 : ∀ (v1 : Int) (μ1 : Mm), k21 v1 μ1 = some (r, μ') → VV d mX11_sum 21 [some (vR 70), some (vI v1)] [] μ1 r μ') (h : X11_sum_J33 rec k21 l1 μ = some (r, μ')) : VV d mX11_sum 33 [some (vR 70), some (vI l1)] [] μ r μ' := by
  unfold X11_sum_J33 at h
  refine V_aload_n (q := 34) dX11_sum_33 rfl rfl rfl ?_
  refine V_dup (q := 35) dX11_sum_34 trivial rfl ?_
  refine V_getI (q := 38) fl_X11_108 rfl rfl rfl dX11_sum_35 rfl ?_
  refine V_iconst (q := 39) dX11_sum_38 rfl rfl ?_
  refine V_iadd (q := 40) dX11_sum_39 rfl ?_
  have h := sF_i h
  refine V_putI (q := 43) fl_X11_108 rfl rfl rfl dX11_sum_40 rfl ?_
  refine V_aload_n (q := 44) dX11_sum_43 rfl rfl rfl ?_
  obtain ⟨v7, μ8, hc9, h⟩ := bd_i h
  refine V_cV0 (q := 47) (kX11_term (d - 1) (by omega) hrec (by omega) hc9) (by omega) mv_X11_158 rfl rfl rfl rfl rfl rfl dX11_sum_44 rfl ?_
  refine V_aload_n (q := 48) dX11_sum_47 rfl rfl rfl ?_
  refine V_iload_n (q := 49) dX11_sum_48 rfl rfl rfl ?_
  refine V_bipush (q := 51) dX11_sum_49 rfl rfl rfl ?_
  refine V_icmpne (q := 58) (q2 := 54) dX11_sum_51 (by decide) rfl (fun hc10 => ?_) (fun hc10 => ?_)
  · have h := ifF hc10 h
    refine V_iconst (q := 59) dX11_sum_58 rfl rfl ?_
    exact V_weak (kX11_sum_J59 d hd hb hrec (fun _ _ h => hk_21 _ _ h) h) (sb_s rfl (sb_n sb_0))
  · have h := ifT hc10 h
    refine V_iconst (q := 55) dX11_sum_54 rfl rfl ?_
    refine V_goto (q := 59) dX11_sum_55 (by decide) ?_
    exact V_weak (kX11_sum_J59 d hd hb hrec (fun _ _ h => hk_21 _ _ h) h) (sb_s rfl (sb_n sb_0))
set_option maxHeartbeats 4000000 in
set_option maxRecDepth 100000 in
theorem kX11_sum_L21 (d : Nat) (hd : d0 + 1 ≤ d) (hb : 5 ≤ d) {rec : Mm → Rs} (hrec : ∀  {μ1 : Mm} {r1 : Int} {μ2 : Mm}, rec  μ1 = some (r1, μ2) → CC d0 mX11_sum [vR 70] μ1 r1 μ2) {r : Int} {μ' : Mm} : ∀ (n : Nat) {l1 : Int} {μ : Mm}, X11_sum_L21 rec n l1 μ = some (r, μ') → VV d mX11_sum 21 [some (vR 70), some (vI l1)] [] μ r μ' := by
  intro n
  induction n with
  | zero => intro l1 μ h; rw [X11_sum_L21] at h; cases h
  | succ n ih =>
    intro l1 μ h
    rw [X11_sum_L21] at h
    refine V_iload_n (q := 22) dX11_sum_21 rfl rfl rfl ?_
    refine V_bipush (q := 24) dX11_sum_22 rfl rfl rfl ?_
    refine V_icmpeq (q := 33) (q2 := 27) dX11_sum_24 (by decide) rfl (fun hc5 => ?_) (fun hc5 => ?_)
    · have h := ifT hc5 h
      exact V_weak (kX11_sum_J33 d hd hb hrec (fun _ _ h => ih h) h) (sb_s rfl (sb_s rfl sb_0))
    · have h := ifF hc5 h
      refine V_iload_n (q := 28) dX11_sum_27 rfl rfl rfl ?_
      refine V_bipush (q := 30) dX11_sum_28 rfl rfl rfl ?_
      refine V_icmpne (q := 83) (q2 := 33) dX11_sum_30 (by decide) rfl (fun hc18 => ?_) (fun hc18 => ?_)
      · have h := ifF hc18 h
        exact V_vret rfl h dX11_sum_83
      · have h := ifT hc18 h
        exact V_weak (kX11_sum_J33 d hd hb hrec (fun _ _ h => ih h) h) (sb_s rfl (sb_s rfl sb_0))
set_option maxHeartbeats 4000000 in
set_option maxRecDepth 100000 in
theorem kX11_sum_J20 (d : Nat) (hd : d0 + 1 ≤ d) (hb : 5 ≤ d) {rec : Mm → Rs} (hrec : ∀  {μ1 : Mm} {r1 : Int} {μ2 : Mm}, rec  μ1 = some (r1, μ2) → CC d0 mX11_sum [vR 70] μ1 r1 μ2) {s0 : Int} {μ : Mm} {r : Int} {μ' : Mm} (h : X11_sum_J20 rec s0 μ = some (r, μ')) : VV d mX11_sum 20 [some (vR 70), none] [vI s0] μ r μ' := by
  unfold X11_sum_J20 at h
  refine V_istore_n (q := 21) dX11_sum_20 rfl (Nat.le_of_ble_eq_true rfl) trivial rfl ?_
  exact V_weak (kX11_sum_L21 d hd hrec  FU h) (sb_s rfl (sb_s rfl sb_0))
set_option maxHeartbeats 4000000 in
set_option maxRecDepth 100000 in
theorem kX11_sum : ∀ (n d : Nat) (hd : 10 * n + 14 ≤ d) {μ : Mm} {r : Int} {μ' : Mm} (h : X11_sum n μ = some (r, μ')), CC d mX11_sum [vR 70] μ r μ' := by
  intro n
  induction n with
  | zero => intro d hd    μ r μ' h; rw [X11_sum] at h; cases h
  | succ n ih =>
    intro d hd    μ r μ' h
    have hb : 5 ≤ d := by omega
    obtain ⟨d0, hd0⟩ : ∃ z, z = 10 * n + 14 := ⟨_, rfl⟩
    have hd : d0 + 10 ≤ d := by omega
    have hrec : ∀  {μ1 : Mm} {r1 : Int} {μ2 : Mm}, ((fun  μq => X11_sum n  μq))  μ1 = some (r1, μ2) → CC d0 mX11_sum [vR 70] μ1 r1 μ2 := fun h1 => ih d0 (by omega) h1
    rw [X11_sum] at h
    refine V_enter (by decide) (Nat.le_of_ble_eq_true rfl) ?_
    show VV d mX11_sum 0 [some (vR 70), none] [] μ r μ'
    refine V_aload_n (q := 1) dX11_sum_0 rfl rfl rfl ?_
    obtain ⟨v1, μ2, hc3, h⟩ := bd_i h
    refine V_cV0 (q := 4) (kX11_term (d - 1) (by omega) hrec (by omega) hc3) (by omega) mv_X11_158 rfl rfl rfl rfl rfl rfl dX11_sum_1 rfl ?_
    refine V_aload_n (q := 5) dX11_sum_4 rfl rfl rfl ?_
    refine V_getI (q := 8) fl_X11_115 rfl rfl rfl dX11_sum_5 rfl ?_
    refine V_iconst (q := 9) dX11_sum_8 rfl rfl ?_
    refine V_icmpne (q := 19) (q2 := 12) dX11_sum_9 (by decide) rfl (fun hc4 => ?_) (fun hc4 => ?_)
    · have h := ifF hc4 h
      refine V_iconst (q := 20) dX11_sum_19 rfl rfl ?_
      exact V_weak (kX11_sum_J20 d (by omega) hb hrec h) (sb_s rfl (sb_n sb_0))
    · have h := ifT hc4 h
      refine V_aload_n (q := 13) dX11_sum_12 rfl rfl rfl ?_
      obtain ⟨v19, μ20, hc21, h⟩ := bd_i h
      refine V_cV1 (q := 16) (v := vI v19) (kX11_look (d - 1) (by omega) hc21) (by omega) mv_X11_127 rfl rfl rfl rfl rfl rfl dX11_sum_13 rfl ?_
      refine V_goto (q := 20) dX11_sum_16 (by decide) ?_
      exact V_weak (kX11_sum_J20 d (by omega) hb hrec h) (sb_s rfl (sb_n sb_0))
theorem kX11_atom_c (d : Nat) (hd : 136 ≤ d) {μ : Mm} {r : Int} {μ' : Mm} (h : X11_atom_o (X11_sum RD) μ = some (r, μ')) : CC d mX11_atom [vR 70] μ r μ' := kX11_atom (d0 := 10 * RD + 14) d (by unfold RD; omega) (fun h1 => kX11_sum RD _ (Nat.le_refl _) h1) (by omega) h
theorem kX11_term_c (d : Nat) (hd : 137 ≤ d) {μ : Mm} {r : Int} {μ' : Mm} (h : X11_term_o (X11_sum RD) μ = some (r, μ')) : CC d mX11_term [vR 70] μ r μ' := kX11_term (d0 := 10 * RD + 14) d (by unfold RD; omega) (fun h1 => kX11_sum RD _ (Nat.le_refl _) h1) (by omega) h
abbrev mX11_isSign : Mth := (yX11_isSign, cX11_isSign, 1, some .boolean)
theorem mi_X11_isSign : Cond.static yX11_isSign ∈ tG ∧ Cond.initialized yX11_isSign.cls ∈ tG ∧ Cond.code yX11_isSign cX11_isSign 1 (some .boolean) ∈ tG ∧ (yX11_isSign.cls ≠ "java/lang/invoke/MethodHandle" ∧ yX11_isSign.cls ≠ "java/lang/invoke/VarHandle" ∧ (parseMethodDescriptor yX11_isSign.desc).map (fun d => d.parameters.length) = some 1) ∧ 1 ≤ 60 := ⟨(tG_of (List.mem_of_getElem? (i := 1450) (by decide +kernel)) (by decide +kernel)), (tG_of (List.mem_of_getElem? (i := 112) (by decide +kernel)) (by decide +kernel)), (tG_of (List.mem_of_getElem? (i := 1451) (by decide +kernel)) (by decide +kernel)), ⟨by decide, by decide, by decide +kernel⟩, by decide⟩
theorem mv_X11_161 : mS RX11 161 mX11_isSign 1 := ⟨(tG_of (List.mem_of_getElem? (i := 1449) (by decide +kernel)) (by decide +kernel)), mi_X11_isSign.1, (tG_of (List.mem_of_getElem? (i := 112) (by decide +kernel)) (by decide +kernel)), mi_X11_isSign.2⟩
theorem dX11_isSign_0 : decode cX11_isSign 0 = .ok (.iload_n 0, 1) := by decide +kernel
theorem dX11_isSign_1 : decode cX11_isSign 1 = .ok (.bipush 61, 2) := by decide +kernel
theorem dX11_isSign_3 : decode cX11_isSign 3 = .ok (.if_icmp .eq 15, 3) := by decide +kernel
theorem dX11_isSign_6 : decode cX11_isSign 6 = .ok (.iload_n 0, 1) := by decide +kernel
theorem dX11_isSign_7 : decode cX11_isSign 7 = .ok (.bipush 60, 2) := by decide +kernel
theorem dX11_isSign_9 : decode cX11_isSign 9 = .ok (.if_icmp .eq 9, 3) := by decide +kernel
theorem dX11_isSign_12 : decode cX11_isSign 12 = .ok (.iload_n 0, 1) := by decide +kernel
theorem dX11_isSign_13 : decode cX11_isSign 13 = .ok (.bipush 62, 2) := by decide +kernel
theorem dX11_isSign_15 : decode cX11_isSign 15 = .ok (.if_icmp .ne 7, 3) := by decide +kernel
theorem dX11_isSign_18 : decode cX11_isSign 18 = .ok (.iconst 1, 1) := by decide +kernel
theorem dX11_isSign_19 : decode cX11_isSign 19 = .ok (.goto 4, 3) := by decide +kernel
theorem dX11_isSign_22 : decode cX11_isSign 22 = .ok (.iconst 0, 1) := by decide +kernel
theorem dX11_isSign_23 : decode cX11_isSign 23 = .ok (.ireturn, 1) := by decide +kernel
def X11_isSign (l0 : Int) (μ : Mm) : Rs := if l0 = 61 then (some (1, μ)) else (if l0 = 60 then (some (1, μ)) else (if l0 = 62 then (some (1, μ)) else (some (0, μ))))
set_option maxHeartbeats 4000000 in
set_option maxRecDepth 100000 in
theorem kX11_isSign (d : Nat) (hd : 1 ≤ d) {l0 : Int} {μ : Mm} {r : Int} {μ' : Mm} (h : X11_isSign l0 μ = some (r, μ')) : CC d mX11_isSign [vI l0] μ r μ' := by
  unfold X11_isSign at h
  refine V_enter (by decide) (Nat.le_of_ble_eq_true rfl) ?_
  show VV d mX11_isSign 0 [some (vI l0)] [] μ r μ'
  refine V_iload_n (q := 1) dX11_isSign_0 rfl rfl rfl ?_
  refine V_bipush (q := 3) dX11_isSign_1 rfl rfl rfl ?_
  refine V_icmpeq (q := 18) (q2 := 6) dX11_isSign_3 (by decide) rfl (fun hc1 => ?_) (fun hc1 => ?_)
  · have h := ifT hc1 h
    refine V_iconst (q := 19) dX11_isSign_18 rfl rfl ?_
    refine V_goto (q := 23) dX11_isSign_19 (by decide) ?_
    exact V_zret rfl (Or.inr rfl) h dX11_isSign_23
  · have h := ifF hc1 h
    refine V_iload_n (q := 7) dX11_isSign_6 rfl rfl rfl ?_
    refine V_bipush (q := 9) dX11_isSign_7 rfl rfl rfl ?_
    refine V_icmpeq (q := 18) (q2 := 12) dX11_isSign_9 (by decide) rfl (fun hc2 => ?_) (fun hc2 => ?_)
    · have h := ifT hc2 h
      refine V_iconst (q := 19) dX11_isSign_18 rfl rfl ?_
      refine V_goto (q := 23) dX11_isSign_19 (by decide) ?_
      exact V_zret rfl (Or.inr rfl) h dX11_isSign_23
    · have h := ifF hc2 h
      refine V_iload_n (q := 13) dX11_isSign_12 rfl rfl rfl ?_
      refine V_bipush (q := 15) dX11_isSign_13 rfl rfl rfl ?_
      refine V_icmpne (q := 22) (q2 := 18) dX11_isSign_15 (by decide) rfl (fun hc3 => ?_) (fun hc3 => ?_)
      · have h := ifF hc3 h
        refine V_iconst (q := 23) dX11_isSign_22 rfl rfl ?_
        exact V_zret rfl (Or.inl rfl) h dX11_isSign_23
      · have h := ifT hc3 h
        refine V_iconst (q := 19) dX11_isSign_18 rfl rfl ?_
        refine V_goto (q := 23) dX11_isSign_19 (by decide) ?_
        exact V_zret rfl (Or.inr rfl) h dX11_isSign_23
abbrev mX11_compare : Mth := (yX11_compare, cX11_compare, 2, none)
theorem mi_X11_compare : Cond.instanceMethod yX11_compare ∈ tG ∧ Cond.selects yX11_compare.cls yX11_compare yX11_compare ∈ tG ∧ Cond.initialized yX11_compare.cls ∈ tG ∧ Cond.code yX11_compare cX11_compare 2 (none) ∈ tG ∧ (yX11_compare.cls ≠ "java/lang/invoke/MethodHandle" ∧ yX11_compare.cls ≠ "java/lang/invoke/VarHandle" ∧ (parseMethodDescriptor yX11_compare.desc).map (fun d => d.parameters.length) = some 0) ∧ 2 ≤ 60 := ⟨(tG_of (List.mem_of_getElem? (i := 1447) (by decide +kernel)) (by decide +kernel)), (tG_of (List.mem_of_getElem? (i := 67) (by decide +kernel)) (by decide +kernel)), (tG_of (List.mem_of_getElem? (i := 112) (by decide +kernel)) (by decide +kernel)), (tG_of (List.mem_of_getElem? (i := 1448) (by decide +kernel)) (by decide +kernel)), ⟨by decide, by decide, by decide +kernel⟩, by decide⟩
theorem mv_X11_170 : mV RX11 170 mX11_compare 0 := ⟨(tG_of (List.mem_of_getElem? (i := 1445) (by decide +kernel)) (by decide +kernel)), mi_X11_compare⟩
theorem dX11_compare_0 : decode cX11_compare 0 = .ok (.aload_n 0, 1) := by decide +kernel
theorem dX11_compare_1 : decode cX11_compare 1 = .ok (.getfield 115, 3) := by decide +kernel
theorem dX11_compare_4 : decode cX11_compare 4 = .ok (.iconst (-1), 1) := by decide +kernel
theorem dX11_compare_5 : decode cX11_compare 5 = .ok (.if_icmp .ne 10, 3) := by decide +kernel
theorem dX11_compare_8 : decode cX11_compare 8 = .ok (.aload_n 0, 1) := by decide +kernel
theorem dX11_compare_9 : decode cX11_compare 9 = .ok (.invokevirtual 127, 3) := by decide +kernel
theorem dX11_compare_12 : decode cX11_compare 12 = .ok (.goto 4, 3) := by decide +kernel
theorem dX11_compare_15 : decode cX11_compare 15 = .ok (.iconst (-1), 1) := by decide +kernel
theorem dX11_compare_16 : decode cX11_compare 16 = .ok (.istore_n 1, 1) := by decide +kernel
theorem dX11_compare_17 : decode cX11_compare 17 = .ok (.iload_n 1, 1) := by decide +kernel
theorem dX11_compare_18 : decode cX11_compare 18 = .ok (.invokestatic 161, 3) := by decide +kernel
theorem dX11_compare_21 : decode cX11_compare 21 = .ok (.ifCond .ne 8, 3) := by decide +kernel
theorem dX11_compare_24 : decode cX11_compare 24 = .ok (.aload_n 0, 1) := by decide +kernel
theorem dX11_compare_25 : decode cX11_compare 25 = .ok (.invokevirtual 124, 3) := by decide +kernel
theorem dX11_compare_28 : decode cX11_compare 28 = .ok (.return_, 1) := by decide +kernel
theorem dX11_compare_29 : decode cX11_compare 29 = .ok (.aload_n 0, 1) := by decide +kernel
theorem dX11_compare_30 : decode cX11_compare 30 = .ok (.dup, 1) := by decide +kernel
theorem dX11_compare_31 : decode cX11_compare 31 = .ok (.getfield 108, 3) := by decide +kernel
theorem dX11_compare_34 : decode cX11_compare 34 = .ok (.iconst 1, 1) := by decide +kernel
theorem dX11_compare_35 : decode cX11_compare 35 = .ok (.iadd, 1) := by decide +kernel
theorem dX11_compare_36 : decode cX11_compare 36 = .ok (.putfield 108, 3) := by decide +kernel
theorem dX11_compare_39 : decode cX11_compare 39 = .ok (.aload_n 0, 1) := by decide +kernel
theorem dX11_compare_40 : decode cX11_compare 40 = .ok (.invokevirtual 148, 3) := by decide +kernel
theorem dX11_compare_43 : decode cX11_compare 43 = .ok (.aload_n 0, 1) := by decide +kernel
theorem dX11_compare_44 : decode cX11_compare 44 = .ok (.iload_n 1, 1) := by decide +kernel
theorem dX11_compare_45 : decode cX11_compare 45 = .ok (.bipush 61, 2) := by decide +kernel
theorem dX11_compare_47 : decode cX11_compare 47 = .ok (.if_icmp .ne 8, 3) := by decide +kernel
theorem dX11_compare_50 : decode cX11_compare 50 = .ok (.bipush 6, 2) := by decide +kernel
theorem dX11_compare_52 : decode cX11_compare 52 = .ok (.goto 16, 3) := by decide +kernel
theorem dX11_compare_55 : decode cX11_compare 55 = .ok (.iload_n 1, 1) := by decide +kernel
theorem dX11_compare_56 : decode cX11_compare 56 = .ok (.bipush 60, 2) := by decide +kernel
theorem dX11_compare_58 : decode cX11_compare 58 = .ok (.if_icmp .ne 8, 3) := by decide +kernel
theorem dX11_compare_61 : decode cX11_compare 61 = .ok (.bipush 7, 2) := by decide +kernel
theorem dX11_compare_63 : decode cX11_compare 63 = .ok (.goto 5, 3) := by decide +kernel
theorem dX11_compare_66 : decode cX11_compare 66 = .ok (.bipush 8, 2) := by decide +kernel
theorem dX11_compare_68 : decode cX11_compare 68 = .ok (.iconst 0, 1) := by decide +kernel
theorem dX11_compare_69 : decode cX11_compare 69 = .ok (.invokevirtual 137, 3) := by decide +kernel
theorem dX11_compare_72 : decode cX11_compare 72 = .ok (.return_, 1) := by decide +kernel
def X11_compare_J16 (s0 : Int) (μ : Mm) : Rs := bd (X11_isSign s0 μ) fun v2 μ3 => if v2 = 0 then (bd (X11_bad μ3) fun v21 μ22 => some (0, μ22)) else (sF μ3 70 3 (iA (μ3 70 3) 1) fun μ6 => bd (X11_sum RD μ6) fun v7 μ8 => if s0 = 61 then (bd (X11_put 6 0 μ8) fun v18 μ19 => some (0, μ19)) else (if s0 = 60 then (bd (X11_put 7 0 μ8) fun v15 μ16 => some (0, μ16)) else (bd (X11_put 8 0 μ8) fun v12 μ13 => some (0, μ13))))
def X11_compare (μ : Mm) : Rs := if (μ 70 4) = (-1) then (bd (X11_look μ) fun v24 μ25 => X11_compare_J16 v24 μ25) else (X11_compare_J16 (-1) μ)
set_option maxHeartbeats 4000000 in
set_option maxRecDepth 100000 in
theorem kX11_compare_J16 (d : Nat) (hd : 135 ≤ d) {s0 : Int} {μ : Mm} {r : Int} {μ' : Mm} (h : X11_compare_J16 s0 μ = some (r, μ')) : VV d mX11_compare 16 [some (vR 70), none] [vI s0] μ r μ' := by
  unfold X11_compare_J16 at h
  refine V_istore_n (q := 17) dX11_compare_16 rfl (Nat.le_of_ble_eq_true rfl) trivial rfl ?_
  refine V_iload_n (q := 18) dX11_compare_17 rfl rfl rfl ?_
  obtain ⟨v2, μ3, hc4, h⟩ := bd_i h
  refine V_cS1 (q := 21) (v := vI v2) (kX11_isSign (d - 1) (by omega) hc4) (by omega) mv_X11_161 rfl rfl rfl rfl dX11_compare_18 rfl ?_
  refine V_ifne (q := 29) (q2 := 24) dX11_compare_21 (by decide) rfl (fun hc5 => ?_) (fun hc5 => ?_)
  · have h := ifF hc5 h
    refine V_aload_n (q := 30) dX11_compare_29 rfl rfl rfl ?_
    refine V_dup (q := 31) dX11_compare_30 trivial rfl ?_
    refine V_getI (q := 34) fl_X11_108 rfl rfl rfl dX11_compare_31 rfl ?_
    refine V_iconst (q := 35) dX11_compare_34 rfl rfl ?_
    refine V_iadd (q := 36) dX11_compare_35 rfl ?_
    have h := sF_i h
    refine V_putI (q := 39) fl_X11_108 rfl rfl rfl dX11_compare_36 rfl ?_
    refine V_aload_n (q := 40) dX11_compare_39 rfl rfl rfl ?_
    obtain ⟨v7, μ8, hc9, h⟩ := bd_i h
    refine V_cV0 (q := 43) (kX11_sum RD (d - 1) (by unfold RD; omega) hc9) (by omega) mv_X11_148 rfl rfl rfl rfl rfl rfl dX11_compare_40 rfl ?_
    refine V_aload_n (q := 44) dX11_compare_43 rfl rfl rfl ?_
    refine V_iload_n (q := 45) dX11_compare_44 rfl rfl rfl ?_
    refine V_bipush (q := 47) dX11_compare_45 rfl rfl rfl ?_
    refine V_icmpne (q := 55) (q2 := 50) dX11_compare_47 (by decide) rfl (fun hc10 => ?_) (fun hc10 => ?_)
    · have h := ifF hc10 h
      refine V_iload_n (q := 56) dX11_compare_55 rfl rfl rfl ?_
      refine V_bipush (q := 58) dX11_compare_56 rfl rfl rfl ?_
      refine V_icmpne (q := 66) (q2 := 61) dX11_compare_58 (by decide) rfl (fun hc11 => ?_) (fun hc11 => ?_)
      · have h := ifF hc11 h
        refine V_bipush (q := 68) dX11_compare_66 rfl rfl rfl ?_
        refine V_iconst (q := 69) dX11_compare_68 rfl rfl ?_
        obtain ⟨v12, μ13, hc14, h⟩ := bd_i h
        refine V_cV0 (q := 72) (kX11_put (d - 1) (by omega) hc14) (by omega) mv_X11_137 rfl rfl rfl rfl rfl rfl dX11_compare_69 rfl ?_
        exact V_vret rfl h dX11_compare_72
      · have h := ifT hc11 h
        refine V_bipush (q := 63) dX11_compare_61 rfl rfl rfl ?_
        refine V_goto (q := 68) dX11_compare_63 (by decide) ?_
        refine V_iconst (q := 69) dX11_compare_68 rfl rfl ?_
        obtain ⟨v15, μ16, hc17, h⟩ := bd_i h
        refine V_cV0 (q := 72) (kX11_put (d - 1) (by omega) hc17) (by omega) mv_X11_137 rfl rfl rfl rfl rfl rfl dX11_compare_69 rfl ?_
        exact V_vret rfl h dX11_compare_72
    · have h := ifT hc10 h
      refine V_bipush (q := 52) dX11_compare_50 rfl rfl rfl ?_
      refine V_goto (q := 68) dX11_compare_52 (by decide) ?_
      refine V_iconst (q := 69) dX11_compare_68 rfl rfl ?_
      obtain ⟨v18, μ19, hc20, h⟩ := bd_i h
      refine V_cV0 (q := 72) (kX11_put (d - 1) (by omega) hc20) (by omega) mv_X11_137 rfl rfl rfl rfl rfl rfl dX11_compare_69 rfl ?_
      exact V_vret rfl h dX11_compare_72
  · have h := ifT hc5 h
    refine V_aload_n (q := 25) dX11_compare_24 rfl rfl rfl ?_
    obtain ⟨v21, μ22, hc23, h⟩ := bd_i h
    refine V_cV0 (q := 28) (kX11_bad (d - 1) (by omega) hc23) (by omega) mv_X11_124 rfl rfl rfl rfl rfl rfl dX11_compare_25 rfl ?_
    exact V_vret rfl h dX11_compare_28
set_option maxHeartbeats 4000000 in
set_option maxRecDepth 100000 in
theorem kX11_compare (d : Nat) (hd : 135 ≤ d) {μ : Mm} {r : Int} {μ' : Mm} (h : X11_compare μ = some (r, μ')) : CC d mX11_compare [vR 70] μ r μ' := by
  unfold X11_compare at h
  refine V_enter (by decide) (Nat.le_of_ble_eq_true rfl) ?_
  show VV d mX11_compare 0 [some (vR 70), none] [] μ r μ'
  refine V_aload_n (q := 1) dX11_compare_0 rfl rfl rfl ?_
  refine V_getI (q := 4) fl_X11_115 rfl rfl rfl dX11_compare_1 rfl ?_
  refine V_iconst (q := 5) dX11_compare_4 rfl rfl ?_
  refine V_icmpne (q := 15) (q2 := 8) dX11_compare_5 (by decide) rfl (fun hc1 => ?_) (fun hc1 => ?_)
  · have h := ifF hc1 h
    refine V_iconst (q := 16) dX11_compare_15 rfl rfl ?_
    exact V_weak (kX11_compare_J16 d hd h) (sb_s rfl (sb_n sb_0))
  · have h := ifT hc1 h
    refine V_aload_n (q := 9) dX11_compare_8 rfl rfl rfl ?_
    obtain ⟨v24, μ25, hc26, h⟩ := bd_i h
    refine V_cV1 (q := 12) (v := vI v24) (kX11_look (d - 1) (by omega) hc26) (by omega) mv_X11_127 rfl rfl rfl rfl rfl rfl dX11_compare_9 rfl ?_
    refine V_goto (q := 16) dX11_compare_12 (by decide) ?_
    exact V_weak (kX11_compare_J16 d hd h) (sb_s rfl (sb_n sb_0))
abbrev mX11_goOnAnd : Mth := (yX11_goOnAnd, cX11_goOnAnd, 1, none)
theorem mi_X11_goOnAnd : Cond.instanceMethod yX11_goOnAnd ∈ tG ∧ Cond.selects yX11_goOnAnd.cls yX11_goOnAnd yX11_goOnAnd ∈ tG ∧ Cond.initialized yX11_goOnAnd.cls ∈ tG ∧ Cond.code yX11_goOnAnd cX11_goOnAnd 1 (none) ∈ tG ∧ (yX11_goOnAnd.cls ≠ "java/lang/invoke/MethodHandle" ∧ yX11_goOnAnd.cls ≠ "java/lang/invoke/VarHandle" ∧ (parseMethodDescriptor yX11_goOnAnd.desc).map (fun d => d.parameters.length) = some 0) ∧ 1 ≤ 60 := ⟨(tG_of (List.mem_of_getElem? (i := 1454) (by decide +kernel)) (by decide +kernel)), (tG_of (List.mem_of_getElem? (i := 68) (by decide +kernel)) (by decide +kernel)), (tG_of (List.mem_of_getElem? (i := 112) (by decide +kernel)) (by decide +kernel)), (tG_of (List.mem_of_getElem? (i := 1455) (by decide +kernel)) (by decide +kernel)), ⟨by decide, by decide, by decide +kernel⟩, by decide⟩
theorem mv_X11_173 : mV RX11 173 mX11_goOnAnd 0 := ⟨(tG_of (List.mem_of_getElem? (i := 1452) (by decide +kernel)) (by decide +kernel)), mi_X11_goOnAnd⟩
theorem dX11_goOnAnd_0 : decode cX11_goOnAnd 0 = .ok (.aload_n 0, 1) := by decide +kernel
theorem dX11_goOnAnd_1 : decode cX11_goOnAnd 1 = .ok (.getfield 115, 3) := by decide +kernel
theorem dX11_goOnAnd_4 : decode cX11_goOnAnd 4 = .ok (.iconst (-1), 1) := by decide +kernel
theorem dX11_goOnAnd_5 : decode cX11_goOnAnd 5 = .ok (.if_icmp .ne 36, 3) := by decide +kernel
theorem dX11_goOnAnd_8 : decode cX11_goOnAnd 8 = .ok (.aload_n 0, 1) := by decide +kernel
theorem dX11_goOnAnd_9 : decode cX11_goOnAnd 9 = .ok (.invokevirtual 127, 3) := by decide +kernel
theorem dX11_goOnAnd_12 : decode cX11_goOnAnd 12 = .ok (.bipush 38, 2) := by decide +kernel
theorem dX11_goOnAnd_14 : decode cX11_goOnAnd 14 = .ok (.if_icmp .ne 27, 3) := by decide +kernel
theorem dX11_goOnAnd_17 : decode cX11_goOnAnd 17 = .ok (.aload_n 0, 1) := by decide +kernel
theorem dX11_goOnAnd_18 : decode cX11_goOnAnd 18 = .ok (.dup, 1) := by decide +kernel
theorem dX11_goOnAnd_19 : decode cX11_goOnAnd 19 = .ok (.getfield 108, 3) := by decide +kernel
theorem dX11_goOnAnd_22 : decode cX11_goOnAnd 22 = .ok (.iconst 1, 1) := by decide +kernel
theorem dX11_goOnAnd_23 : decode cX11_goOnAnd 23 = .ok (.iadd, 1) := by decide +kernel
theorem dX11_goOnAnd_24 : decode cX11_goOnAnd 24 = .ok (.putfield 108, 3) := by decide +kernel
theorem dX11_goOnAnd_27 : decode cX11_goOnAnd 27 = .ok (.aload_n 0, 1) := by decide +kernel
theorem dX11_goOnAnd_28 : decode cX11_goOnAnd 28 = .ok (.invokevirtual 164, 3) := by decide +kernel
theorem dX11_goOnAnd_31 : decode cX11_goOnAnd 31 = .ok (.aload_n 0, 1) := by decide +kernel
theorem dX11_goOnAnd_32 : decode cX11_goOnAnd 32 = .ok (.bipush 10, 2) := by decide +kernel
theorem dX11_goOnAnd_34 : decode cX11_goOnAnd 34 = .ok (.iconst 0, 1) := by decide +kernel
theorem dX11_goOnAnd_35 : decode cX11_goOnAnd 35 = .ok (.invokevirtual 137, 3) := by decide +kernel
theorem dX11_goOnAnd_38 : decode cX11_goOnAnd 38 = .ok (.goto (-38), 3) := by decide +kernel
theorem dX11_goOnAnd_41 : decode cX11_goOnAnd 41 = .ok (.return_, 1) := by decide +kernel
def X11_goOnAnd_L0 (rec : Mm → Rs) : Nat → Mm → Rs
  | 0, _ => none
  | n + 1, μ => if (μ 70 4) = (-1) then (bd (X11_look μ) fun v2 μ3 => if v2 = 38 then (sF μ3 70 3 (iA (μ3 70 3) 1) fun μ6 => bd (rec μ6) fun v7 μ8 => bd (X11_put 10 0 μ8) fun v10 μ11 => X11_goOnAnd_L0 rec n μ11) else (some (0, μ3))) else (some (0, μ))
def X11_goOnAnd_o (rec : Mm → Rs) (μ : Mm) : Rs := X11_goOnAnd_L0 rec FU μ
set_option maxHeartbeats 4000000 in
set_option maxRecDepth 100000 in
theorem kX11_goOnAnd_L0 (d : Nat) (hd : d0 + 2 ≤ d) {rec : Mm → Rs} (hrec : ∀  {μ1 : Mm} {r1 : Int} {μ2 : Mm}, rec  μ1 = some (r1, μ2) → CC d0 mX11_unit [vR 70] μ1 r1 μ2) (hb : 138 ≤ d) {r : Int} {μ' : Mm} : ∀ (n : Nat) {μ : Mm}, X11_goOnAnd_L0 rec n μ = some (r, μ') → VV d mX11_goOnAnd 0 [some (vR 70)] [] μ r μ' := by
  intro n
  induction n with
  | zero => intro μ h; rw [X11_goOnAnd_L0] at h; cases h
  | succ n ih =>
    intro μ h
    rw [X11_goOnAnd_L0] at h
    refine V_aload_n (q := 1) dX11_goOnAnd_0 rfl rfl rfl ?_
    refine V_getI (q := 4) fl_X11_115 rfl rfl rfl dX11_goOnAnd_1 rfl ?_
    refine V_iconst (q := 5) dX11_goOnAnd_4 rfl rfl ?_
    refine V_icmpne (q := 41) (q2 := 8) dX11_goOnAnd_5 (by decide) rfl (fun hc1 => ?_) (fun hc1 => ?_)
    · have h := ifF hc1 h
      exact V_vret rfl h dX11_goOnAnd_41
    · have h := ifT hc1 h
      refine V_aload_n (q := 9) dX11_goOnAnd_8 rfl rfl rfl ?_
      obtain ⟨v2, μ3, hc4, h⟩ := bd_i h
      refine V_cV1 (q := 12) (v := vI v2) (kX11_look (d - 1) (by omega) hc4) (by omega) mv_X11_127 rfl rfl rfl rfl rfl rfl dX11_goOnAnd_9 rfl ?_
      refine V_bipush (q := 14) dX11_goOnAnd_12 rfl rfl rfl ?_
      refine V_icmpne (q := 41) (q2 := 17) dX11_goOnAnd_14 (by decide) rfl (fun hc5 => ?_) (fun hc5 => ?_)
      · have h := ifF hc5 h
        exact V_vret rfl h dX11_goOnAnd_41
      · have h := ifT hc5 h
        refine V_aload_n (q := 18) dX11_goOnAnd_17 rfl rfl rfl ?_
        refine V_dup (q := 19) dX11_goOnAnd_18 trivial rfl ?_
        refine V_getI (q := 22) fl_X11_108 rfl rfl rfl dX11_goOnAnd_19 rfl ?_
        refine V_iconst (q := 23) dX11_goOnAnd_22 rfl rfl ?_
        refine V_iadd (q := 24) dX11_goOnAnd_23 rfl ?_
        have h := sF_i h
        refine V_putI (q := 27) fl_X11_108 rfl rfl rfl dX11_goOnAnd_24 rfl ?_
        refine V_aload_n (q := 28) dX11_goOnAnd_27 rfl rfl rfl ?_
        obtain ⟨v7, μ8, hc9, h⟩ := bd_i h
        refine V_cV0 (q := 31) (hrec hc9) (by omega) mv_X11_164 rfl rfl rfl rfl rfl rfl dX11_goOnAnd_28 rfl ?_
        refine V_aload_n (q := 32) dX11_goOnAnd_31 rfl rfl rfl ?_
        refine V_bipush (q := 34) dX11_goOnAnd_32 rfl rfl rfl ?_
        refine V_iconst (q := 35) dX11_goOnAnd_34 rfl rfl ?_
        obtain ⟨v10, μ11, hc12, h⟩ := bd_i h
        refine V_cV0 (q := 38) (kX11_put (d - 1) (by omega) hc12) (by omega) mv_X11_137 rfl rfl rfl rfl rfl rfl dX11_goOnAnd_35 rfl ?_
        refine V_goto (q := 0) dX11_goOnAnd_38 (by decide) ?_
        exact V_weak (ih h) (sb_s rfl sb_0)
set_option maxHeartbeats 4000000 in
set_option maxRecDepth 100000 in
theorem kX11_goOnAnd (d : Nat) (hd : d0 + 2 ≤ d) {rec : Mm → Rs} (hrec : ∀  {μ1 : Mm} {r1 : Int} {μ2 : Mm}, rec  μ1 = some (r1, μ2) → CC d0 mX11_unit [vR 70] μ1 r1 μ2) (hb : 138 ≤ d) {μ : Mm} {r : Int} {μ' : Mm} (h : X11_goOnAnd_o rec μ = some (r, μ')) : CC d mX11_goOnAnd [vR 70] μ r μ' := by
  unfold X11_goOnAnd_o at h
  refine V_enter (by decide) (Nat.le_of_ble_eq_true rfl) ?_
  show VV d mX11_goOnAnd 0 [some (vR 70)] [] μ r μ'
  exact V_weak (kX11_goOnAnd_L0 d hd hrec hb  FU h) (sb_s rfl sb_0)
abbrev mX11_goOnOr : Mth := (yX11_goOnOr, cX11_goOnOr, 1, none)
theorem mi_X11_goOnOr : Cond.instanceMethod yX11_goOnOr ∈ tG ∧ Cond.selects yX11_goOnOr.cls yX11_goOnOr yX11_goOnOr ∈ tG ∧ Cond.initialized yX11_goOnOr.cls ∈ tG ∧ Cond.code yX11_goOnOr cX11_goOnOr 1 (none) ∈ tG ∧ (yX11_goOnOr.cls ≠ "java/lang/invoke/MethodHandle" ∧ yX11_goOnOr.cls ≠ "java/lang/invoke/VarHandle" ∧ (parseMethodDescriptor yX11_goOnOr.desc).map (fun d => d.parameters.length) = some 0) ∧ 1 ≤ 60 := ⟨(tG_of (List.mem_of_getElem? (i := 1458) (by decide +kernel)) (by decide +kernel)), (tG_of (List.mem_of_getElem? (i := 69) (by decide +kernel)) (by decide +kernel)), (tG_of (List.mem_of_getElem? (i := 112) (by decide +kernel)) (by decide +kernel)), (tG_of (List.mem_of_getElem? (i := 1459) (by decide +kernel)) (by decide +kernel)), ⟨by decide, by decide, by decide +kernel⟩, by decide⟩
theorem mv_X11_176 : mV RX11 176 mX11_goOnOr 0 := ⟨(tG_of (List.mem_of_getElem? (i := 1456) (by decide +kernel)) (by decide +kernel)), mi_X11_goOnOr⟩
theorem dX11_goOnOr_0 : decode cX11_goOnOr 0 = .ok (.aload_n 0, 1) := by decide +kernel
theorem dX11_goOnOr_1 : decode cX11_goOnOr 1 = .ok (.getfield 115, 3) := by decide +kernel
theorem dX11_goOnOr_4 : decode cX11_goOnOr 4 = .ok (.iconst (-1), 1) := by decide +kernel
theorem dX11_goOnOr_5 : decode cX11_goOnOr 5 = .ok (.if_icmp .ne 40, 3) := by decide +kernel
theorem dX11_goOnOr_8 : decode cX11_goOnOr 8 = .ok (.aload_n 0, 1) := by decide +kernel
theorem dX11_goOnOr_9 : decode cX11_goOnOr 9 = .ok (.invokevirtual 127, 3) := by decide +kernel
theorem dX11_goOnOr_12 : decode cX11_goOnOr 12 = .ok (.bipush 124, 2) := by decide +kernel
theorem dX11_goOnOr_14 : decode cX11_goOnOr 14 = .ok (.if_icmp .ne 31, 3) := by decide +kernel
theorem dX11_goOnOr_17 : decode cX11_goOnOr 17 = .ok (.aload_n 0, 1) := by decide +kernel
theorem dX11_goOnOr_18 : decode cX11_goOnOr 18 = .ok (.dup, 1) := by decide +kernel
theorem dX11_goOnOr_19 : decode cX11_goOnOr 19 = .ok (.getfield 108, 3) := by decide +kernel
theorem dX11_goOnOr_22 : decode cX11_goOnOr 22 = .ok (.iconst 1, 1) := by decide +kernel
theorem dX11_goOnOr_23 : decode cX11_goOnOr 23 = .ok (.iadd, 1) := by decide +kernel
theorem dX11_goOnOr_24 : decode cX11_goOnOr 24 = .ok (.putfield 108, 3) := by decide +kernel
theorem dX11_goOnOr_27 : decode cX11_goOnOr 27 = .ok (.aload_n 0, 1) := by decide +kernel
theorem dX11_goOnOr_28 : decode cX11_goOnOr 28 = .ok (.invokevirtual 164, 3) := by decide +kernel
theorem dX11_goOnOr_31 : decode cX11_goOnOr 31 = .ok (.aload_n 0, 1) := by decide +kernel
theorem dX11_goOnOr_32 : decode cX11_goOnOr 32 = .ok (.invokevirtual 173, 3) := by decide +kernel
theorem dX11_goOnOr_35 : decode cX11_goOnOr 35 = .ok (.aload_n 0, 1) := by decide +kernel
theorem dX11_goOnOr_36 : decode cX11_goOnOr 36 = .ok (.bipush 11, 2) := by decide +kernel
theorem dX11_goOnOr_38 : decode cX11_goOnOr 38 = .ok (.iconst 0, 1) := by decide +kernel
theorem dX11_goOnOr_39 : decode cX11_goOnOr 39 = .ok (.invokevirtual 137, 3) := by decide +kernel
theorem dX11_goOnOr_42 : decode cX11_goOnOr 42 = .ok (.goto (-42), 3) := by decide +kernel
theorem dX11_goOnOr_45 : decode cX11_goOnOr 45 = .ok (.return_, 1) := by decide +kernel
def X11_goOnOr_L0 (rec : Mm → Rs) : Nat → Mm → Rs
  | 0, _ => none
  | n + 1, μ => if (μ 70 4) = (-1) then (bd (X11_look μ) fun v2 μ3 => if v2 = 124 then (sF μ3 70 3 (iA (μ3 70 3) 1) fun μ6 => bd (rec μ6) fun v7 μ8 => bd (X11_goOnAnd_o rec μ8) fun v10 μ11 => bd (X11_put 11 0 μ11) fun v13 μ14 => X11_goOnOr_L0 rec n μ14) else (some (0, μ3))) else (some (0, μ))
def X11_goOnOr_o (rec : Mm → Rs) (μ : Mm) : Rs := X11_goOnOr_L0 rec FU μ
set_option maxHeartbeats 4000000 in
set_option maxRecDepth 100000 in
theorem kX11_goOnOr_L0 (d : Nat) (hd : d0 + 3 ≤ d) {rec : Mm → Rs} (hrec : ∀  {μ1 : Mm} {r1 : Int} {μ2 : Mm}, rec  μ1 = some (r1, μ2) → CC d0 mX11_unit [vR 70] μ1 r1 μ2) (hb : 139 ≤ d) {r : Int} {μ' : Mm} : ∀ (n : Nat) {μ : Mm}, X11_goOnOr_L0 rec n μ = some (r, μ') → VV d mX11_goOnOr 0 [some (vR 70)] [] μ r μ' := by
  intro n
  induction n with
  | zero => intro μ h; rw [X11_goOnOr_L0] at h; cases h
  | succ n ih =>
    intro μ h
    rw [X11_goOnOr_L0] at h
    refine V_aload_n (q := 1) dX11_goOnOr_0 rfl rfl rfl ?_
    refine V_getI (q := 4) fl_X11_115 rfl rfl rfl dX11_goOnOr_1 rfl ?_
    refine V_iconst (q := 5) dX11_goOnOr_4 rfl rfl ?_
    refine V_icmpne (q := 45) (q2 := 8) dX11_goOnOr_5 (by decide) rfl (fun hc1 => ?_) (fun hc1 => ?_)
    · have h := ifF hc1 h
      exact V_vret rfl h dX11_goOnOr_45
    · have h := ifT hc1 h
      refine V_aload_n (q := 9) dX11_goOnOr_8 rfl rfl rfl ?_
      obtain ⟨v2, μ3, hc4, h⟩ := bd_i h
      refine V_cV1 (q := 12) (v := vI v2) (kX11_look (d - 1) (by omega) hc4) (by omega) mv_X11_127 rfl rfl rfl rfl rfl rfl dX11_goOnOr_9 rfl ?_
      refine V_bipush (q := 14) dX11_goOnOr_12 rfl rfl rfl ?_
      refine V_icmpne (q := 45) (q2 := 17) dX11_goOnOr_14 (by decide) rfl (fun hc5 => ?_) (fun hc5 => ?_)
      · have h := ifF hc5 h
        exact V_vret rfl h dX11_goOnOr_45
      · have h := ifT hc5 h
        refine V_aload_n (q := 18) dX11_goOnOr_17 rfl rfl rfl ?_
        refine V_dup (q := 19) dX11_goOnOr_18 trivial rfl ?_
        refine V_getI (q := 22) fl_X11_108 rfl rfl rfl dX11_goOnOr_19 rfl ?_
        refine V_iconst (q := 23) dX11_goOnOr_22 rfl rfl ?_
        refine V_iadd (q := 24) dX11_goOnOr_23 rfl ?_
        have h := sF_i h
        refine V_putI (q := 27) fl_X11_108 rfl rfl rfl dX11_goOnOr_24 rfl ?_
        refine V_aload_n (q := 28) dX11_goOnOr_27 rfl rfl rfl ?_
        obtain ⟨v7, μ8, hc9, h⟩ := bd_i h
        refine V_cV0 (q := 31) (hrec hc9) (by omega) mv_X11_164 rfl rfl rfl rfl rfl rfl dX11_goOnOr_28 rfl ?_
        refine V_aload_n (q := 32) dX11_goOnOr_31 rfl rfl rfl ?_
        obtain ⟨v10, μ11, hc12, h⟩ := bd_i h
        refine V_cV0 (q := 35) (kX11_goOnAnd (d - 1) (by omega) hrec (by omega) hc12) (by omega) mv_X11_173 rfl rfl rfl rfl rfl rfl dX11_goOnOr_32 rfl ?_
        refine V_aload_n (q := 36) dX11_goOnOr_35 rfl rfl rfl ?_
        refine V_bipush (q := 38) dX11_goOnOr_36 rfl rfl rfl ?_
        refine V_iconst (q := 39) dX11_goOnOr_38 rfl rfl ?_
        obtain ⟨v13, μ14, hc15, h⟩ := bd_i h
        refine V_cV0 (q := 42) (kX11_put (d - 1) (by omega) hc15) (by omega) mv_X11_137 rfl rfl rfl rfl rfl rfl dX11_goOnOr_39 rfl ?_
        refine V_goto (q := 0) dX11_goOnOr_42 (by decide) ?_
        exact V_weak (ih h) (sb_s rfl sb_0)
set_option maxHeartbeats 4000000 in
set_option maxRecDepth 100000 in
theorem kX11_goOnOr (d : Nat) (hd : d0 + 3 ≤ d) {rec : Mm → Rs} (hrec : ∀  {μ1 : Mm} {r1 : Int} {μ2 : Mm}, rec  μ1 = some (r1, μ2) → CC d0 mX11_unit [vR 70] μ1 r1 μ2) (hb : 139 ≤ d) {μ : Mm} {r : Int} {μ' : Mm} (h : X11_goOnOr_o rec μ = some (r, μ')) : CC d mX11_goOnOr [vR 70] μ r μ' := by
  unfold X11_goOnOr_o at h
  refine V_enter (by decide) (Nat.le_of_ble_eq_true rfl) ?_
  show VV d mX11_goOnOr 0 [some (vR 70)] [] μ r μ'
  exact V_weak (kX11_goOnOr_L0 d hd hrec hb  FU h) (sb_s rfl sb_0)
abbrev mX11_condition : Mth := (yX11_condition, cX11_condition, 1, none)
theorem mi_X11_condition : Cond.instanceMethod yX11_condition ∈ tG ∧ Cond.selects yX11_condition.cls yX11_condition yX11_condition ∈ tG ∧ Cond.initialized yX11_condition.cls ∈ tG ∧ Cond.code yX11_condition cX11_condition 1 (none) ∈ tG ∧ (yX11_condition.cls ≠ "java/lang/invoke/MethodHandle" ∧ yX11_condition.cls ≠ "java/lang/invoke/VarHandle" ∧ (parseMethodDescriptor yX11_condition.desc).map (fun d => d.parameters.length) = some 0) ∧ 1 ≤ 60 := ⟨(tG_of (List.mem_of_getElem? (i := 1408) (by decide +kernel)) (by decide +kernel)), (tG_of (List.mem_of_getElem? (i := 58) (by decide +kernel)) (by decide +kernel)), (tG_of (List.mem_of_getElem? (i := 112) (by decide +kernel)) (by decide +kernel)), (tG_of (List.mem_of_getElem? (i := 1409) (by decide +kernel)) (by decide +kernel)), ⟨by decide, by decide, by decide +kernel⟩, by decide⟩
theorem mv_X11_167 : mV RX11 167 mX11_condition 0 := ⟨(tG_of (List.mem_of_getElem? (i := 1406) (by decide +kernel)) (by decide +kernel)), mi_X11_condition⟩
theorem dX11_condition_0 : decode cX11_condition 0 = .ok (.aload_n 0, 1) := by decide +kernel
theorem dX11_condition_1 : decode cX11_condition 1 = .ok (.invokevirtual 164, 3) := by decide +kernel
theorem dX11_condition_4 : decode cX11_condition 4 = .ok (.aload_n 0, 1) := by decide +kernel
theorem dX11_condition_5 : decode cX11_condition 5 = .ok (.invokevirtual 173, 3) := by decide +kernel
theorem dX11_condition_8 : decode cX11_condition 8 = .ok (.aload_n 0, 1) := by decide +kernel
theorem dX11_condition_9 : decode cX11_condition 9 = .ok (.invokevirtual 176, 3) := by decide +kernel
theorem dX11_condition_12 : decode cX11_condition 12 = .ok (.return_, 1) := by decide +kernel
def X11_condition_o (rec : Mm → Rs) (μ : Mm) : Rs := bd (rec μ) fun v1 μ2 => bd (X11_goOnAnd_o rec μ2) fun v4 μ5 => bd (X11_goOnOr_o rec μ5) fun v7 μ8 => some (0, μ8)
set_option maxHeartbeats 4000000 in
set_option maxRecDepth 100000 in
theorem kX11_condition (d : Nat) (hd : d0 + 4 ≤ d) {rec : Mm → Rs} (hrec : ∀  {μ1 : Mm} {r1 : Int} {μ2 : Mm}, rec  μ1 = some (r1, μ2) → CC d0 mX11_unit [vR 70] μ1 r1 μ2) (hb : 140 ≤ d) {μ : Mm} {r : Int} {μ' : Mm} (h : X11_condition_o rec μ = some (r, μ')) : CC d mX11_condition [vR 70] μ r μ' := by
  unfold X11_condition_o at h
  refine V_enter (by decide) (Nat.le_of_ble_eq_true rfl) ?_
  show VV d mX11_condition 0 [some (vR 70)] [] μ r μ'
  refine V_aload_n (q := 1) dX11_condition_0 rfl rfl rfl ?_
  obtain ⟨v1, μ2, hc3, h⟩ := bd_i h
  refine V_cV0 (q := 4) (hrec hc3) (by omega) mv_X11_164 rfl rfl rfl rfl rfl rfl dX11_condition_1 rfl ?_
  refine V_aload_n (q := 5) dX11_condition_4 rfl rfl rfl ?_
  obtain ⟨v4, μ5, hc6, h⟩ := bd_i h
  refine V_cV0 (q := 8) (kX11_goOnAnd (d - 1) (by omega) hrec (by omega) hc6) (by omega) mv_X11_173 rfl rfl rfl rfl rfl rfl dX11_condition_5 rfl ?_
  refine V_aload_n (q := 9) dX11_condition_8 rfl rfl rfl ?_
  obtain ⟨v7, μ8, hc9, h⟩ := bd_i h
  refine V_cV0 (q := 12) (kX11_goOnOr (d - 1) (by omega) hrec (by omega) hc9) (by omega) mv_X11_176 rfl rfl rfl rfl rfl rfl dX11_condition_9 rfl ?_
  exact V_vret rfl h dX11_condition_12
abbrev mX11_unit : Mth := (yX11_unit, cX11_unit, 2, none)
theorem mi_X11_unit : Cond.instanceMethod yX11_unit ∈ tG ∧ Cond.selects yX11_unit.cls yX11_unit yX11_unit ∈ tG ∧ Cond.initialized yX11_unit.cls ∈ tG ∧ Cond.code yX11_unit cX11_unit 2 (none) ∈ tG ∧ (yX11_unit.cls ≠ "java/lang/invoke/MethodHandle" ∧ yX11_unit.cls ≠ "java/lang/invoke/VarHandle" ∧ (parseMethodDescriptor yX11_unit.desc).map (fun d => d.parameters.length) = some 0) ∧ 2 ≤ 60 := ⟨(tG_of (List.mem_of_getElem? (i := 1412) (by decide +kernel)) (by decide +kernel)), (tG_of (List.mem_of_getElem? (i := 59) (by decide +kernel)) (by decide +kernel)), (tG_of (List.mem_of_getElem? (i := 112) (by decide +kernel)) (by decide +kernel)), (tG_of (List.mem_of_getElem? (i := 1413) (by decide +kernel)) (by decide +kernel)), ⟨by decide, by decide, by decide +kernel⟩, by decide⟩
theorem mv_X11_164 : mV RX11 164 mX11_unit 0 := ⟨(tG_of (List.mem_of_getElem? (i := 1410) (by decide +kernel)) (by decide +kernel)), mi_X11_unit⟩
theorem dX11_unit_0 : decode cX11_unit 0 = .ok (.aload_n 0, 1) := by decide +kernel
theorem dX11_unit_1 : decode cX11_unit 1 = .ok (.invokevirtual 127, 3) := by decide +kernel
theorem dX11_unit_4 : decode cX11_unit 4 = .ok (.istore_n 1, 1) := by decide +kernel
theorem dX11_unit_5 : decode cX11_unit 5 = .ok (.iload_n 1, 1) := by decide +kernel
theorem dX11_unit_6 : decode cX11_unit 6 = .ok (.bipush 33, 2) := by decide +kernel
theorem dX11_unit_8 : decode cX11_unit 8 = .ok (.if_icmp .ne 39, 3) := by decide +kernel
theorem dX11_unit_11 : decode cX11_unit 11 = .ok (.aload_n 0, 1) := by decide +kernel
theorem dX11_unit_12 : decode cX11_unit 12 = .ok (.invokevirtual 145, 3) := by decide +kernel
theorem dX11_unit_15 : decode cX11_unit 15 = .ok (.aload_n 0, 1) := by decide +kernel
theorem dX11_unit_16 : decode cX11_unit 16 = .ok (.getfield 115, 3) := by decide +kernel
theorem dX11_unit_19 : decode cX11_unit 19 = .ok (.iconst (-1), 1) := by decide +kernel
theorem dX11_unit_20 : decode cX11_unit 20 = .ok (.if_icmp .ne 74, 3) := by decide +kernel
theorem dX11_unit_23 : decode cX11_unit 23 = .ok (.aload_n 0, 1) := by decide +kernel
theorem dX11_unit_24 : decode cX11_unit 24 = .ok (.invokevirtual 164, 3) := by decide +kernel
theorem dX11_unit_27 : decode cX11_unit 27 = .ok (.aload_n 0, 1) := by decide +kernel
theorem dX11_unit_28 : decode cX11_unit 28 = .ok (.bipush 9, 2) := by decide +kernel
theorem dX11_unit_30 : decode cX11_unit 30 = .ok (.iconst 0, 1) := by decide +kernel
theorem dX11_unit_31 : decode cX11_unit 31 = .ok (.invokevirtual 137, 3) := by decide +kernel
theorem dX11_unit_34 : decode cX11_unit 34 = .ok (.aload_n 0, 1) := by decide +kernel
theorem dX11_unit_35 : decode cX11_unit 35 = .ok (.dup, 1) := by decide +kernel
theorem dX11_unit_36 : decode cX11_unit 36 = .ok (.getfield 121, 3) := by decide +kernel
theorem dX11_unit_39 : decode cX11_unit 39 = .ok (.iconst 1, 1) := by decide +kernel
theorem dX11_unit_40 : decode cX11_unit 40 = .ok (.isub, 1) := by decide +kernel
theorem dX11_unit_41 : decode cX11_unit 41 = .ok (.putfield 121, 3) := by decide +kernel
theorem dX11_unit_44 : decode cX11_unit 44 = .ok (.goto 50, 3) := by decide +kernel
theorem dX11_unit_47 : decode cX11_unit 47 = .ok (.iload_n 1, 1) := by decide +kernel
theorem dX11_unit_48 : decode cX11_unit 48 = .ok (.bipush 40, 2) := by decide +kernel
theorem dX11_unit_50 : decode cX11_unit 50 = .ok (.if_icmp .ne 28, 3) := by decide +kernel
theorem dX11_unit_53 : decode cX11_unit 53 = .ok (.aload_n 0, 1) := by decide +kernel
theorem dX11_unit_54 : decode cX11_unit 54 = .ok (.invokevirtual 145, 3) := by decide +kernel
theorem dX11_unit_57 : decode cX11_unit 57 = .ok (.aload_n 0, 1) := by decide +kernel
theorem dX11_unit_58 : decode cX11_unit 58 = .ok (.getfield 115, 3) := by decide +kernel
theorem dX11_unit_61 : decode cX11_unit 61 = .ok (.iconst (-1), 1) := by decide +kernel
theorem dX11_unit_62 : decode cX11_unit 62 = .ok (.if_icmp .ne 32, 3) := by decide +kernel
theorem dX11_unit_65 : decode cX11_unit 65 = .ok (.aload_n 0, 1) := by decide +kernel
theorem dX11_unit_66 : decode cX11_unit 66 = .ok (.invokevirtual 167, 3) := by decide +kernel
theorem dX11_unit_69 : decode cX11_unit 69 = .ok (.aload_n 0, 1) := by decide +kernel
theorem dX11_unit_70 : decode cX11_unit 70 = .ok (.bipush 41, 2) := by decide +kernel
theorem dX11_unit_72 : decode cX11_unit 72 = .ok (.invokevirtual 151, 3) := by decide +kernel
theorem dX11_unit_75 : decode cX11_unit 75 = .ok (.goto 19, 3) := by decide +kernel
theorem dX11_unit_78 : decode cX11_unit 78 = .ok (.aload_n 0, 1) := by decide +kernel
theorem dX11_unit_79 : decode cX11_unit 79 = .ok (.invokevirtual 148, 3) := by decide +kernel
theorem dX11_unit_82 : decode cX11_unit 82 = .ok (.aload_n 0, 1) := by decide +kernel
theorem dX11_unit_83 : decode cX11_unit 83 = .ok (.getfield 115, 3) := by decide +kernel
theorem dX11_unit_86 : decode cX11_unit 86 = .ok (.iconst (-1), 1) := by decide +kernel
theorem dX11_unit_87 : decode cX11_unit 87 = .ok (.if_icmp .ne 7, 3) := by decide +kernel
theorem dX11_unit_90 : decode cX11_unit 90 = .ok (.aload_n 0, 1) := by decide +kernel
theorem dX11_unit_91 : decode cX11_unit 91 = .ok (.invokevirtual 170, 3) := by decide +kernel
theorem dX11_unit_94 : decode cX11_unit 94 = .ok (.return_, 1) := by decide +kernel
def X11_unit : Nat → Mm → Rs
  | 0, _ => none
  | n + 1, , μ => bd (X11_look μ) fun v1 μ2 => if v1 = 33 then (bd (X11_opens μ2) fun v23 μ24 => if (μ24 70 4) = (-1) then (bd ((fun  μq => X11_unit n  μq) μ24) fun v27 μ28 => bd (X11_put 9 0 μ28) fun v30 μ31 => sF μ31 70 5 (iS (μ31 70 5) 1) fun μ33 => some (0, μ33)) else (some (0, μ24))) else (if v1 = 40 then (bd (X11_opens μ2) fun v13 μ14 => if (μ14 70 4) = (-1) then (bd (X11_condition_o (fun  μq => X11_unit n  μq) μ14) fun v17 μ18 => bd (X11_closes 41 μ18) fun v20 μ21 => some (0, μ21)) else (some (0, μ14))) else (bd (X11_sum RD μ2) fun v6 μ7 => if (μ7 70 4) = (-1) then (bd (X11_compare μ7) fun v10 μ11 => some (0, μ11)) else (some (0, μ7))))
set_option maxHeartbeats 4000000 in
set_option maxRecDepth 100000 in
theorem kX11_unit : ∀ (n d : Nat) (hd : 10 * n + 146 ≤ d) {μ : Mm} {r : Int} {μ' : Mm} (h : X11_unit n μ = some (r, μ')), CC d mX11_unit [vR 70] μ r μ' := by
  intro n
  induction n with
  | zero => intro d hd    μ r μ' h; rw [X11_unit] at h; cases h
  | succ n ih =>
    intro d hd    μ r μ' h
    have hb : 137 ≤ d := by omega
    obtain ⟨d0, hd0⟩ : ∃ z, z = 10 * n + 146 := ⟨_, rfl⟩
    have hd : d0 + 10 ≤ d := by omega
    have hrec : ∀  {μ1 : Mm} {r1 : Int} {μ2 : Mm}, ((fun  μq => X11_unit n  μq))  μ1 = some (r1, μ2) → CC d0 mX11_unit [vR 70] μ1 r1 μ2 := fun h1 => ih d0 (by omega) h1
    rw [X11_unit] at h
    refine V_enter (by decide) (Nat.le_of_ble_eq_true rfl) ?_
    show VV d mX11_unit 0 [some (vR 70), none] [] μ r μ'
    refine V_aload_n (q := 1) dX11_unit_0 rfl rfl rfl ?_
    obtain ⟨v1, μ2, hc3, h⟩ := bd_i h
    refine V_cV1 (q := 4) (v := vI v1) (kX11_look (d - 1) (by omega) hc3) (by omega) mv_X11_127 rfl rfl rfl rfl rfl rfl dX11_unit_1 rfl ?_
    refine V_istore_n (q := 5) dX11_unit_4 rfl (Nat.le_of_ble_eq_true rfl) trivial rfl ?_
    refine V_iload_n (q := 6) dX11_unit_5 rfl rfl rfl ?_
    refine V_bipush (q := 8) dX11_unit_6 rfl rfl rfl ?_
    refine V_icmpne (q := 47) (q2 := 11) dX11_unit_8 (by decide) rfl (fun hc4 => ?_) (fun hc4 => ?_)
    · have h := ifF hc4 h
      refine V_iload_n (q := 48) dX11_unit_47 rfl rfl rfl ?_
      refine V_bipush (q := 50) dX11_unit_48 rfl rfl rfl ?_
      refine V_icmpne (q := 78) (q2 := 53) dX11_unit_50 (by decide) rfl (fun hc5 => ?_) (fun hc5 => ?_)
      · have h := ifF hc5 h
        refine V_aload_n (q := 79) dX11_unit_78 rfl rfl rfl ?_
        obtain ⟨v6, μ7, hc8, h⟩ := bd_i h
        refine V_cV0 (q := 82) (kX11_sum RD (d - 1) (by unfold RD; omega) hc8) (by omega) mv_X11_148 rfl rfl rfl rfl rfl rfl dX11_unit_79 rfl ?_
        refine V_aload_n (q := 83) dX11_unit_82 rfl rfl rfl ?_
        refine V_getI (q := 86) fl_X11_115 rfl rfl rfl dX11_unit_83 rfl ?_
        refine V_iconst (q := 87) dX11_unit_86 rfl rfl ?_
        refine V_icmpne (q := 94) (q2 := 90) dX11_unit_87 (by decide) rfl (fun hc9 => ?_) (fun hc9 => ?_)
        · have h := ifF hc9 h
          exact V_vret rfl h dX11_unit_94
        · have h := ifT hc9 h
          refine V_aload_n (q := 91) dX11_unit_90 rfl rfl rfl ?_
          obtain ⟨v10, μ11, hc12, h⟩ := bd_i h
          refine V_cV0 (q := 94) (kX11_compare (d - 1) (by omega) hc12) (by omega) mv_X11_170 rfl rfl rfl rfl rfl rfl dX11_unit_91 rfl ?_
          exact V_vret rfl h dX11_unit_94
      · have h := ifT hc5 h
        refine V_aload_n (q := 54) dX11_unit_53 rfl rfl rfl ?_
        obtain ⟨v13, μ14, hc15, h⟩ := bd_i h
        refine V_cV0 (q := 57) (kX11_opens (d - 1) (by omega) hc15) (by omega) mv_X11_145 rfl rfl rfl rfl rfl rfl dX11_unit_54 rfl ?_
        refine V_aload_n (q := 58) dX11_unit_57 rfl rfl rfl ?_
        refine V_getI (q := 61) fl_X11_115 rfl rfl rfl dX11_unit_58 rfl ?_
        refine V_iconst (q := 62) dX11_unit_61 rfl rfl ?_
        refine V_icmpne (q := 94) (q2 := 65) dX11_unit_62 (by decide) rfl (fun hc16 => ?_) (fun hc16 => ?_)
        · have h := ifF hc16 h
          exact V_vret rfl h dX11_unit_94
        · have h := ifT hc16 h
          refine V_aload_n (q := 66) dX11_unit_65 rfl rfl rfl ?_
          obtain ⟨v17, μ18, hc19, h⟩ := bd_i h
          refine V_cV0 (q := 69) (kX11_condition (d - 1) (by omega) hrec (by omega) hc19) (by omega) mv_X11_167 rfl rfl rfl rfl rfl rfl dX11_unit_66 rfl ?_
          refine V_aload_n (q := 70) dX11_unit_69 rfl rfl rfl ?_
          refine V_bipush (q := 72) dX11_unit_70 rfl rfl rfl ?_
          obtain ⟨v20, μ21, hc22, h⟩ := bd_i h
          refine V_cV0 (q := 75) (kX11_closes (d - 1) (by omega) hc22) (by omega) mv_X11_151 rfl rfl rfl rfl rfl rfl dX11_unit_72 rfl ?_
          refine V_goto (q := 94) dX11_unit_75 (by decide) ?_
          exact V_vret rfl h dX11_unit_94
    · have h := ifT hc4 h
      refine V_aload_n (q := 12) dX11_unit_11 rfl rfl rfl ?_
      obtain ⟨v23, μ24, hc25, h⟩ := bd_i h
      refine V_cV0 (q := 15) (kX11_opens (d - 1) (by omega) hc25) (by omega) mv_X11_145 rfl rfl rfl rfl rfl rfl dX11_unit_12 rfl ?_
      refine V_aload_n (q := 16) dX11_unit_15 rfl rfl rfl ?_
      refine V_getI (q := 19) fl_X11_115 rfl rfl rfl dX11_unit_16 rfl ?_
      refine V_iconst (q := 20) dX11_unit_19 rfl rfl ?_
      refine V_icmpne (q := 94) (q2 := 23) dX11_unit_20 (by decide) rfl (fun hc26 => ?_) (fun hc26 => ?_)
      · have h := ifF hc26 h
        exact V_vret rfl h dX11_unit_94
      · have h := ifT hc26 h
        refine V_aload_n (q := 24) dX11_unit_23 rfl rfl rfl ?_
        obtain ⟨v27, μ28, hc29, h⟩ := bd_i h
        refine V_cV0 (q := 27) (hrec hc29) (by omega) mv_X11_164 rfl rfl rfl rfl rfl rfl dX11_unit_24 rfl ?_
        refine V_aload_n (q := 28) dX11_unit_27 rfl rfl rfl ?_
        refine V_bipush (q := 30) dX11_unit_28 rfl rfl rfl ?_
        refine V_iconst (q := 31) dX11_unit_30 rfl rfl ?_
        obtain ⟨v30, μ31, hc32, h⟩ := bd_i h
        refine V_cV0 (q := 34) (kX11_put (d - 1) (by omega) hc32) (by omega) mv_X11_137 rfl rfl rfl rfl rfl rfl dX11_unit_31 rfl ?_
        refine V_aload_n (q := 35) dX11_unit_34 rfl rfl rfl ?_
        refine V_dup (q := 36) dX11_unit_35 trivial rfl ?_
        refine V_getI (q := 39) fl_X11_121 rfl rfl rfl dX11_unit_36 rfl ?_
        refine V_iconst (q := 40) dX11_unit_39 rfl rfl ?_
        refine V_isub (q := 41) dX11_unit_40 rfl ?_
        have h := sF_i h
        refine V_putI (q := 44) fl_X11_121 rfl rfl rfl dX11_unit_41 rfl ?_
        refine V_goto (q := 94) dX11_unit_44 (by decide) ?_
        exact V_vret rfl h dX11_unit_94
theorem kX11_goOnAnd_c (d : Nat) (hd : 268 ≤ d) {μ : Mm} {r : Int} {μ' : Mm} (h : X11_goOnAnd_o (X11_unit RD) μ = some (r, μ')) : CC d mX11_goOnAnd [vR 70] μ r μ' := kX11_goOnAnd (d0 := 10 * RD + 146) d (by unfold RD; omega) (fun h1 => kX11_unit RD _ (Nat.le_refl _) h1) (by omega) h
theorem kX11_goOnOr_c (d : Nat) (hd : 269 ≤ d) {μ : Mm} {r : Int} {μ' : Mm} (h : X11_goOnOr_o (X11_unit RD) μ = some (r, μ')) : CC d mX11_goOnOr [vR 70] μ r μ' := kX11_goOnOr (d0 := 10 * RD + 146) d (by unfold RD; omega) (fun h1 => kX11_unit RD _ (Nat.le_refl _) h1) (by omega) h
theorem kX11_condition_c (d : Nat) (hd : 270 ≤ d) {μ : Mm} {r : Int} {μ' : Mm} (h : X11_condition_o (X11_unit RD) μ = some (r, μ')) : CC d mX11_condition [vR 70] μ r μ' := kX11_condition (d0 := 10 * RD + 146) d (by unfold RD; omega) (fun h1 => kX11_unit RD _ (Nat.le_refl _) h1) (by omega) h
abbrev mX11_clause : Mth := (yX11_clause, cX11_clause, 3, none)
theorem mi_X11_clause : Cond.instanceMethod yX11_clause ∈ tG ∧ Cond.selects yX11_clause.cls yX11_clause yX11_clause ∈ tG ∧ Cond.initialized yX11_clause.cls ∈ tG ∧ Cond.code yX11_clause cX11_clause 3 (none) ∈ tG ∧ (yX11_clause.cls ≠ "java/lang/invoke/MethodHandle" ∧ yX11_clause.cls ≠ "java/lang/invoke/VarHandle" ∧ (parseMethodDescriptor yX11_clause.desc).map (fun d => d.parameters.length) = some 0) ∧ 3 ≤ 60 := ⟨(tG_of (List.mem_of_getElem? (i := 1404) (by decide +kernel)) (by decide +kernel)), (tG_of (List.mem_of_getElem? (i := 57) (by decide +kernel)) (by decide +kernel)), (tG_of (List.mem_of_getElem? (i := 112) (by decide +kernel)) (by decide +kernel)), (tG_of (List.mem_of_getElem? (i := 1405) (by decide +kernel)) (by decide +kernel)), ⟨by decide, by decide, by decide +kernel⟩, by decide⟩
theorem mv_X11_182 : mV RX11 182 mX11_clause 0 := ⟨(tG_of (List.mem_of_getElem? (i := 1402) (by decide +kernel)) (by decide +kernel)), mi_X11_clause⟩
theorem dX11_clause_0 : decode cX11_clause 0 = .ok (.bipush 90, 2) := by decide +kernel
theorem dX11_clause_2 : decode cX11_clause 2 = .ok (.aload_n 0, 1) := by decide +kernel
theorem dX11_clause_3 : decode cX11_clause 3 = .ok (.getfield 118, 3) := by decide +kernel
theorem dX11_clause_6 : decode cX11_clause 6 = .ok (.imul, 1) := by decide +kernel
theorem dX11_clause_7 : decode cX11_clause 7 = .ok (.aload_n 0, 1) := by decide +kernel
theorem dX11_clause_8 : decode cX11_clause 8 = .ok (.getfield 22, 3) := by decide +kernel
theorem dX11_clause_11 : decode cX11_clause 11 = .ok (.aload_n 0, 1) := by decide +kernel
theorem dX11_clause_12 : decode cX11_clause 12 = .ok (.getfield 118, 3) := by decide +kernel
theorem dX11_clause_15 : decode cX11_clause 15 = .ok (.iaload, 1) := by decide +kernel
theorem dX11_clause_16 : decode cX11_clause 16 = .ok (.iadd, 1) := by decide +kernel
theorem dX11_clause_17 : decode cX11_clause 17 = .ok (.istore_n 1, 1) := by decide +kernel
theorem dX11_clause_18 : decode cX11_clause 18 = .ok (.aload_n 0, 1) := by decide +kernel
theorem dX11_clause_19 : decode cX11_clause 19 = .ok (.getfield 115, 3) := by decide +kernel
theorem dX11_clause_22 : decode cX11_clause 22 = .ok (.iconst (-1), 1) := by decide +kernel
theorem dX11_clause_23 : decode cX11_clause 23 = .ok (.if_icmp .ne 16, 3) := by decide +kernel
theorem dX11_clause_26 : decode cX11_clause 26 = .ok (.aload_n 0, 1) := by decide +kernel
theorem dX11_clause_27 : decode cX11_clause 27 = .ok (.invokevirtual 127, 3) := by decide +kernel
theorem dX11_clause_30 : decode cX11_clause 30 = .ok (.bipush 121, 2) := by decide +kernel
theorem dX11_clause_32 : decode cX11_clause 32 = .ok (.if_icmp .eq 7, 3) := by decide +kernel
theorem dX11_clause_35 : decode cX11_clause 35 = .ok (.aload_n 0, 1) := by decide +kernel
theorem dX11_clause_36 : decode cX11_clause 36 = .ok (.invokevirtual 124, 3) := by decide +kernel
theorem dX11_clause_39 : decode cX11_clause 39 = .ok (.aload_n 0, 1) := by decide +kernel
theorem dX11_clause_40 : decode cX11_clause 40 = .ok (.dup, 1) := by decide +kernel
theorem dX11_clause_41 : decode cX11_clause 41 = .ok (.getfield 108, 3) := by decide +kernel
theorem dX11_clause_44 : decode cX11_clause 44 = .ok (.iconst 1, 1) := by decide +kernel
theorem dX11_clause_45 : decode cX11_clause 45 = .ok (.iadd, 1) := by decide +kernel
theorem dX11_clause_46 : decode cX11_clause 46 = .ok (.putfield 108, 3) := by decide +kernel
theorem dX11_clause_49 : decode cX11_clause 49 = .ok (.aload_n 0, 1) := by decide +kernel
theorem dX11_clause_50 : decode cX11_clause 50 = .ok (.getfield 115, 3) := by decide +kernel
theorem dX11_clause_53 : decode cX11_clause 53 = .ok (.iconst (-1), 1) := by decide +kernel
theorem dX11_clause_54 : decode cX11_clause 54 = .ok (.if_icmp .ne 16, 3) := by decide +kernel
theorem dX11_clause_57 : decode cX11_clause 57 = .ok (.aload_n 0, 1) := by decide +kernel
theorem dX11_clause_58 : decode cX11_clause 58 = .ok (.invokevirtual 127, 3) := by decide +kernel
theorem dX11_clause_61 : decode cX11_clause 61 = .ok (.bipush 58, 2) := by decide +kernel
theorem dX11_clause_63 : decode cX11_clause 63 = .ok (.if_icmp .eq 7, 3) := by decide +kernel
theorem dX11_clause_66 : decode cX11_clause 66 = .ok (.aload_n 0, 1) := by decide +kernel
theorem dX11_clause_67 : decode cX11_clause 67 = .ok (.invokevirtual 124, 3) := by decide +kernel
theorem dX11_clause_70 : decode cX11_clause 70 = .ok (.aload_n 0, 1) := by decide +kernel
theorem dX11_clause_71 : decode cX11_clause 71 = .ok (.dup, 1) := by decide +kernel
theorem dX11_clause_72 : decode cX11_clause 72 = .ok (.getfield 108, 3) := by decide +kernel
theorem dX11_clause_75 : decode cX11_clause 75 = .ok (.iconst 1, 1) := by decide +kernel
theorem dX11_clause_76 : decode cX11_clause 76 = .ok (.iadd, 1) := by decide +kernel
theorem dX11_clause_77 : decode cX11_clause 77 = .ok (.putfield 108, 3) := by decide +kernel
theorem dX11_clause_80 : decode cX11_clause 80 = .ok (.aload_n 0, 1) := by decide +kernel
theorem dX11_clause_81 : decode cX11_clause 81 = .ok (.getfield 115, 3) := by decide +kernel
theorem dX11_clause_84 : decode cX11_clause 84 = .ok (.iconst (-1), 1) := by decide +kernel
theorem dX11_clause_85 : decode cX11_clause 85 = .ok (.if_icmp .eq 4, 3) := by decide +kernel
theorem dX11_clause_88 : decode cX11_clause 88 = .ok (.return_, 1) := by decide +kernel
theorem dX11_clause_89 : decode cX11_clause 89 = .ok (.aload_n 0, 1) := by decide +kernel
theorem dX11_clause_90 : decode cX11_clause 90 = .ok (.getfield 25, 3) := by decide +kernel
theorem dX11_clause_93 : decode cX11_clause 93 = .ok (.iload_n 1, 1) := by decide +kernel
theorem dX11_clause_94 : decode cX11_clause 94 = .ok (.aload_n 0, 1) := by decide +kernel
theorem dX11_clause_95 : decode cX11_clause 95 = .ok (.getfield 19, 3) := by decide +kernel
theorem dX11_clause_98 : decode cX11_clause 98 = .ok (.aload_n 0, 1) := by decide +kernel
theorem dX11_clause_99 : decode cX11_clause 99 = .ok (.getfield 118, 3) := by decide +kernel
theorem dX11_clause_102 : decode cX11_clause 102 = .ok (.iaload, 1) := by decide +kernel
theorem dX11_clause_103 : decode cX11_clause 103 = .ok (.iastore, 1) := by decide +kernel
theorem dX11_clause_104 : decode cX11_clause 104 = .ok (.aload_n 0, 1) := by decide +kernel
theorem dX11_clause_105 : decode cX11_clause 105 = .ok (.invokevirtual 127, 3) := by decide +kernel
theorem dX11_clause_108 : decode cX11_clause 108 = .ok (.bipush 33, 2) := by decide +kernel
theorem dX11_clause_110 : decode cX11_clause 110 = .ok (.if_icmp .eq 12, 3) := by decide +kernel
theorem dX11_clause_113 : decode cX11_clause 113 = .ok (.aload_n 0, 1) := by decide +kernel
theorem dX11_clause_114 : decode cX11_clause 114 = .ok (.invokevirtual 127, 3) := by decide +kernel
theorem dX11_clause_117 : decode cX11_clause 117 = .ok (.bipush 40, 2) := by decide +kernel
theorem dX11_clause_119 : decode cX11_clause 119 = .ok (.if_icmp .ne 7, 3) := by decide +kernel
theorem dX11_clause_122 : decode cX11_clause 122 = .ok (.iconst 1, 1) := by decide +kernel
theorem dX11_clause_123 : decode cX11_clause 123 = .ok (.goto 4, 3) := by decide +kernel
theorem dX11_clause_126 : decode cX11_clause 126 = .ok (.iconst 0, 1) := by decide +kernel
theorem dX11_clause_127 : decode cX11_clause 127 = .ok (.istore_n 2, 1) := by decide +kernel
theorem dX11_clause_128 : decode cX11_clause 128 = .ok (.iload_n 2, 1) := by decide +kernel
theorem dX11_clause_129 : decode cX11_clause 129 = .ok (.ifCond .eq 10, 3) := by decide +kernel
theorem dX11_clause_132 : decode cX11_clause 132 = .ok (.aload_n 0, 1) := by decide +kernel
theorem dX11_clause_133 : decode cX11_clause 133 = .ok (.invokevirtual 167, 3) := by decide +kernel
theorem dX11_clause_136 : decode cX11_clause 136 = .ok (.goto 47, 3) := by decide +kernel
theorem dX11_clause_139 : decode cX11_clause 139 = .ok (.aload_n 0, 1) := by decide +kernel
theorem dX11_clause_140 : decode cX11_clause 140 = .ok (.invokevirtual 148, 3) := by decide +kernel
theorem dX11_clause_143 : decode cX11_clause 143 = .ok (.aload_n 0, 1) := by decide +kernel
theorem dX11_clause_144 : decode cX11_clause 144 = .ok (.getfield 115, 3) := by decide +kernel
theorem dX11_clause_147 : decode cX11_clause 147 = .ok (.iconst (-1), 1) := by decide +kernel
theorem dX11_clause_148 : decode cX11_clause 148 = .ok (.if_icmp .ne 17, 3) := by decide +kernel
theorem dX11_clause_151 : decode cX11_clause 151 = .ok (.aload_n 0, 1) := by decide +kernel
theorem dX11_clause_152 : decode cX11_clause 152 = .ok (.invokevirtual 127, 3) := by decide +kernel
theorem dX11_clause_155 : decode cX11_clause 155 = .ok (.invokestatic 161, 3) := by decide +kernel
theorem dX11_clause_158 : decode cX11_clause 158 = .ok (.ifCond .eq 7, 3) := by decide +kernel
theorem dX11_clause_161 : decode cX11_clause 161 = .ok (.iconst 1, 1) := by decide +kernel
theorem dX11_clause_162 : decode cX11_clause 162 = .ok (.goto 4, 3) := by decide +kernel
theorem dX11_clause_165 : decode cX11_clause 165 = .ok (.iconst 0, 1) := by decide +kernel
theorem dX11_clause_166 : decode cX11_clause 166 = .ok (.istore_n 2, 1) := by decide +kernel
theorem dX11_clause_167 : decode cX11_clause 167 = .ok (.iload_n 2, 1) := by decide +kernel
theorem dX11_clause_168 : decode cX11_clause 168 = .ok (.ifCond .eq 15, 3) := by decide +kernel
theorem dX11_clause_171 : decode cX11_clause 171 = .ok (.aload_n 0, 1) := by decide +kernel
theorem dX11_clause_172 : decode cX11_clause 172 = .ok (.invokevirtual 170, 3) := by decide +kernel
theorem dX11_clause_175 : decode cX11_clause 175 = .ok (.aload_n 0, 1) := by decide +kernel
theorem dX11_clause_176 : decode cX11_clause 176 = .ok (.invokevirtual 173, 3) := by decide +kernel
theorem dX11_clause_179 : decode cX11_clause 179 = .ok (.aload_n 0, 1) := by decide +kernel
theorem dX11_clause_180 : decode cX11_clause 180 = .ok (.invokevirtual 176, 3) := by decide +kernel
theorem dX11_clause_183 : decode cX11_clause 183 = .ok (.aload_n 0, 1) := by decide +kernel
theorem dX11_clause_184 : decode cX11_clause 184 = .ok (.getfield 28, 3) := by decide +kernel
theorem dX11_clause_187 : decode cX11_clause 187 = .ok (.iload_n 1, 1) := by decide +kernel
theorem dX11_clause_188 : decode cX11_clause 188 = .ok (.aload_n 0, 1) := by decide +kernel
theorem dX11_clause_189 : decode cX11_clause 189 = .ok (.getfield 25, 3) := by decide +kernel
theorem dX11_clause_192 : decode cX11_clause 192 = .ok (.iload_n 1, 1) := by decide +kernel
theorem dX11_clause_193 : decode cX11_clause 193 = .ok (.iaload, 1) := by decide +kernel
theorem dX11_clause_194 : decode cX11_clause 194 = .ok (.iastore, 1) := by decide +kernel
theorem dX11_clause_195 : decode cX11_clause 195 = .ok (.iload_n 2, 1) := by decide +kernel
theorem dX11_clause_196 : decode cX11_clause 196 = .ok (.ifCond .eq 54, 3) := by decide +kernel
theorem dX11_clause_199 : decode cX11_clause 199 = .ok (.aload_n 0, 1) := by decide +kernel
theorem dX11_clause_200 : decode cX11_clause 200 = .ok (.getfield 115, 3) := by decide +kernel
theorem dX11_clause_203 : decode cX11_clause 203 = .ok (.iconst (-1), 1) := by decide +kernel
theorem dX11_clause_204 : decode cX11_clause 204 = .ok (.if_icmp .ne 46, 3) := by decide +kernel
theorem dX11_clause_207 : decode cX11_clause 207 = .ok (.aload_n 0, 1) := by decide +kernel
theorem dX11_clause_208 : decode cX11_clause 208 = .ok (.invokevirtual 127, 3) := by decide +kernel
theorem dX11_clause_211 : decode cX11_clause 211 = .ok (.bipush 63, 2) := by decide +kernel
theorem dX11_clause_213 : decode cX11_clause 213 = .ok (.if_icmp .eq 8, 3) := by decide +kernel
theorem dX11_clause_216 : decode cX11_clause 216 = .ok (.aload_n 0, 1) := by decide +kernel
theorem dX11_clause_217 : decode cX11_clause 217 = .ok (.invokevirtual 124, 3) := by decide +kernel
theorem dX11_clause_220 : decode cX11_clause 220 = .ok (.return_, 1) := by decide +kernel
theorem dX11_clause_221 : decode cX11_clause 221 = .ok (.aload_n 0, 1) := by decide +kernel
theorem dX11_clause_222 : decode cX11_clause 222 = .ok (.dup, 1) := by decide +kernel
theorem dX11_clause_223 : decode cX11_clause 223 = .ok (.getfield 108, 3) := by decide +kernel
theorem dX11_clause_226 : decode cX11_clause 226 = .ok (.iconst 1, 1) := by decide +kernel
theorem dX11_clause_227 : decode cX11_clause 227 = .ok (.iadd, 1) := by decide +kernel
theorem dX11_clause_228 : decode cX11_clause 228 = .ok (.putfield 108, 3) := by decide +kernel
theorem dX11_clause_231 : decode cX11_clause 231 = .ok (.aload_n 0, 1) := by decide +kernel
theorem dX11_clause_232 : decode cX11_clause 232 = .ok (.getfield 28, 3) := by decide +kernel
theorem dX11_clause_235 : decode cX11_clause 235 = .ok (.iload_n 1, 1) := by decide +kernel
theorem dX11_clause_236 : decode cX11_clause 236 = .ok (.aload_n 0, 1) := by decide +kernel
theorem dX11_clause_237 : decode cX11_clause 237 = .ok (.getfield 19, 3) := by decide +kernel
theorem dX11_clause_240 : decode cX11_clause 240 = .ok (.aload_n 0, 1) := by decide +kernel
theorem dX11_clause_241 : decode cX11_clause 241 = .ok (.getfield 118, 3) := by decide +kernel
theorem dX11_clause_244 : decode cX11_clause 244 = .ok (.iaload, 1) := by decide +kernel
theorem dX11_clause_245 : decode cX11_clause 245 = .ok (.iastore, 1) := by decide +kernel
theorem dX11_clause_246 : decode cX11_clause 246 = .ok (.aload_n 0, 1) := by decide +kernel
theorem dX11_clause_247 : decode cX11_clause 247 = .ok (.invokevirtual 148, 3) := by decide +kernel
theorem dX11_clause_250 : decode cX11_clause 250 = .ok (.aload_n 0, 1) := by decide +kernel
theorem dX11_clause_251 : decode cX11_clause 251 = .ok (.getfield 31, 3) := by decide +kernel
theorem dX11_clause_254 : decode cX11_clause 254 = .ok (.iload_n 1, 1) := by decide +kernel
theorem dX11_clause_255 : decode cX11_clause 255 = .ok (.aload_n 0, 1) := by decide +kernel
theorem dX11_clause_256 : decode cX11_clause 256 = .ok (.getfield 19, 3) := by decide +kernel
theorem dX11_clause_259 : decode cX11_clause 259 = .ok (.aload_n 0, 1) := by decide +kernel
theorem dX11_clause_260 : decode cX11_clause 260 = .ok (.getfield 118, 3) := by decide +kernel
theorem dX11_clause_263 : decode cX11_clause 263 = .ok (.iaload, 1) := by decide +kernel
theorem dX11_clause_264 : decode cX11_clause 264 = .ok (.iastore, 1) := by decide +kernel
theorem dX11_clause_265 : decode cX11_clause 265 = .ok (.aload_n 0, 1) := by decide +kernel
theorem dX11_clause_266 : decode cX11_clause 266 = .ok (.getfield 22, 3) := by decide +kernel
theorem dX11_clause_269 : decode cX11_clause 269 = .ok (.aload_n 0, 1) := by decide +kernel
theorem dX11_clause_270 : decode cX11_clause 270 = .ok (.getfield 118, 3) := by decide +kernel
theorem dX11_clause_273 : decode cX11_clause 273 = .ok (.dup2, 1) := by decide +kernel
theorem dX11_clause_274 : decode cX11_clause 274 = .ok (.iaload, 1) := by decide +kernel
theorem dX11_clause_275 : decode cX11_clause 275 = .ok (.iconst 1, 1) := by decide +kernel
theorem dX11_clause_276 : decode cX11_clause 276 = .ok (.iadd, 1) := by decide +kernel
theorem dX11_clause_277 : decode cX11_clause 277 = .ok (.iastore, 1) := by decide +kernel
theorem dX11_clause_278 : decode cX11_clause 278 = .ok (.return_, 1) := by decide +kernel
def X11_clause_J250 (l1 : Int) (μ : Mm) : Rs := ldA μ 74 (μ 70 14) fun v28 => stA μ 78 l1 v28 fun μ30 => ldA μ30 75 (μ30 70 14) fun v32 => stA μ30 75 (μ30 70 14) (iA v32 1) fun μ34 => some (0, μ34)
def X11_clause_J183 (l1 : Int) (l2 : Int) (μ : Mm) : Rs := ldA μ 76 l1 fun v23 => stA μ 77 l1 v23 fun μ25 => if l2 = 0 then (X11_clause_J250 l1 μ25) else (if (μ25 70 4) = (-1) then (bd (X11_look μ25) fun v37 μ38 => if v37 = 63 then (sF μ38 70 3 (iA (μ38 70 3) 1) fun μ41 => ldA μ41 74 (μ41 70 14) fun v42 => stA μ41 77 l1 v42 fun μ44 => bd (X11_sum RD μ44) fun v46 μ47 => X11_clause_J250 l1 μ47) else (bd (X11_bad μ38) fun v49 μ50 => some (0, μ50))) else (X11_clause_J250 l1 μ25))
def X11_clause_J166 (l1 : Int) (s0 : Int) (μ : Mm) : Rs := if s0 = 0 then (X11_clause_J183 l1 s0 μ) else (bd (X11_compare μ) fun v52 μ53 => bd (X11_goOnAnd_o (X11_unit RD) μ53) fun v55 μ56 => bd (X11_goOnOr_o (X11_unit RD) μ56) fun v58 μ59 => X11_clause_J183 l1 s0 μ59)
def X11_clause_J165 (l1 : Int) (μ : Mm) : Rs := X11_clause_J166 l1 0 μ
def X11_clause_J127 (l1 : Int) (s0 : Int) (μ : Mm) : Rs := if s0 = 0 then (bd (X11_sum RD μ) fun v18 μ19 => if (μ19 70 4) = (-1) then (bd (X11_look μ19) fun v61 μ62 => bd (X11_isSign v61 μ62) fun v64 μ65 => if v64 = 0 then (X11_clause_J165 l1 μ65) else (X11_clause_J166 l1 1 μ65)) else (X11_clause_J165 l1 μ19)) else (bd (X11_condition_o (X11_unit RD) μ) fun v68 μ69 => X11_clause_J183 l1 s0 μ69)
def X11_clause_J122 (l1 : Int) (μ : Mm) : Rs := X11_clause_J127 l1 1 μ
def X11_clause_J70 (l1 : Int) (μ : Mm) : Rs := sF μ 70 3 (iA (μ 70 3) 1) fun μ7 => if (μ7 70 4) = (-1) then (ldA μ7 74 (μ7 70 14) fun v9 => stA μ7 76 l1 v9 fun μ11 => bd (X11_look μ11) fun v13 μ14 => if v13 = 33 then (X11_clause_J122 l1 μ14) else (bd (X11_look μ14) fun v71 μ72 => if v71 = 40 then (X11_clause_J122 l1 μ72) else (X11_clause_J127 l1 0 μ72))) else (some (0, μ7))
def X11_clause_J39 (l1 : Int) (μ : Mm) : Rs := sF μ 70 3 (iA (μ 70 3) 1) fun μ5 => if (μ5 70 4) = (-1) then (bd (X11_look μ5) fun v75 μ76 => if v75 = 58 then (X11_clause_J70 l1 μ76) else (bd (X11_bad μ76) fun v79 μ80 => X11_clause_J70 l1 μ80)) else (X11_clause_J70 l1 μ5)
def X11_clause (μ : Mm) : Rs := ldA μ 75 (μ 70 14) fun v1 => lt_ (iA (iM 90 (μ 70 14)) v1) fun v3 => if (μ 70 4) = (-1) then (bd (X11_look μ) fun v82 μ83 => if v82 = 121 then (X11_clause_J39 v3 μ83) else (bd (X11_bad μ83) fun v86 μ87 => X11_clause_J39 v3 μ87)) else (X11_clause_J39 v3 μ)
set_option maxHeartbeats 4000000 in
set_option maxRecDepth 100000 in
theorem kX11_clause_J250 (d : Nat) (hd : 271 ≤ d) {l1 : Int} {μ : Mm} {r : Int} {μ' : Mm} (h : X11_clause_J250 l1 μ = some (r, μ')) : VV d mX11_clause 250 [some (vR 70), some (vI l1), none] [] μ r μ' := by
  unfold X11_clause_J250 at h
  refine V_aload_n (q := 251) dX11_clause_250 rfl rfl rfl ?_
  refine V_getO (q := 254) (t := 78) fl_X11_31 rfl rfl rfl rfl dX11_clause_251 rfl ?_
  refine V_iload_n (q := 255) dX11_clause_254 rfl rfl rfl ?_
  refine V_aload_n (q := 256) dX11_clause_255 rfl rfl rfl ?_
  refine V_getO (q := 259) (t := 74) fl_X11_19 rfl rfl rfl rfl dX11_clause_256 rfl ?_
  refine V_aload_n (q := 260) dX11_clause_259 rfl rfl rfl ?_
  refine V_getI (q := 263) fl_X11_118 rfl rfl rfl dX11_clause_260 rfl ?_
  obtain ⟨hi29, h⟩ := ldA_i h
  refine V_iaload (q := 264) rfl hi29 dX11_clause_263 rfl ?_
  obtain ⟨hi31, h⟩ := stA_i h
  refine V_iastore (q := 265) rfl hi31 dX11_clause_264 rfl ?_
  refine V_aload_n (q := 266) dX11_clause_265 rfl rfl rfl ?_
  refine V_getO (q := 269) (t := 75) fl_X11_22 rfl rfl rfl rfl dX11_clause_266 rfl ?_
  refine V_aload_n (q := 270) dX11_clause_269 rfl rfl rfl ?_
  refine V_getI (q := 273) fl_X11_118 rfl rfl rfl dX11_clause_270 rfl ?_
  refine V_dup2 (q := 274) dX11_clause_273 trivial trivial rfl ?_
  obtain ⟨hi33, h⟩ := ldA_i h
  refine V_iaload (q := 275) rfl hi33 dX11_clause_274 rfl ?_
  refine V_iconst (q := 276) dX11_clause_275 rfl rfl ?_
  refine V_iadd (q := 277) dX11_clause_276 rfl ?_
  obtain ⟨hi35, h⟩ := stA_i h
  refine V_iastore (q := 278) rfl hi35 dX11_clause_277 rfl ?_
  exact V_vret rfl h dX11_clause_278
set_option maxHeartbeats 4000000 in
set_option maxRecDepth 100000 in
theorem kX11_clause_J183 (d : Nat) (hd : 271 ≤ d) {l1 : Int} {l2 : Int} {μ : Mm} {r : Int} {μ' : Mm} (h : X11_clause_J183 l1 l2 μ = some (r, μ')) : VV d mX11_clause 183 [some (vR 70), some (vI l1), some (vI l2)] [] μ r μ' := by
  unfold X11_clause_J183 at h
  refine V_aload_n (q := 184) dX11_clause_183 rfl rfl rfl ?_
  refine V_getO (q := 187) (t := 77) fl_X11_28 rfl rfl rfl rfl dX11_clause_184 rfl ?_
  refine V_iload_n (q := 188) dX11_clause_187 rfl rfl rfl ?_
  refine V_aload_n (q := 189) dX11_clause_188 rfl rfl rfl ?_
  refine V_getO (q := 192) (t := 76) fl_X11_25 rfl rfl rfl rfl dX11_clause_189 rfl ?_
  refine V_iload_n (q := 193) dX11_clause_192 rfl rfl rfl ?_
  obtain ⟨hi24, h⟩ := ldA_i h
  refine V_iaload (q := 194) rfl hi24 dX11_clause_193 rfl ?_
  obtain ⟨hi26, h⟩ := stA_i h
  refine V_iastore (q := 195) rfl hi26 dX11_clause_194 rfl ?_
  refine V_iload_n (q := 196) dX11_clause_195 rfl rfl rfl ?_
  refine V_ifeq (q := 250) (q2 := 199) dX11_clause_196 (by decide) rfl (fun hc27 => ?_) (fun hc27 => ?_)
  · have h := ifT hc27 h
    exact V_weak (kX11_clause_J250 d hd h) (sb_s rfl (sb_s rfl (sb_n sb_0)))
  · have h := ifF hc27 h
    refine V_aload_n (q := 200) dX11_clause_199 rfl rfl rfl ?_
    refine V_getI (q := 203) fl_X11_115 rfl rfl rfl dX11_clause_200 rfl ?_
    refine V_iconst (q := 204) dX11_clause_203 rfl rfl ?_
    refine V_icmpne (q := 250) (q2 := 207) dX11_clause_204 (by decide) rfl (fun hc36 => ?_) (fun hc36 => ?_)
    · have h := ifF hc36 h
      exact V_weak (kX11_clause_J250 d hd h) (sb_s rfl (sb_s rfl (sb_n sb_0)))
    · have h := ifT hc36 h
      refine V_aload_n (q := 208) dX11_clause_207 rfl rfl rfl ?_
      obtain ⟨v37, μ38, hc39, h⟩ := bd_i h
      refine V_cV1 (q := 211) (v := vI v37) (kX11_look (d - 1) (by omega) hc39) (by omega) mv_X11_127 rfl rfl rfl rfl rfl rfl dX11_clause_208 rfl ?_
      refine V_bipush (q := 213) dX11_clause_211 rfl rfl rfl ?_
      refine V_icmpeq (q := 221) (q2 := 216) dX11_clause_213 (by decide) rfl (fun hc40 => ?_) (fun hc40 => ?_)
      · have h := ifT hc40 h
        refine V_aload_n (q := 222) dX11_clause_221 rfl rfl rfl ?_
        refine V_dup (q := 223) dX11_clause_222 trivial rfl ?_
        refine V_getI (q := 226) fl_X11_108 rfl rfl rfl dX11_clause_223 rfl ?_
        refine V_iconst (q := 227) dX11_clause_226 rfl rfl ?_
        refine V_iadd (q := 228) dX11_clause_227 rfl ?_
        have h := sF_i h
        refine V_putI (q := 231) fl_X11_108 rfl rfl rfl dX11_clause_228 rfl ?_
        refine V_aload_n (q := 232) dX11_clause_231 rfl rfl rfl ?_
        refine V_getO (q := 235) (t := 77) fl_X11_28 rfl rfl rfl rfl dX11_clause_232 rfl ?_
        refine V_iload_n (q := 236) dX11_clause_235 rfl rfl rfl ?_
        refine V_aload_n (q := 237) dX11_clause_236 rfl rfl rfl ?_
        refine V_getO (q := 240) (t := 74) fl_X11_19 rfl rfl rfl rfl dX11_clause_237 rfl ?_
        refine V_aload_n (q := 241) dX11_clause_240 rfl rfl rfl ?_
        refine V_getI (q := 244) fl_X11_118 rfl rfl rfl dX11_clause_241 rfl ?_
        obtain ⟨hi43, h⟩ := ldA_i h
        refine V_iaload (q := 245) rfl hi43 dX11_clause_244 rfl ?_
        obtain ⟨hi45, h⟩ := stA_i h
        refine V_iastore (q := 246) rfl hi45 dX11_clause_245 rfl ?_
        refine V_aload_n (q := 247) dX11_clause_246 rfl rfl rfl ?_
        obtain ⟨v46, μ47, hc48, h⟩ := bd_i h
        refine V_cV0 (q := 250) (kX11_sum RD (d - 1) (by unfold RD; omega) hc48) (by omega) mv_X11_148 rfl rfl rfl rfl rfl rfl dX11_clause_247 rfl ?_
        exact V_weak (kX11_clause_J250 d hd h) (sb_s rfl (sb_s rfl (sb_n sb_0)))
      · have h := ifF hc40 h
        refine V_aload_n (q := 217) dX11_clause_216 rfl rfl rfl ?_
        obtain ⟨v49, μ50, hc51, h⟩ := bd_i h
        refine V_cV0 (q := 220) (kX11_bad (d - 1) (by omega) hc51) (by omega) mv_X11_124 rfl rfl rfl rfl rfl rfl dX11_clause_217 rfl ?_
        exact V_vret rfl h dX11_clause_220
set_option maxHeartbeats 4000000 in
set_option maxRecDepth 100000 in
theorem kX11_clause_J166 (d : Nat) (hd : 271 ≤ d) {l1 : Int} {s0 : Int} {μ : Mm} {r : Int} {μ' : Mm} (h : X11_clause_J166 l1 s0 μ = some (r, μ')) : VV d mX11_clause 166 [some (vR 70), some (vI l1), none] [vI s0] μ r μ' := by
  unfold X11_clause_J166 at h
  refine V_istore_n (q := 167) dX11_clause_166 rfl (Nat.le_of_ble_eq_true rfl) trivial rfl ?_
  refine V_iload_n (q := 168) dX11_clause_167 rfl rfl rfl ?_
  refine V_ifeq (q := 183) (q2 := 171) dX11_clause_168 (by decide) rfl (fun hc22 => ?_) (fun hc22 => ?_)
  · have h := ifT hc22 h
    exact V_weak (kX11_clause_J183 d hd h) (sb_s rfl (sb_s rfl (sb_s rfl sb_0)))
  · have h := ifF hc22 h
    refine V_aload_n (q := 172) dX11_clause_171 rfl rfl rfl ?_
    obtain ⟨v52, μ53, hc54, h⟩ := bd_i h
    refine V_cV0 (q := 175) (kX11_compare (d - 1) (by omega) hc54) (by omega) mv_X11_170 rfl rfl rfl rfl rfl rfl dX11_clause_172 rfl ?_
    refine V_aload_n (q := 176) dX11_clause_175 rfl rfl rfl ?_
    obtain ⟨v55, μ56, hc57, h⟩ := bd_i h
    refine V_cV0 (q := 179) (kX11_goOnAnd_c (d - 1) (by omega) hc57) (by omega) mv_X11_173 rfl rfl rfl rfl rfl rfl dX11_clause_176 rfl ?_
    refine V_aload_n (q := 180) dX11_clause_179 rfl rfl rfl ?_
    obtain ⟨v58, μ59, hc60, h⟩ := bd_i h
    refine V_cV0 (q := 183) (kX11_goOnOr_c (d - 1) (by omega) hc60) (by omega) mv_X11_176 rfl rfl rfl rfl rfl rfl dX11_clause_180 rfl ?_
    exact V_weak (kX11_clause_J183 d hd h) (sb_s rfl (sb_s rfl (sb_s rfl sb_0)))
set_option maxHeartbeats 4000000 in
set_option maxRecDepth 100000 in
theorem kX11_clause_J165 (d : Nat) (hd : 271 ≤ d) {l1 : Int} {μ : Mm} {r : Int} {μ' : Mm} (h : X11_clause_J165 l1 μ = some (r, μ')) : VV d mX11_clause 165 [some (vR 70), some (vI l1), none] [] μ r μ' := by
  unfold X11_clause_J165 at h
  refine V_iconst (q := 166) dX11_clause_165 rfl rfl ?_
  exact V_weak (kX11_clause_J166 d hd h) (sb_s rfl (sb_s rfl (sb_n sb_0)))
set_option maxHeartbeats 4000000 in
set_option maxRecDepth 100000 in
theorem kX11_clause_J127 (d : Nat) (hd : 271 ≤ d) {l1 : Int} {s0 : Int} {μ : Mm} {r : Int} {μ' : Mm} (h : X11_clause_J127 l1 s0 μ = some (r, μ')) : VV d mX11_clause 127 [some (vR 70), some (vI l1), none] [vI s0] μ r μ' := by
  unfold X11_clause_J127 at h
  refine V_istore_n (q := 128) dX11_clause_127 rfl (Nat.le_of_ble_eq_true rfl) trivial rfl ?_
  refine V_iload_n (q := 129) dX11_clause_128 rfl rfl rfl ?_
  refine V_ifeq (q := 139) (q2 := 132) dX11_clause_129 (by decide) rfl (fun hc17 => ?_) (fun hc17 => ?_)
  · have h := ifT hc17 h
    refine V_aload_n (q := 140) dX11_clause_139 rfl rfl rfl ?_
    obtain ⟨v18, μ19, hc20, h⟩ := bd_i h
    refine V_cV0 (q := 143) (kX11_sum RD (d - 1) (by unfold RD; omega) hc20) (by omega) mv_X11_148 rfl rfl rfl rfl rfl rfl dX11_clause_140 rfl ?_
    refine V_aload_n (q := 144) dX11_clause_143 rfl rfl rfl ?_
    refine V_getI (q := 147) fl_X11_115 rfl rfl rfl dX11_clause_144 rfl ?_
    refine V_iconst (q := 148) dX11_clause_147 rfl rfl ?_
    refine V_icmpne (q := 165) (q2 := 151) dX11_clause_148 (by decide) rfl (fun hc21 => ?_) (fun hc21 => ?_)
    · have h := ifF hc21 h
      exact V_weak (kX11_clause_J165 d hd h) (sb_s rfl (sb_s rfl (sb_n sb_0)))
    · have h := ifT hc21 h
      refine V_aload_n (q := 152) dX11_clause_151 rfl rfl rfl ?_
      obtain ⟨v61, μ62, hc63, h⟩ := bd_i h
      refine V_cV1 (q := 155) (v := vI v61) (kX11_look (d - 1) (by omega) hc63) (by omega) mv_X11_127 rfl rfl rfl rfl rfl rfl dX11_clause_152 rfl ?_
      obtain ⟨v64, μ65, hc66, h⟩ := bd_i h
      refine V_cS1 (q := 158) (v := vI v64) (kX11_isSign (d - 1) (by omega) hc66) (by omega) mv_X11_161 rfl rfl rfl rfl dX11_clause_155 rfl ?_
      refine V_ifeq (q := 165) (q2 := 161) dX11_clause_158 (by decide) rfl (fun hc67 => ?_) (fun hc67 => ?_)
      · have h := ifT hc67 h
        exact V_weak (kX11_clause_J165 d hd h) (sb_s rfl (sb_s rfl (sb_n sb_0)))
      · have h := ifF hc67 h
        refine V_iconst (q := 162) dX11_clause_161 rfl rfl ?_
        refine V_goto (q := 166) dX11_clause_162 (by decide) ?_
        exact V_weak (kX11_clause_J166 d hd h) (sb_s rfl (sb_s rfl (sb_n sb_0)))
  · have h := ifF hc17 h
    refine V_aload_n (q := 133) dX11_clause_132 rfl rfl rfl ?_
    obtain ⟨v68, μ69, hc70, h⟩ := bd_i h
    refine V_cV0 (q := 136) (kX11_condition_c (d - 1) (by omega) hc70) (by omega) mv_X11_167 rfl rfl rfl rfl rfl rfl dX11_clause_133 rfl ?_
    refine V_goto (q := 183) dX11_clause_136 (by decide) ?_
    exact V_weak (kX11_clause_J183 d hd h) (sb_s rfl (sb_s rfl (sb_s rfl sb_0)))
set_option maxHeartbeats 4000000 in
set_option maxRecDepth 100000 in
theorem kX11_clause_J122 (d : Nat) (hd : 271 ≤ d) {l1 : Int} {μ : Mm} {r : Int} {μ' : Mm} (h : X11_clause_J122 l1 μ = some (r, μ')) : VV d mX11_clause 122 [some (vR 70), some (vI l1), none] [] μ r μ' := by
  unfold X11_clause_J122 at h
  refine V_iconst (q := 123) dX11_clause_122 rfl rfl ?_
  refine V_goto (q := 127) dX11_clause_123 (by decide) ?_
  exact V_weak (kX11_clause_J127 d hd h) (sb_s rfl (sb_s rfl (sb_n sb_0)))
set_option maxHeartbeats 4000000 in
set_option maxRecDepth 100000 in
theorem kX11_clause_J70 (d : Nat) (hd : 271 ≤ d) {l1 : Int} {μ : Mm} {r : Int} {μ' : Mm} (h : X11_clause_J70 l1 μ = some (r, μ')) : VV d mX11_clause 70 [some (vR 70), some (vI l1), none] [] μ r μ' := by
  unfold X11_clause_J70 at h
  refine V_aload_n (q := 71) dX11_clause_70 rfl rfl rfl ?_
  refine V_dup (q := 72) dX11_clause_71 trivial rfl ?_
  refine V_getI (q := 75) fl_X11_108 rfl rfl rfl dX11_clause_72 rfl ?_
  refine V_iconst (q := 76) dX11_clause_75 rfl rfl ?_
  refine V_iadd (q := 77) dX11_clause_76 rfl ?_
  have h := sF_i h
  refine V_putI (q := 80) fl_X11_108 rfl rfl rfl dX11_clause_77 rfl ?_
  refine V_aload_n (q := 81) dX11_clause_80 rfl rfl rfl ?_
  refine V_getI (q := 84) fl_X11_115 rfl rfl rfl dX11_clause_81 rfl ?_
  refine V_iconst (q := 85) dX11_clause_84 rfl rfl ?_
  refine V_icmpeq (q := 89) (q2 := 88) dX11_clause_85 (by decide) rfl (fun hc8 => ?_) (fun hc8 => ?_)
  · have h := ifT hc8 h
    refine V_aload_n (q := 90) dX11_clause_89 rfl rfl rfl ?_
    refine V_getO (q := 93) (t := 76) fl_X11_25 rfl rfl rfl rfl dX11_clause_90 rfl ?_
    refine V_iload_n (q := 94) dX11_clause_93 rfl rfl rfl ?_
    refine V_aload_n (q := 95) dX11_clause_94 rfl rfl rfl ?_
    refine V_getO (q := 98) (t := 74) fl_X11_19 rfl rfl rfl rfl dX11_clause_95 rfl ?_
    refine V_aload_n (q := 99) dX11_clause_98 rfl rfl rfl ?_
    refine V_getI (q := 102) fl_X11_118 rfl rfl rfl dX11_clause_99 rfl ?_
    obtain ⟨hi10, h⟩ := ldA_i h
    refine V_iaload (q := 103) rfl hi10 dX11_clause_102 rfl ?_
    obtain ⟨hi12, h⟩ := stA_i h
    refine V_iastore (q := 104) rfl hi12 dX11_clause_103 rfl ?_
    refine V_aload_n (q := 105) dX11_clause_104 rfl rfl rfl ?_
    obtain ⟨v13, μ14, hc15, h⟩ := bd_i h
    refine V_cV1 (q := 108) (v := vI v13) (kX11_look (d - 1) (by omega) hc15) (by omega) mv_X11_127 rfl rfl rfl rfl rfl rfl dX11_clause_105 rfl ?_
    refine V_bipush (q := 110) dX11_clause_108 rfl rfl rfl ?_
    refine V_icmpeq (q := 122) (q2 := 113) dX11_clause_110 (by decide) rfl (fun hc16 => ?_) (fun hc16 => ?_)
    · have h := ifT hc16 h
      exact V_weak (kX11_clause_J122 d hd h) (sb_s rfl (sb_s rfl (sb_n sb_0)))
    · have h := ifF hc16 h
      refine V_aload_n (q := 114) dX11_clause_113 rfl rfl rfl ?_
      obtain ⟨v71, μ72, hc73, h⟩ := bd_i h
      refine V_cV1 (q := 117) (v := vI v71) (kX11_look (d - 1) (by omega) hc73) (by omega) mv_X11_127 rfl rfl rfl rfl rfl rfl dX11_clause_114 rfl ?_
      refine V_bipush (q := 119) dX11_clause_117 rfl rfl rfl ?_
      refine V_icmpne (q := 126) (q2 := 122) dX11_clause_119 (by decide) rfl (fun hc74 => ?_) (fun hc74 => ?_)
      · have h := ifF hc74 h
        refine V_iconst (q := 127) dX11_clause_126 rfl rfl ?_
        exact V_weak (kX11_clause_J127 d hd h) (sb_s rfl (sb_s rfl (sb_n sb_0)))
      · have h := ifT hc74 h
        exact V_weak (kX11_clause_J122 d hd h) (sb_s rfl (sb_s rfl (sb_n sb_0)))
  · have h := ifF hc8 h
    exact V_vret rfl h dX11_clause_88
set_option maxHeartbeats 4000000 in
set_option maxRecDepth 100000 in
theorem kX11_clause_J39 (d : Nat) (hd : 271 ≤ d) {l1 : Int} {μ : Mm} {r : Int} {μ' : Mm} (h : X11_clause_J39 l1 μ = some (r, μ')) : VV d mX11_clause 39 [some (vR 70), some (vI l1), none] [] μ r μ' := by
  unfold X11_clause_J39 at h
  refine V_aload_n (q := 40) dX11_clause_39 rfl rfl rfl ?_
  refine V_dup (q := 41) dX11_clause_40 trivial rfl ?_
  refine V_getI (q := 44) fl_X11_108 rfl rfl rfl dX11_clause_41 rfl ?_
  refine V_iconst (q := 45) dX11_clause_44 rfl rfl ?_
  refine V_iadd (q := 46) dX11_clause_45 rfl ?_
  have h := sF_i h
  refine V_putI (q := 49) fl_X11_108 rfl rfl rfl dX11_clause_46 rfl ?_
  refine V_aload_n (q := 50) dX11_clause_49 rfl rfl rfl ?_
  refine V_getI (q := 53) fl_X11_115 rfl rfl rfl dX11_clause_50 rfl ?_
  refine V_iconst (q := 54) dX11_clause_53 rfl rfl ?_
  refine V_icmpne (q := 70) (q2 := 57) dX11_clause_54 (by decide) rfl (fun hc6 => ?_) (fun hc6 => ?_)
  · have h := ifF hc6 h
    exact V_weak (kX11_clause_J70 d hd h) (sb_s rfl (sb_s rfl (sb_n sb_0)))
  · have h := ifT hc6 h
    refine V_aload_n (q := 58) dX11_clause_57 rfl rfl rfl ?_
    obtain ⟨v75, μ76, hc77, h⟩ := bd_i h
    refine V_cV1 (q := 61) (v := vI v75) (kX11_look (d - 1) (by omega) hc77) (by omega) mv_X11_127 rfl rfl rfl rfl rfl rfl dX11_clause_58 rfl ?_
    refine V_bipush (q := 63) dX11_clause_61 rfl rfl rfl ?_
    refine V_icmpeq (q := 70) (q2 := 66) dX11_clause_63 (by decide) rfl (fun hc78 => ?_) (fun hc78 => ?_)
    · have h := ifT hc78 h
      exact V_weak (kX11_clause_J70 d hd h) (sb_s rfl (sb_s rfl (sb_n sb_0)))
    · have h := ifF hc78 h
      refine V_aload_n (q := 67) dX11_clause_66 rfl rfl rfl ?_
      obtain ⟨v79, μ80, hc81, h⟩ := bd_i h
      refine V_cV0 (q := 70) (kX11_bad (d - 1) (by omega) hc81) (by omega) mv_X11_124 rfl rfl rfl rfl rfl rfl dX11_clause_67 rfl ?_
      exact V_weak (kX11_clause_J70 d hd h) (sb_s rfl (sb_s rfl (sb_n sb_0)))
set_option maxHeartbeats 4000000 in
set_option maxRecDepth 100000 in
theorem kX11_clause (d : Nat) (hd : 271 ≤ d) {μ : Mm} {r : Int} {μ' : Mm} (h : X11_clause μ = some (r, μ')) : CC d mX11_clause [vR 70] μ r μ' := by
  unfold X11_clause at h
  refine V_enter (by decide) (Nat.le_of_ble_eq_true rfl) ?_
  show VV d mX11_clause 0 [some (vR 70), none, none] [] μ r μ'
  refine V_bipush (q := 2) dX11_clause_0 rfl rfl rfl ?_
  refine V_aload_n (q := 3) dX11_clause_2 rfl rfl rfl ?_
  refine V_getI (q := 6) fl_X11_118 rfl rfl rfl dX11_clause_3 rfl ?_
  refine V_imul (q := 7) dX11_clause_6 rfl ?_
  refine V_aload_n (q := 8) dX11_clause_7 rfl rfl rfl ?_
  refine V_getO (q := 11) (t := 75) fl_X11_22 rfl rfl rfl rfl dX11_clause_8 rfl ?_
  refine V_aload_n (q := 12) dX11_clause_11 rfl rfl rfl ?_
  refine V_getI (q := 15) fl_X11_118 rfl rfl rfl dX11_clause_12 rfl ?_
  obtain ⟨hi2, h⟩ := ldA_i h
  refine V_iaload (q := 16) rfl hi2 dX11_clause_15 rfl ?_
  refine V_iadd (q := 17) dX11_clause_16 rfl ?_
  have h := lt_i h
  refine V_istore_n (q := 18) dX11_clause_17 rfl (Nat.le_of_ble_eq_true rfl) trivial rfl ?_
  refine V_aload_n (q := 19) dX11_clause_18 rfl rfl rfl ?_
  refine V_getI (q := 22) fl_X11_115 rfl rfl rfl dX11_clause_19 rfl ?_
  refine V_iconst (q := 23) dX11_clause_22 rfl rfl ?_
  refine V_icmpne (q := 39) (q2 := 26) dX11_clause_23 (by decide) rfl (fun hc4 => ?_) (fun hc4 => ?_)
  · have h := ifF hc4 h
    exact V_weak (kX11_clause_J39 d hd h) (sb_s rfl (sb_s rfl (sb_n sb_0)))
  · have h := ifT hc4 h
    refine V_aload_n (q := 27) dX11_clause_26 rfl rfl rfl ?_
    obtain ⟨v82, μ83, hc84, h⟩ := bd_i h
    refine V_cV1 (q := 30) (v := vI v82) (kX11_look (d - 1) (by omega) hc84) (by omega) mv_X11_127 rfl rfl rfl rfl rfl rfl dX11_clause_27 rfl ?_
    refine V_bipush (q := 32) dX11_clause_30 rfl rfl rfl ?_
    refine V_icmpeq (q := 39) (q2 := 35) dX11_clause_32 (by decide) rfl (fun hc85 => ?_) (fun hc85 => ?_)
    · have h := ifT hc85 h
      exact V_weak (kX11_clause_J39 d hd h) (sb_s rfl (sb_s rfl (sb_n sb_0)))
    · have h := ifF hc85 h
      refine V_aload_n (q := 36) dX11_clause_35 rfl rfl rfl ?_
      obtain ⟨v86, μ87, hc88, h⟩ := bd_i h
      refine V_cV0 (q := 39) (kX11_bad (d - 1) (by omega) hc88) (by omega) mv_X11_124 rfl rfl rfl rfl rfl rfl dX11_clause_36 rfl ?_
      exact V_weak (kX11_clause_J39 d hd h) (sb_s rfl (sb_s rfl (sb_n sb_0)))
abbrev mX11_open : Mth := (yX11_open, cX11_open, 2, none)
theorem mi_X11_open : Cond.instanceMethod yX11_open ∈ tG ∧ Cond.selects yX11_open.cls yX11_open yX11_open ∈ tG ∧ Cond.initialized yX11_open.cls ∈ tG ∧ Cond.code yX11_open cX11_open 2 (none) ∈ tG ∧ (yX11_open.cls ≠ "java/lang/invoke/MethodHandle" ∧ yX11_open.cls ≠ "java/lang/invoke/VarHandle" ∧ (parseMethodDescriptor yX11_open.desc).map (fun d => d.parameters.length) = some 1) ∧ 2 ≤ 60 := ⟨(tG_of (List.mem_of_getElem? (i := 1400) (by decide +kernel)) (by decide +kernel)), (tG_of (List.mem_of_getElem? (i := 56) (by decide +kernel)) (by decide +kernel)), (tG_of (List.mem_of_getElem? (i := 112) (by decide +kernel)) (by decide +kernel)), (tG_of (List.mem_of_getElem? (i := 1401) (by decide +kernel)) (by decide +kernel)), ⟨by decide, by decide, by decide +kernel⟩, by decide⟩
theorem mv_X11_179 : mV RX11 179 mX11_open 1 := ⟨(tG_of (List.mem_of_getElem? (i := 1398) (by decide +kernel)) (by decide +kernel)), mi_X11_open⟩
theorem dX11_open_0 : decode cX11_open 0 = .ok (.aload_n 0, 1) := by decide +kernel
theorem dX11_open_1 : decode cX11_open 1 = .ok (.iload_n 1, 1) := by decide +kernel
theorem dX11_open_2 : decode cX11_open 2 = .ok (.putfield 118, 3) := by decide +kernel
theorem dX11_open_5 : decode cX11_open 5 = .ok (.aload_n 0, 1) := by decide +kernel
theorem dX11_open_6 : decode cX11_open 6 = .ok (.iconst 0, 1) := by decide +kernel
theorem dX11_open_7 : decode cX11_open 7 = .ok (.putfield 108, 3) := by decide +kernel
theorem dX11_open_10 : decode cX11_open 10 = .ok (.aload_n 0, 1) := by decide +kernel
theorem dX11_open_11 : decode cX11_open 11 = .ok (.iconst (-1), 1) := by decide +kernel
theorem dX11_open_12 : decode cX11_open 12 = .ok (.putfield 115, 3) := by decide +kernel
theorem dX11_open_15 : decode cX11_open 15 = .ok (.aload_n 0, 1) := by decide +kernel
theorem dX11_open_16 : decode cX11_open 16 = .ok (.iconst 0, 1) := by decide +kernel
theorem dX11_open_17 : decode cX11_open 17 = .ok (.putfield 121, 3) := by decide +kernel
theorem dX11_open_20 : decode cX11_open 20 = .ok (.aload_n 0, 1) := by decide +kernel
theorem dX11_open_21 : decode cX11_open 21 = .ok (.getfield 19, 3) := by decide +kernel
theorem dX11_open_24 : decode cX11_open 24 = .ok (.iload_n 1, 1) := by decide +kernel
theorem dX11_open_25 : decode cX11_open 25 = .ok (.iconst 0, 1) := by decide +kernel
theorem dX11_open_26 : decode cX11_open 26 = .ok (.iastore, 1) := by decide +kernel
theorem dX11_open_27 : decode cX11_open 27 = .ok (.aload_n 0, 1) := by decide +kernel
theorem dX11_open_28 : decode cX11_open 28 = .ok (.getfield 22, 3) := by decide +kernel
theorem dX11_open_31 : decode cX11_open 31 = .ok (.iload_n 1, 1) := by decide +kernel
theorem dX11_open_32 : decode cX11_open 32 = .ok (.iconst 0, 1) := by decide +kernel
theorem dX11_open_33 : decode cX11_open 33 = .ok (.iastore, 1) := by decide +kernel
theorem dX11_open_34 : decode cX11_open 34 = .ok (.return_, 1) := by decide +kernel
def X11_open (l1 : Int) (μ : Mm) : Rs := sF μ 70 14 l1 fun μ1 => sF μ1 70 3 0 fun μ2 => sF μ2 70 4 (-1) fun μ3 => sF μ3 70 5 0 fun μ4 => stA μ4 74 l1 0 fun μ5 => stA μ5 75 l1 0 fun μ7 => some (0, μ7)
set_option maxHeartbeats 4000000 in
set_option maxRecDepth 100000 in
theorem kX11_open (d : Nat) (hd : 1 ≤ d) {l1 : Int} {μ : Mm} {r : Int} {μ' : Mm} (h : X11_open l1 μ = some (r, μ')) : CC d mX11_open [vR 70, vI l1] μ r μ' := by
  unfold X11_open at h
  refine V_enter (by decide) (Nat.le_of_ble_eq_true rfl) ?_
  show VV d mX11_open 0 [some (vR 70), some (vI l1)] [] μ r μ'
  refine V_aload_n (q := 1) dX11_open_0 rfl rfl rfl ?_
  refine V_iload_n (q := 2) dX11_open_1 rfl rfl rfl ?_
  have h := sF_i h
  refine V_putI (q := 5) fl_X11_118 rfl rfl rfl dX11_open_2 rfl ?_
  refine V_aload_n (q := 6) dX11_open_5 rfl rfl rfl ?_
  refine V_iconst (q := 7) dX11_open_6 rfl rfl ?_
  have h := sF_i h
  refine V_putI (q := 10) fl_X11_108 rfl rfl rfl dX11_open_7 rfl ?_
  refine V_aload_n (q := 11) dX11_open_10 rfl rfl rfl ?_
  refine V_iconst (q := 12) dX11_open_11 rfl rfl ?_
  have h := sF_i h
  refine V_putI (q := 15) fl_X11_115 rfl rfl rfl dX11_open_12 rfl ?_
  refine V_aload_n (q := 16) dX11_open_15 rfl rfl rfl ?_
  refine V_iconst (q := 17) dX11_open_16 rfl rfl ?_
  have h := sF_i h
  refine V_putI (q := 20) fl_X11_121 rfl rfl rfl dX11_open_17 rfl ?_
  refine V_aload_n (q := 21) dX11_open_20 rfl rfl rfl ?_
  refine V_getO (q := 24) (t := 74) fl_X11_19 rfl rfl rfl rfl dX11_open_21 rfl ?_
  refine V_iload_n (q := 25) dX11_open_24 rfl rfl rfl ?_
  refine V_iconst (q := 26) dX11_open_25 rfl rfl ?_
  obtain ⟨hi6, h⟩ := stA_i h
  refine V_iastore (q := 27) rfl hi6 dX11_open_26 rfl ?_
  refine V_aload_n (q := 28) dX11_open_27 rfl rfl rfl ?_
  refine V_getO (q := 31) (t := 75) fl_X11_22 rfl rfl rfl rfl dX11_open_28 rfl ?_
  refine V_iload_n (q := 32) dX11_open_31 rfl rfl rfl ?_
  refine V_iconst (q := 33) dX11_open_32 rfl rfl ?_
  obtain ⟨hi8, h⟩ := stA_i h
  refine V_iastore (q := 34) rfl hi8 dX11_open_33 rfl ?_
  exact V_vret rfl h dX11_open_34
abbrev mX11_atEnd : Mth := (yX11_atEnd, cX11_atEnd, 1, some .int)
theorem mi_X11_atEnd : Cond.instanceMethod yX11_atEnd ∈ tG ∧ Cond.selects yX11_atEnd.cls yX11_atEnd yX11_atEnd ∈ tG ∧ Cond.initialized yX11_atEnd.cls ∈ tG ∧ Cond.code yX11_atEnd cX11_atEnd 1 (some .int) ∈ tG ∧ (yX11_atEnd.cls ≠ "java/lang/invoke/MethodHandle" ∧ yX11_atEnd.cls ≠ "java/lang/invoke/VarHandle" ∧ (parseMethodDescriptor yX11_atEnd.desc).map (fun d => d.parameters.length) = some 0) ∧ 1 ≤ 60 := ⟨(tG_of (List.mem_of_getElem? (i := 1392) (by decide +kernel)) (by decide +kernel)), (tG_of (List.mem_of_getElem? (i := 54) (by decide +kernel)) (by decide +kernel)), (tG_of (List.mem_of_getElem? (i := 112) (by decide +kernel)) (by decide +kernel)), (tG_of (List.mem_of_getElem? (i := 1393) (by decide +kernel)) (by decide +kernel)), ⟨by decide, by decide, by decide +kernel⟩, by decide⟩
theorem mv_X11_185 : mV RX11 185 mX11_atEnd 0 := ⟨(tG_of (List.mem_of_getElem? (i := 1390) (by decide +kernel)) (by decide +kernel)), mi_X11_atEnd⟩
theorem dX11_atEnd_0 : decode cX11_atEnd 0 = .ok (.aload_n 0, 1) := by decide +kernel
theorem dX11_atEnd_1 : decode cX11_atEnd 1 = .ok (.getfield 115, 3) := by decide +kernel
theorem dX11_atEnd_4 : decode cX11_atEnd 4 = .ok (.iconst (-1), 1) := by decide +kernel
theorem dX11_atEnd_5 : decode cX11_atEnd 5 = .ok (.if_icmp .ne 15, 3) := by decide +kernel
theorem dX11_atEnd_8 : decode cX11_atEnd 8 = .ok (.aload_n 0, 1) := by decide +kernel
theorem dX11_atEnd_9 : decode cX11_atEnd 9 = .ok (.invokevirtual 127, 3) := by decide +kernel
theorem dX11_atEnd_12 : decode cX11_atEnd 12 = .ok (.iconst (-1), 1) := by decide +kernel
theorem dX11_atEnd_13 : decode cX11_atEnd 13 = .ok (.if_icmp .eq 7, 3) := by decide +kernel
theorem dX11_atEnd_16 : decode cX11_atEnd 16 = .ok (.aload_n 0, 1) := by decide +kernel
theorem dX11_atEnd_17 : decode cX11_atEnd 17 = .ok (.invokevirtual 124, 3) := by decide +kernel
theorem dX11_atEnd_20 : decode cX11_atEnd 20 = .ok (.aload_n 0, 1) := by decide +kernel
theorem dX11_atEnd_21 : decode cX11_atEnd 21 = .ok (.getfield 115, 3) := by decide +kernel
theorem dX11_atEnd_24 : decode cX11_atEnd 24 = .ok (.ireturn, 1) := by decide +kernel
def X11_atEnd (μ : Mm) : Rs := if (μ 70 4) = (-1) then (bd (X11_look μ) fun v2 μ3 => if v2 = (-1) then (some (μ3 70 4, μ3)) else (bd (X11_bad μ3) fun v6 μ7 => some (μ7 70 4, μ7))) else (some (μ 70 4, μ))
set_option maxHeartbeats 4000000 in
set_option maxRecDepth 100000 in
theorem kX11_atEnd (d : Nat) (hd : 3 ≤ d) {μ : Mm} {r : Int} {μ' : Mm} (h : X11_atEnd μ = some (r, μ')) : CC d mX11_atEnd [vR 70] μ r μ' := by
  unfold X11_atEnd at h
  refine V_enter (by decide) (Nat.le_of_ble_eq_true rfl) ?_
  show VV d mX11_atEnd 0 [some (vR 70)] [] μ r μ'
  refine V_aload_n (q := 1) dX11_atEnd_0 rfl rfl rfl ?_
  refine V_getI (q := 4) fl_X11_115 rfl rfl rfl dX11_atEnd_1 rfl ?_
  refine V_iconst (q := 5) dX11_atEnd_4 rfl rfl ?_
  refine V_icmpne (q := 20) (q2 := 8) dX11_atEnd_5 (by decide) rfl (fun hc1 => ?_) (fun hc1 => ?_)
  · have h := ifF hc1 h
    refine V_aload_n (q := 21) dX11_atEnd_20 rfl rfl rfl ?_
    refine V_getI (q := 24) fl_X11_115 rfl rfl rfl dX11_atEnd_21 rfl ?_
    exact V_iret rfl h dX11_atEnd_24
  · have h := ifT hc1 h
    refine V_aload_n (q := 9) dX11_atEnd_8 rfl rfl rfl ?_
    obtain ⟨v2, μ3, hc4, h⟩ := bd_i h
    refine V_cV1 (q := 12) (v := vI v2) (kX11_look (d - 1) (by omega) hc4) (by omega) mv_X11_127 rfl rfl rfl rfl rfl rfl dX11_atEnd_9 rfl ?_
    refine V_iconst (q := 13) dX11_atEnd_12 rfl rfl ?_
    refine V_icmpeq (q := 20) (q2 := 16) dX11_atEnd_13 (by decide) rfl (fun hc5 => ?_) (fun hc5 => ?_)
    · have h := ifT hc5 h
      refine V_aload_n (q := 21) dX11_atEnd_20 rfl rfl rfl ?_
      refine V_getI (q := 24) fl_X11_115 rfl rfl rfl dX11_atEnd_21 rfl ?_
      exact V_iret rfl h dX11_atEnd_24
    · have h := ifF hc5 h
      refine V_aload_n (q := 17) dX11_atEnd_16 rfl rfl rfl ?_
      obtain ⟨v6, μ7, hc8, h⟩ := bd_i h
      refine V_cV0 (q := 20) (kX11_bad (d - 1) (by omega) hc8) (by omega) mv_X11_124 rfl rfl rfl rfl rfl rfl dX11_atEnd_17 rfl ?_
      refine V_aload_n (q := 21) dX11_atEnd_20 rfl rfl rfl ?_
      refine V_getI (q := 24) fl_X11_115 rfl rfl rfl dX11_atEnd_21 rfl ?_
      exact V_iret rfl h dX11_atEnd_24
abbrev mX11_readLaw : Mth := (yX11_readLaw, cX11_readLaw, 2, some .int)
theorem mi_X11_readLaw : Cond.instanceMethod yX11_readLaw ∈ tG ∧ Cond.selects yX11_readLaw.cls yX11_readLaw yX11_readLaw ∈ tG ∧ Cond.initialized yX11_readLaw.cls ∈ tG ∧ Cond.code yX11_readLaw cX11_readLaw 2 (some .int) ∈ tG ∧ (yX11_readLaw.cls ≠ "java/lang/invoke/MethodHandle" ∧ yX11_readLaw.cls ≠ "java/lang/invoke/VarHandle" ∧ (parseMethodDescriptor yX11_readLaw.desc).map (fun d => d.parameters.length) = some 1) ∧ 2 ≤ 60 := ⟨(tG_of (List.mem_of_getElem? (i := 1396) (by decide +kernel)) (by decide +kernel)), (tG_of (List.mem_of_getElem? (i := 55) (by decide +kernel)) (by decide +kernel)), (tG_of (List.mem_of_getElem? (i := 112) (by decide +kernel)) (by decide +kernel)), (tG_of (List.mem_of_getElem? (i := 1397) (by decide +kernel)) (by decide +kernel)), ⟨by decide, by decide, by decide +kernel⟩, by decide⟩
theorem mv_X11_249 : mV RX11 249 mX11_readLaw 1 := ⟨(tG_of (List.mem_of_getElem? (i := 1394) (by decide +kernel)) (by decide +kernel)), mi_X11_readLaw⟩
theorem dX11_readLaw_0 : decode cX11_readLaw 0 = .ok (.aload_n 0, 1) := by decide +kernel
theorem dX11_readLaw_1 : decode cX11_readLaw 1 = .ok (.iload_n 1, 1) := by decide +kernel
theorem dX11_readLaw_2 : decode cX11_readLaw 2 = .ok (.invokevirtual 179, 3) := by decide +kernel
theorem dX11_readLaw_5 : decode cX11_readLaw 5 = .ok (.aload_n 0, 1) := by decide +kernel
theorem dX11_readLaw_6 : decode cX11_readLaw 6 = .ok (.invokevirtual 182, 3) := by decide +kernel
theorem dX11_readLaw_9 : decode cX11_readLaw 9 = .ok (.aload_n 0, 1) := by decide +kernel
theorem dX11_readLaw_10 : decode cX11_readLaw 10 = .ok (.getfield 115, 3) := by decide +kernel
theorem dX11_readLaw_13 : decode cX11_readLaw 13 = .ok (.iconst (-1), 1) := by decide +kernel
theorem dX11_readLaw_14 : decode cX11_readLaw 14 = .ok (.if_icmp .ne 29, 3) := by decide +kernel
theorem dX11_readLaw_17 : decode cX11_readLaw 17 = .ok (.aload_n 0, 1) := by decide +kernel
theorem dX11_readLaw_18 : decode cX11_readLaw 18 = .ok (.invokevirtual 127, 3) := by decide +kernel
theorem dX11_readLaw_21 : decode cX11_readLaw 21 = .ok (.bipush 59, 2) := by decide +kernel
theorem dX11_readLaw_23 : decode cX11_readLaw 23 = .ok (.if_icmp .ne 20, 3) := by decide +kernel
theorem dX11_readLaw_26 : decode cX11_readLaw 26 = .ok (.aload_n 0, 1) := by decide +kernel
theorem dX11_readLaw_27 : decode cX11_readLaw 27 = .ok (.dup, 1) := by decide +kernel
theorem dX11_readLaw_28 : decode cX11_readLaw 28 = .ok (.getfield 108, 3) := by decide +kernel
theorem dX11_readLaw_31 : decode cX11_readLaw 31 = .ok (.iconst 1, 1) := by decide +kernel
theorem dX11_readLaw_32 : decode cX11_readLaw 32 = .ok (.iadd, 1) := by decide +kernel
theorem dX11_readLaw_33 : decode cX11_readLaw 33 = .ok (.putfield 108, 3) := by decide +kernel
theorem dX11_readLaw_36 : decode cX11_readLaw 36 = .ok (.aload_n 0, 1) := by decide +kernel
theorem dX11_readLaw_37 : decode cX11_readLaw 37 = .ok (.invokevirtual 182, 3) := by decide +kernel
theorem dX11_readLaw_40 : decode cX11_readLaw 40 = .ok (.goto (-31), 3) := by decide +kernel
theorem dX11_readLaw_43 : decode cX11_readLaw 43 = .ok (.aload_n 0, 1) := by decide +kernel
theorem dX11_readLaw_44 : decode cX11_readLaw 44 = .ok (.invokevirtual 185, 3) := by decide +kernel
theorem dX11_readLaw_47 : decode cX11_readLaw 47 = .ok (.ireturn, 1) := by decide +kernel
def X11_readLaw_L9 (k43 : Mm → Rs) : Nat → Mm → Rs
  | 0, _ => none
  | n + 1, μ => if (μ 70 4) = (-1) then (bd (X11_look μ) fun v8 μ9 => if v8 = 59 then (sF μ9 70 3 (iA (μ9 70 3) 1) fun μ12 => bd (X11_clause μ12) fun v13 μ14 => X11_readLaw_L9 k43 n μ14) else (k43 μ9)) else (k43 μ)
def X11_readLaw (l1 : Int) (μ : Mm) : Rs := bd (X11_open l1 μ) fun v1 μ2 => bd (X11_clause μ2) fun v4 μ5 => X11_readLaw_L9 (fun μ16 => bd (X11_atEnd μ16) fun v17 μ18 => some (v17, μ18)) FU μ5
set_option maxHeartbeats 4000000 in
set_option maxRecDepth 100000 in
theorem kX11_readLaw_L9 (d : Nat) (hd : 272 ≤ d) {k43 : Mm → Rs} {r : Int} {μ' : Mm} (hk_43 : ∀ (μ1 : Mm), k43 μ1 = some (r, μ') → VV d mX11_readLaw 43 [some (vR 70), none] [] μ1 r μ') : ∀ (n : Nat) {μ : Mm}, X11_readLaw_L9 k43 n μ = some (r, μ') → VV d mX11_readLaw 9 [some (vR 70), none] [] μ r μ' := by
  intro n
  induction n with
  | zero => intro μ h; rw [X11_readLaw_L9] at h; cases h
  | succ n ih =>
    intro μ h
    rw [X11_readLaw_L9] at h
    refine V_aload_n (q := 10) dX11_readLaw_9 rfl rfl rfl ?_
    refine V_getI (q := 13) fl_X11_115 rfl rfl rfl dX11_readLaw_10 rfl ?_
    refine V_iconst (q := 14) dX11_readLaw_13 rfl rfl ?_
    refine V_icmpne (q := 43) (q2 := 17) dX11_readLaw_14 (by decide) rfl (fun hc7 => ?_) (fun hc7 => ?_)
    · have h := ifF hc7 h
      exact V_weak (hk_43 _ h) (sb_s rfl (sb_n sb_0))
    · have h := ifT hc7 h
      refine V_aload_n (q := 18) dX11_readLaw_17 rfl rfl rfl ?_
      obtain ⟨v8, μ9, hc10, h⟩ := bd_i h
      refine V_cV1 (q := 21) (v := vI v8) (kX11_look (d - 1) (by omega) hc10) (by omega) mv_X11_127 rfl rfl rfl rfl rfl rfl dX11_readLaw_18 rfl ?_
      refine V_bipush (q := 23) dX11_readLaw_21 rfl rfl rfl ?_
      refine V_icmpne (q := 43) (q2 := 26) dX11_readLaw_23 (by decide) rfl (fun hc11 => ?_) (fun hc11 => ?_)
      · have h := ifF hc11 h
        exact V_weak (hk_43 _ h) (sb_s rfl (sb_n sb_0))
      · have h := ifT hc11 h
        refine V_aload_n (q := 27) dX11_readLaw_26 rfl rfl rfl ?_
        refine V_dup (q := 28) dX11_readLaw_27 trivial rfl ?_
        refine V_getI (q := 31) fl_X11_108 rfl rfl rfl dX11_readLaw_28 rfl ?_
        refine V_iconst (q := 32) dX11_readLaw_31 rfl rfl ?_
        refine V_iadd (q := 33) dX11_readLaw_32 rfl ?_
        have h := sF_i h
        refine V_putI (q := 36) fl_X11_108 rfl rfl rfl dX11_readLaw_33 rfl ?_
        refine V_aload_n (q := 37) dX11_readLaw_36 rfl rfl rfl ?_
        obtain ⟨v13, μ14, hc15, h⟩ := bd_i h
        refine V_cV0 (q := 40) (kX11_clause (d - 1) (by omega) hc15) (by omega) mv_X11_182 rfl rfl rfl rfl rfl rfl dX11_readLaw_37 rfl ?_
        refine V_goto (q := 9) dX11_readLaw_40 (by decide) ?_
        exact V_weak (ih h) (sb_s rfl (sb_n sb_0))
set_option maxHeartbeats 4000000 in
set_option maxRecDepth 100000 in
theorem kX11_readLaw (d : Nat) (hd : 272 ≤ d) {l1 : Int} {μ : Mm} {r : Int} {μ' : Mm} (h : X11_readLaw l1 μ = some (r, μ')) : CC d mX11_readLaw [vR 70, vI l1] μ r μ' := by
  unfold X11_readLaw at h
  refine V_enter (by decide) (Nat.le_of_ble_eq_true rfl) ?_
  show VV d mX11_readLaw 0 [some (vR 70), some (vI l1)] [] μ r μ'
  refine V_aload_n (q := 1) dX11_readLaw_0 rfl rfl rfl ?_
  refine V_iload_n (q := 2) dX11_readLaw_1 rfl rfl rfl ?_
  obtain ⟨v1, μ2, hc3, h⟩ := bd_i h
  refine V_cV0 (q := 5) (kX11_open (d - 1) (by omega) hc3) (by omega) mv_X11_179 rfl rfl rfl rfl rfl rfl dX11_readLaw_2 rfl ?_
  refine V_aload_n (q := 6) dX11_readLaw_5 rfl rfl rfl ?_
  obtain ⟨v4, μ5, hc6, h⟩ := bd_i h
  refine V_cV0 (q := 9) (kX11_clause (d - 1) (by omega) hc6) (by omega) mv_X11_182 rfl rfl rfl rfl rfl rfl dX11_readLaw_6 rfl ?_
  refine V_weak (kX11_readLaw_L9 d hd (fun μ16 h => ?_) FU h) (sb_s rfl (sb_n sb_0))
  refine V_aload_n (q := 44) dX11_readLaw_43 rfl rfl rfl ?_
  obtain ⟨v17, μ18, hc19, h⟩ := bd_i h
  refine V_cV1 (q := 47) (v := vI v17) (kX11_atEnd (d - 1) (by omega) hc19) (by omega) mv_X11_185 rfl rfl rfl rfl rfl rfl dX11_readLaw_44 rfl ?_
  exact V_iret rfl h dX11_readLaw_47
abbrev mX11_bounded : Mth := (yX11_bounded, cX11_bounded, 2, some .int)
theorem mi_X11_bounded : Cond.static yX11_bounded ∈ tG ∧ Cond.initialized yX11_bounded.cls ∈ tG ∧ Cond.code yX11_bounded cX11_bounded 2 (some .int) ∈ tG ∧ (yX11_bounded.cls ≠ "java/lang/invoke/MethodHandle" ∧ yX11_bounded.cls ≠ "java/lang/invoke/VarHandle" ∧ (parseMethodDescriptor yX11_bounded.desc).map (fun d => d.parameters.length) = some 1) ∧ 2 ≤ 60 := ⟨(tG_of (List.mem_of_getElem? (i := 1529) (by decide +kernel)) (by decide +kernel)), (tG_of (List.mem_of_getElem? (i := 112) (by decide +kernel)) (by decide +kernel)), (tG_of (List.mem_of_getElem? (i := 1530) (by decide +kernel)) (by decide +kernel)), ⟨by decide, by decide, by decide +kernel⟩, by decide⟩
theorem mv_X11_201 : mS RX11 201 mX11_bounded 1 := ⟨(tG_of (List.mem_of_getElem? (i := 1528) (by decide +kernel)) (by decide +kernel)), mi_X11_bounded.1, (tG_of (List.mem_of_getElem? (i := 112) (by decide +kernel)) (by decide +kernel)), mi_X11_bounded.2⟩
theorem dX11_bounded_0 : decode cX11_bounded 0 = .ok (.ldc2_w 188, 3) := by decide +kernel
theorem dX11_bounded_3 : decode cX11_bounded 3 = .ok (.ldc2_w 190, 3) := by decide +kernel
theorem dX11_bounded_6 : decode cX11_bounded 6 = .ok (.lload_n 0, 1) := by decide +kernel
theorem dX11_bounded_7 : decode cX11_bounded 7 = .ok (.invokestatic 192, 3) := by decide +kernel
theorem dX11_bounded_10 : decode cX11_bounded 10 = .ok (.invokestatic 198, 3) := by decide +kernel
theorem dX11_bounded_13 : decode cX11_bounded 13 = .ok (.l2i, 1) := by decide +kernel
theorem dX11_bounded_14 : decode cX11_bounded 14 = .ok (.ireturn, 1) := by decide +kernel
def X11_bounded (l0 : Int) (μ : Mm) : Rs := bd (J9_min_f86c9 1000000 l0 μ) fun v1 μ2 => bd (J9_max_f86c9 (-1000000) v1 μ2) fun v4 μ5 => some (wI v4, μ5)
set_option maxHeartbeats 4000000 in
set_option maxRecDepth 100000 in
theorem kX11_bounded (d : Nat) (hd : 2 ≤ d) {l0 : Int} {μ : Mm} {r : Int} {μ' : Mm} (h : X11_bounded l0 μ = some (r, μ')) : CC d mX11_bounded [vL l0] μ r μ' := by
  unfold X11_bounded at h
  refine V_enter (by decide) (Nat.le_of_ble_eq_true rfl) ?_
  show VV d mX11_bounded 0 [some (vL l0), none] [] μ r μ'
  refine V_ldc2 (q := 3) (n := -1000000) dX11_bounded_0 (by decide) kc_X11_188 rfl ?_
  refine V_ldc2 (q := 6) (n := 1000000) dX11_bounded_3 (by decide) kc_X11_190 rfl ?_
  refine V_lload_n (q := 7) dX11_bounded_6 rfl rfl rfl ?_
  obtain ⟨v1, μ2, hc3, h⟩ := bd_i h
  refine V_cS1 (q := 10) (v := vL v1) (kJ9_min_f86c9 (d - 1) (by omega) hc3) (by omega) mv_X11_192 rfl rfl rfl rfl dX11_bounded_7 rfl ?_
  obtain ⟨v4, μ5, hc6, h⟩ := bd_i h
  refine V_cS1 (q := 13) (v := vL v4) (kJ9_max_f86c9 (d - 1) (by omega) hc6) (by omega) mv_X11_198 rfl rfl rfl rfl dX11_bounded_10 rfl ?_
  refine V_l2i (q := 14) dX11_bounded_13 rfl ?_
  exact V_iret rfl h dX11_bounded_14
abbrev mX11_worked : Mth := (yX11_worked, cX11_worked, 5, some .int)
theorem mi_X11_worked : Cond.static yX11_worked ∈ tG ∧ Cond.initialized yX11_worked.cls ∈ tG ∧ Cond.code yX11_worked cX11_worked 5 (some .int) ∈ tG ∧ (yX11_worked.cls ≠ "java/lang/invoke/MethodHandle" ∧ yX11_worked.cls ≠ "java/lang/invoke/VarHandle" ∧ (parseMethodDescriptor yX11_worked.desc).map (fun d => d.parameters.length) = some 3) ∧ 5 ≤ 60 := ⟨(tG_of (List.mem_of_getElem? (i := 1526) (by decide +kernel)) (by decide +kernel)), (tG_of (List.mem_of_getElem? (i := 112) (by decide +kernel)) (by decide +kernel)), (tG_of (List.mem_of_getElem? (i := 1527) (by decide +kernel)) (by decide +kernel)), ⟨by decide, by decide, by decide +kernel⟩, by decide⟩
theorem mv_X11_205 : mS RX11 205 mX11_worked 3 := ⟨(tG_of (List.mem_of_getElem? (i := 1525) (by decide +kernel)) (by decide +kernel)), mi_X11_worked.1, (tG_of (List.mem_of_getElem? (i := 112) (by decide +kernel)) (by decide +kernel)), mi_X11_worked.2⟩
theorem dX11_worked_0 : decode cX11_worked 0 = .ok (.iload_n 0, 1) := by decide +kernel
theorem dX11_worked_1 : decode cX11_worked 1 = .ok (.tableswitch 143 2 10 #[51, 58, 65, 72, 89, 101, 113, 143, 125], 51) := by decide +kernel
theorem dX11_worked_52 : decode cX11_worked 52 = .ok (.lload_n 1, 1) := by decide +kernel
theorem dX11_worked_53 : decode cX11_worked 53 = .ok (.lload_n 3, 1) := by decide +kernel
theorem dX11_worked_54 : decode cX11_worked 54 = .ok (.ladd, 1) := by decide +kernel
theorem dX11_worked_55 : decode cX11_worked 55 = .ok (.invokestatic 201, 3) := by decide +kernel
theorem dX11_worked_58 : decode cX11_worked 58 = .ok (.ireturn, 1) := by decide +kernel
theorem dX11_worked_59 : decode cX11_worked 59 = .ok (.lload_n 1, 1) := by decide +kernel
theorem dX11_worked_60 : decode cX11_worked 60 = .ok (.lload_n 3, 1) := by decide +kernel
theorem dX11_worked_61 : decode cX11_worked 61 = .ok (.lsub, 1) := by decide +kernel
theorem dX11_worked_62 : decode cX11_worked 62 = .ok (.invokestatic 201, 3) := by decide +kernel
theorem dX11_worked_65 : decode cX11_worked 65 = .ok (.ireturn, 1) := by decide +kernel
theorem dX11_worked_66 : decode cX11_worked 66 = .ok (.lload_n 1, 1) := by decide +kernel
theorem dX11_worked_67 : decode cX11_worked 67 = .ok (.lload_n 3, 1) := by decide +kernel
theorem dX11_worked_68 : decode cX11_worked 68 = .ok (.lmul, 1) := by decide +kernel
theorem dX11_worked_69 : decode cX11_worked 69 = .ok (.invokestatic 201, 3) := by decide +kernel
theorem dX11_worked_72 : decode cX11_worked 72 = .ok (.ireturn, 1) := by decide +kernel
theorem dX11_worked_73 : decode cX11_worked 73 = .ok (.lload_n 3, 1) := by decide +kernel
theorem dX11_worked_74 : decode cX11_worked 74 = .ok (.lconst 0, 1) := by decide +kernel
theorem dX11_worked_75 : decode cX11_worked 75 = .ok (.lcmp, 1) := by decide +kernel
theorem dX11_worked_76 : decode cX11_worked 76 = .ok (.ifCond .ne 7, 3) := by decide +kernel
theorem dX11_worked_79 : decode cX11_worked 79 = .ok (.iconst 0, 1) := by decide +kernel
theorem dX11_worked_80 : decode cX11_worked 80 = .ok (.goto 9, 3) := by decide +kernel
theorem dX11_worked_83 : decode cX11_worked 83 = .ok (.lload_n 1, 1) := by decide +kernel
theorem dX11_worked_84 : decode cX11_worked 84 = .ok (.lload_n 3, 1) := by decide +kernel
theorem dX11_worked_85 : decode cX11_worked 85 = .ok (.ldiv, 1) := by decide +kernel
theorem dX11_worked_86 : decode cX11_worked 86 = .ok (.invokestatic 201, 3) := by decide +kernel
theorem dX11_worked_89 : decode cX11_worked 89 = .ok (.ireturn, 1) := by decide +kernel
theorem dX11_worked_90 : decode cX11_worked 90 = .ok (.lload_n 1, 1) := by decide +kernel
theorem dX11_worked_91 : decode cX11_worked 91 = .ok (.lload_n 3, 1) := by decide +kernel
theorem dX11_worked_92 : decode cX11_worked 92 = .ok (.lcmp, 1) := by decide +kernel
theorem dX11_worked_93 : decode cX11_worked 93 = .ok (.ifCond .ne 7, 3) := by decide +kernel
theorem dX11_worked_96 : decode cX11_worked 96 = .ok (.iconst 1, 1) := by decide +kernel
theorem dX11_worked_97 : decode cX11_worked 97 = .ok (.goto 4, 3) := by decide +kernel
theorem dX11_worked_100 : decode cX11_worked 100 = .ok (.iconst 0, 1) := by decide +kernel
theorem dX11_worked_101 : decode cX11_worked 101 = .ok (.ireturn, 1) := by decide +kernel
theorem dX11_worked_102 : decode cX11_worked 102 = .ok (.lload_n 1, 1) := by decide +kernel
theorem dX11_worked_103 : decode cX11_worked 103 = .ok (.lload_n 3, 1) := by decide +kernel
theorem dX11_worked_104 : decode cX11_worked 104 = .ok (.lcmp, 1) := by decide +kernel
theorem dX11_worked_105 : decode cX11_worked 105 = .ok (.ifCond .ge 7, 3) := by decide +kernel
theorem dX11_worked_108 : decode cX11_worked 108 = .ok (.iconst 1, 1) := by decide +kernel
theorem dX11_worked_109 : decode cX11_worked 109 = .ok (.goto 4, 3) := by decide +kernel
theorem dX11_worked_112 : decode cX11_worked 112 = .ok (.iconst 0, 1) := by decide +kernel
theorem dX11_worked_113 : decode cX11_worked 113 = .ok (.ireturn, 1) := by decide +kernel
theorem dX11_worked_114 : decode cX11_worked 114 = .ok (.lload_n 1, 1) := by decide +kernel
theorem dX11_worked_115 : decode cX11_worked 115 = .ok (.lload_n 3, 1) := by decide +kernel
theorem dX11_worked_116 : decode cX11_worked 116 = .ok (.lcmp, 1) := by decide +kernel
theorem dX11_worked_117 : decode cX11_worked 117 = .ok (.ifCond .le 7, 3) := by decide +kernel
theorem dX11_worked_120 : decode cX11_worked 120 = .ok (.iconst 1, 1) := by decide +kernel
theorem dX11_worked_121 : decode cX11_worked 121 = .ok (.goto 4, 3) := by decide +kernel
theorem dX11_worked_124 : decode cX11_worked 124 = .ok (.iconst 0, 1) := by decide +kernel
theorem dX11_worked_125 : decode cX11_worked 125 = .ok (.ireturn, 1) := by decide +kernel
theorem dX11_worked_126 : decode cX11_worked 126 = .ok (.lload_n 1, 1) := by decide +kernel
theorem dX11_worked_127 : decode cX11_worked 127 = .ok (.lconst 0, 1) := by decide +kernel
theorem dX11_worked_128 : decode cX11_worked 128 = .ok (.lcmp, 1) := by decide +kernel
theorem dX11_worked_129 : decode cX11_worked 129 = .ok (.ifCond .eq 13, 3) := by decide +kernel
theorem dX11_worked_132 : decode cX11_worked 132 = .ok (.lload_n 3, 1) := by decide +kernel
theorem dX11_worked_133 : decode cX11_worked 133 = .ok (.lconst 0, 1) := by decide +kernel
theorem dX11_worked_134 : decode cX11_worked 134 = .ok (.lcmp, 1) := by decide +kernel
theorem dX11_worked_135 : decode cX11_worked 135 = .ok (.ifCond .eq 7, 3) := by decide +kernel
theorem dX11_worked_138 : decode cX11_worked 138 = .ok (.iconst 1, 1) := by decide +kernel
theorem dX11_worked_139 : decode cX11_worked 139 = .ok (.goto 4, 3) := by decide +kernel
theorem dX11_worked_142 : decode cX11_worked 142 = .ok (.iconst 0, 1) := by decide +kernel
theorem dX11_worked_143 : decode cX11_worked 143 = .ok (.ireturn, 1) := by decide +kernel
theorem dX11_worked_144 : decode cX11_worked 144 = .ok (.lload_n 1, 1) := by decide +kernel
theorem dX11_worked_145 : decode cX11_worked 145 = .ok (.lconst 0, 1) := by decide +kernel
theorem dX11_worked_146 : decode cX11_worked 146 = .ok (.lcmp, 1) := by decide +kernel
theorem dX11_worked_147 : decode cX11_worked 147 = .ok (.ifCond .ne 9, 3) := by decide +kernel
theorem dX11_worked_150 : decode cX11_worked 150 = .ok (.lload_n 3, 1) := by decide +kernel
theorem dX11_worked_151 : decode cX11_worked 151 = .ok (.lconst 0, 1) := by decide +kernel
theorem dX11_worked_152 : decode cX11_worked 152 = .ok (.lcmp, 1) := by decide +kernel
theorem dX11_worked_153 : decode cX11_worked 153 = .ok (.ifCond .eq 7, 3) := by decide +kernel
theorem dX11_worked_156 : decode cX11_worked 156 = .ok (.iconst 1, 1) := by decide +kernel
theorem dX11_worked_157 : decode cX11_worked 157 = .ok (.goto 4, 3) := by decide +kernel
theorem dX11_worked_160 : decode cX11_worked 160 = .ok (.iconst 0, 1) := by decide +kernel
theorem dX11_worked_161 : decode cX11_worked 161 = .ok (.ireturn, 1) := by decide +kernel
def X11_worked (l0 : Int) (l1 : Int) (l3 : Int) (μ : Mm) : Rs := if l0 = 2 then (bd (X11_bounded (lA l1 l3) μ) fun v2 μ3 => some (v2, μ3)) else (if l0 = 3 then (bd (X11_bounded (lS l1 l3) μ) fun v6 μ7 => some (v6, μ7)) else (if l0 = 4 then (bd (X11_bounded (lM l1 l3) μ) fun v10 μ11 => some (v10, μ11)) else (if l0 = 5 then (if (lC l3 0) = 0 then (some (0, μ)) else (dZ l3 (bd (X11_bounded (lD l1 l3) μ) fun v16 μ17 => some (v16, μ17)))) else (if l0 = 6 then (if (lC l1 l3) = 0 then (some (1, μ)) else (some (0, μ))) else (if l0 = 7 then (if 0 ≤ (lC l1 l3) then (some (0, μ)) else (some (1, μ))) else (if l0 = 8 then (if (lC l1 l3) ≤ 0 then (some (0, μ)) else (some (1, μ))) else (if l0 = 9 then (if (lC l1 0) = 0 then (if (lC l3 0) = 0 then (some (0, μ)) else (some (1, μ))) else (some (1, μ))) else (if l0 = 10 then (if (lC l1 0) = 0 then (some (0, μ)) else (if (lC l3 0) = 0 then (some (0, μ)) else (some (1, μ)))) else (if (lC l1 0) = 0 then (if (lC l3 0) = 0 then (some (0, μ)) else (some (1, μ))) else (some (1, μ)))))))))))
set_option maxHeartbeats 4000000 in
set_option maxRecDepth 100000 in
theorem kX11_worked (d : Nat) (hd : 3 ≤ d) {l0 : Int} {l1 : Int} {l3 : Int} {μ : Mm} {r : Int} {μ' : Mm} (h : X11_worked l0 l1 l3 μ = some (r, μ')) : CC d mX11_worked [vI l0, vL l1, vL l3] μ r μ' := by
  unfold X11_worked at h
  refine V_enter (by decide) (Nat.le_of_ble_eq_true rfl) ?_
  show VV d mX11_worked 0 [some (vI l0), some (vL l1), none, some (vL l3), none] [] μ r μ'
  refine V_iload_n (q := 1) dX11_worked_0 rfl rfl rfl ?_
  refine V_ts1 (q := 52) 2 dX11_worked_1 rfl rfl rfl (by decide) (fun hc1 => ?_) (fun hc1 => ?_)
  · have h := ifT hc1 h
    refine V_lload_n (q := 53) dX11_worked_52 rfl rfl rfl ?_
    refine V_lload_n (q := 54) dX11_worked_53 rfl rfl rfl ?_
    refine V_ladd (q := 55) dX11_worked_54 rfl ?_
    obtain ⟨v2, μ3, hc4, h⟩ := bd_i h
    refine V_cS1 (q := 58) (v := vI v2) (kX11_bounded (d - 1) (by omega) hc4) (by omega) mv_X11_201 rfl rfl rfl rfl dX11_worked_55 rfl ?_
    exact V_iret rfl h dX11_worked_58
  · have h := ifF hc1 h
    refine V_ts1 (q := 59) 3 dX11_worked_1 rfl rfl rfl (by decide) (fun hc5 => ?_) (fun hc5 => ?_)
    · have h := ifT hc5 h
      refine V_lload_n (q := 60) dX11_worked_59 rfl rfl rfl ?_
      refine V_lload_n (q := 61) dX11_worked_60 rfl rfl rfl ?_
      refine V_lsub (q := 62) dX11_worked_61 rfl ?_
      obtain ⟨v6, μ7, hc8, h⟩ := bd_i h
      refine V_cS1 (q := 65) (v := vI v6) (kX11_bounded (d - 1) (by omega) hc8) (by omega) mv_X11_201 rfl rfl rfl rfl dX11_worked_62 rfl ?_
      exact V_iret rfl h dX11_worked_65
    · have h := ifF hc5 h
      refine V_ts1 (q := 66) 4 dX11_worked_1 rfl rfl rfl (by decide) (fun hc9 => ?_) (fun hc9 => ?_)
      · have h := ifT hc9 h
        refine V_lload_n (q := 67) dX11_worked_66 rfl rfl rfl ?_
        refine V_lload_n (q := 68) dX11_worked_67 rfl rfl rfl ?_
        refine V_lmul (q := 69) dX11_worked_68 rfl ?_
        obtain ⟨v10, μ11, hc12, h⟩ := bd_i h
        refine V_cS1 (q := 72) (v := vI v10) (kX11_bounded (d - 1) (by omega) hc12) (by omega) mv_X11_201 rfl rfl rfl rfl dX11_worked_69 rfl ?_
        exact V_iret rfl h dX11_worked_72
      · have h := ifF hc9 h
        refine V_ts1 (q := 73) 5 dX11_worked_1 rfl rfl rfl (by decide) (fun hc13 => ?_) (fun hc13 => ?_)
        · have h := ifT hc13 h
          refine V_lload_n (q := 74) dX11_worked_73 rfl rfl rfl ?_
          refine V_lconst (q := 75) dX11_worked_74 rfl ?_
          refine V_lcmp (q := 76) dX11_worked_75 rfl ?_
          refine V_ifne (q := 83) (q2 := 79) dX11_worked_76 (by decide) rfl (fun hc14 => ?_) (fun hc14 => ?_)
          · have h := ifF hc14 h
            refine V_lload_n (q := 84) dX11_worked_83 rfl rfl rfl ?_
            refine V_lload_n (q := 85) dX11_worked_84 rfl rfl rfl ?_
            obtain ⟨hz15, h⟩ := dZ_i h
            refine V_ldiv (q := 86) dX11_worked_85 hz15 rfl ?_
            obtain ⟨v16, μ17, hc18, h⟩ := bd_i h
            refine V_cS1 (q := 89) (v := vI v16) (kX11_bounded (d - 1) (by omega) hc18) (by omega) mv_X11_201 rfl rfl rfl rfl dX11_worked_86 rfl ?_
            exact V_iret rfl h dX11_worked_89
          · have h := ifT hc14 h
            refine V_iconst (q := 80) dX11_worked_79 rfl rfl ?_
            refine V_goto (q := 89) dX11_worked_80 (by decide) ?_
            exact V_iret rfl h dX11_worked_89
        · have h := ifF hc13 h
          refine V_ts1 (q := 90) 6 dX11_worked_1 rfl rfl rfl (by decide) (fun hc19 => ?_) (fun hc19 => ?_)
          · have h := ifT hc19 h
            refine V_lload_n (q := 91) dX11_worked_90 rfl rfl rfl ?_
            refine V_lload_n (q := 92) dX11_worked_91 rfl rfl rfl ?_
            refine V_lcmp (q := 93) dX11_worked_92 rfl ?_
            refine V_ifne (q := 100) (q2 := 96) dX11_worked_93 (by decide) rfl (fun hc20 => ?_) (fun hc20 => ?_)
            · have h := ifF hc20 h
              refine V_iconst (q := 101) dX11_worked_100 rfl rfl ?_
              exact V_iret rfl h dX11_worked_101
            · have h := ifT hc20 h
              refine V_iconst (q := 97) dX11_worked_96 rfl rfl ?_
              refine V_goto (q := 101) dX11_worked_97 (by decide) ?_
              exact V_iret rfl h dX11_worked_101
          · have h := ifF hc19 h
            refine V_ts1 (q := 102) 7 dX11_worked_1 rfl rfl rfl (by decide) (fun hc21 => ?_) (fun hc21 => ?_)
            · have h := ifT hc21 h
              refine V_lload_n (q := 103) dX11_worked_102 rfl rfl rfl ?_
              refine V_lload_n (q := 104) dX11_worked_103 rfl rfl rfl ?_
              refine V_lcmp (q := 105) dX11_worked_104 rfl ?_
              refine V_ifge (q := 112) (q2 := 108) dX11_worked_105 (by decide) rfl (fun hc22 => ?_) (fun hc22 => ?_)
              · have h := ifT hc22 h
                refine V_iconst (q := 113) dX11_worked_112 rfl rfl ?_
                exact V_iret rfl h dX11_worked_113
              · have h := ifF hc22 h
                refine V_iconst (q := 109) dX11_worked_108 rfl rfl ?_
                refine V_goto (q := 113) dX11_worked_109 (by decide) ?_
                exact V_iret rfl h dX11_worked_113
            · have h := ifF hc21 h
              refine V_ts1 (q := 114) 8 dX11_worked_1 rfl rfl rfl (by decide) (fun hc23 => ?_) (fun hc23 => ?_)
              · have h := ifT hc23 h
                refine V_lload_n (q := 115) dX11_worked_114 rfl rfl rfl ?_
                refine V_lload_n (q := 116) dX11_worked_115 rfl rfl rfl ?_
                refine V_lcmp (q := 117) dX11_worked_116 rfl ?_
                refine V_ifle (q := 124) (q2 := 120) dX11_worked_117 (by decide) rfl (fun hc24 => ?_) (fun hc24 => ?_)
                · have h := ifT hc24 h
                  refine V_iconst (q := 125) dX11_worked_124 rfl rfl ?_
                  exact V_iret rfl h dX11_worked_125
                · have h := ifF hc24 h
                  refine V_iconst (q := 121) dX11_worked_120 rfl rfl ?_
                  refine V_goto (q := 125) dX11_worked_121 (by decide) ?_
                  exact V_iret rfl h dX11_worked_125
              · have h := ifF hc23 h
                refine V_ts1 (q := 144) 9 dX11_worked_1 rfl rfl rfl (by decide) (fun hc25 => ?_) (fun hc25 => ?_)
                · have h := ifT hc25 h
                  refine V_lload_n (q := 145) dX11_worked_144 rfl rfl rfl ?_
                  refine V_lconst (q := 146) dX11_worked_145 rfl ?_
                  refine V_lcmp (q := 147) dX11_worked_146 rfl ?_
                  refine V_ifne (q := 156) (q2 := 150) dX11_worked_147 (by decide) rfl (fun hc26 => ?_) (fun hc26 => ?_)
                  · have h := ifF hc26 h
                    refine V_iconst (q := 157) dX11_worked_156 rfl rfl ?_
                    refine V_goto (q := 161) dX11_worked_157 (by decide) ?_
                    exact V_iret rfl h dX11_worked_161
                  · have h := ifT hc26 h
                    refine V_lload_n (q := 151) dX11_worked_150 rfl rfl rfl ?_
                    refine V_lconst (q := 152) dX11_worked_151 rfl ?_
                    refine V_lcmp (q := 153) dX11_worked_152 rfl ?_
                    refine V_ifeq (q := 160) (q2 := 156) dX11_worked_153 (by decide) rfl (fun hc27 => ?_) (fun hc27 => ?_)
                    · have h := ifT hc27 h
                      refine V_iconst (q := 161) dX11_worked_160 rfl rfl ?_
                      exact V_iret rfl h dX11_worked_161
                    · have h := ifF hc27 h
                      refine V_iconst (q := 157) dX11_worked_156 rfl rfl ?_
                      refine V_goto (q := 161) dX11_worked_157 (by decide) ?_
                      exact V_iret rfl h dX11_worked_161
                · have h := ifF hc25 h
                  refine V_ts1 (q := 126) 10 dX11_worked_1 rfl rfl rfl (by decide) (fun hc28 => ?_) (fun hc28 => ?_)
                  · have h := ifT hc28 h
                    refine V_lload_n (q := 127) dX11_worked_126 rfl rfl rfl ?_
                    refine V_lconst (q := 128) dX11_worked_127 rfl ?_
                    refine V_lcmp (q := 129) dX11_worked_128 rfl ?_
                    refine V_ifeq (q := 142) (q2 := 132) dX11_worked_129 (by decide) rfl (fun hc29 => ?_) (fun hc29 => ?_)
                    · have h := ifT hc29 h
                      refine V_iconst (q := 143) dX11_worked_142 rfl rfl ?_
                      exact V_iret rfl h dX11_worked_143
                    · have h := ifF hc29 h
                      refine V_lload_n (q := 133) dX11_worked_132 rfl rfl rfl ?_
                      refine V_lconst (q := 134) dX11_worked_133 rfl ?_
                      refine V_lcmp (q := 135) dX11_worked_134 rfl ?_
                      refine V_ifeq (q := 142) (q2 := 138) dX11_worked_135 (by decide) rfl (fun hc30 => ?_) (fun hc30 => ?_)
                      · have h := ifT hc30 h
                        refine V_iconst (q := 143) dX11_worked_142 rfl rfl ?_
                        exact V_iret rfl h dX11_worked_143
                      · have h := ifF hc30 h
                        refine V_iconst (q := 139) dX11_worked_138 rfl rfl ?_
                        refine V_goto (q := 143) dX11_worked_139 (by decide) ?_
                        exact V_iret rfl h dX11_worked_143
                  · have h := ifF hc28 h
                    refine V_tsOut (q := 144) dX11_worked_1 (by omega) (by decide) ?_
                    refine V_lload_n (q := 145) dX11_worked_144 rfl rfl rfl ?_
                    refine V_lconst (q := 146) dX11_worked_145 rfl ?_
                    refine V_lcmp (q := 147) dX11_worked_146 rfl ?_
                    refine V_ifne (q := 156) (q2 := 150) dX11_worked_147 (by decide) rfl (fun hc31 => ?_) (fun hc31 => ?_)
                    · have h := ifF hc31 h
                      refine V_iconst (q := 157) dX11_worked_156 rfl rfl ?_
                      refine V_goto (q := 161) dX11_worked_157 (by decide) ?_
                      exact V_iret rfl h dX11_worked_161
                    · have h := ifT hc31 h
                      refine V_lload_n (q := 151) dX11_worked_150 rfl rfl rfl ?_
                      refine V_lconst (q := 152) dX11_worked_151 rfl ?_
                      refine V_lcmp (q := 153) dX11_worked_152 rfl ?_
                      refine V_ifeq (q := 160) (q2 := 156) dX11_worked_153 (by decide) rfl (fun hc32 => ?_) (fun hc32 => ?_)
                      · have h := ifT hc32 h
                        refine V_iconst (q := 161) dX11_worked_160 rfl rfl ?_
                        exact V_iret rfl h dX11_worked_161
                      · have h := ifF hc32 h
                        refine V_iconst (q := 157) dX11_worked_156 rfl rfl ?_
                        refine V_goto (q := 161) dX11_worked_157 (by decide) ?_
                        exact V_iret rfl h dX11_worked_161
abbrev mX11_workOut : Mth := (yX11_workOut, cX11_workOut, 6, some .int)
theorem mi_X11_workOut : Cond.instanceMethod yX11_workOut ∈ tG ∧ Cond.selects yX11_workOut.cls yX11_workOut yX11_workOut ∈ tG ∧ Cond.initialized yX11_workOut.cls ∈ tG ∧ Cond.code yX11_workOut cX11_workOut 6 (some .int) ∈ tG ∧ (yX11_workOut.cls ≠ "java/lang/invoke/MethodHandle" ∧ yX11_workOut.cls ≠ "java/lang/invoke/VarHandle" ∧ (parseMethodDescriptor yX11_workOut.desc).map (fun d => d.parameters.length) = some 3) ∧ 6 ≤ 60 := ⟨(tG_of (List.mem_of_getElem? (i := 1523) (by decide +kernel)) (by decide +kernel)), (tG_of (List.mem_of_getElem? (i := 80) (by decide +kernel)) (by decide +kernel)), (tG_of (List.mem_of_getElem? (i := 112) (by decide +kernel)) (by decide +kernel)), (tG_of (List.mem_of_getElem? (i := 1524) (by decide +kernel)) (by decide +kernel)), ⟨by decide, by decide, by decide +kernel⟩, by decide⟩
theorem mv_X11_209 : mV RX11 209 mX11_workOut 3 := ⟨(tG_of (List.mem_of_getElem? (i := 1521) (by decide +kernel)) (by decide +kernel)), mi_X11_workOut⟩
theorem dX11_workOut_0 : decode cX11_workOut 0 = .ok (.iconst 0, 1) := by decide +kernel
theorem dX11_workOut_1 : decode cX11_workOut 1 = .ok (.istore 4, 2) := by decide +kernel
theorem dX11_workOut_3 : decode cX11_workOut 3 = .ok (.sipush 340, 3) := by decide +kernel
theorem dX11_workOut_6 : decode cX11_workOut 6 = .ok (.iload_n 1, 1) := by decide +kernel
theorem dX11_workOut_7 : decode cX11_workOut 7 = .ok (.imul, 1) := by decide +kernel
theorem dX11_workOut_8 : decode cX11_workOut 8 = .ok (.iload_n 2, 1) := by decide +kernel
theorem dX11_workOut_9 : decode cX11_workOut 9 = .ok (.iadd, 1) := by decide +kernel
theorem dX11_workOut_10 : decode cX11_workOut 10 = .ok (.istore 5, 2) := by decide +kernel
theorem dX11_workOut_12 : decode cX11_workOut 12 = .ok (.iload 5, 2) := by decide +kernel
theorem dX11_workOut_14 : decode cX11_workOut 14 = .ok (.sipush 340, 3) := by decide +kernel
theorem dX11_workOut_17 : decode cX11_workOut 17 = .ok (.iload_n 1, 1) := by decide +kernel
theorem dX11_workOut_18 : decode cX11_workOut 18 = .ok (.imul, 1) := by decide +kernel
theorem dX11_workOut_19 : decode cX11_workOut 19 = .ok (.iload_n 3, 1) := by decide +kernel
theorem dX11_workOut_20 : decode cX11_workOut 20 = .ok (.iadd, 1) := by decide +kernel
theorem dX11_workOut_21 : decode cX11_workOut 21 = .ok (.if_icmp .ge 150, 3) := by decide +kernel
theorem dX11_workOut_24 : decode cX11_workOut 24 = .ok (.aload_n 0, 1) := by decide +kernel
theorem dX11_workOut_25 : decode cX11_workOut 25 = .ok (.getfield 13, 3) := by decide +kernel
theorem dX11_workOut_28 : decode cX11_workOut 28 = .ok (.iload 5, 2) := by decide +kernel
theorem dX11_workOut_30 : decode cX11_workOut 30 = .ok (.iaload, 1) := by decide +kernel
theorem dX11_workOut_31 : decode cX11_workOut 31 = .ok (.ifCond .eq 14, 3) := by decide +kernel
theorem dX11_workOut_34 : decode cX11_workOut 34 = .ok (.aload_n 0, 1) := by decide +kernel
theorem dX11_workOut_35 : decode cX11_workOut 35 = .ok (.getfield 13, 3) := by decide +kernel
theorem dX11_workOut_38 : decode cX11_workOut 38 = .ok (.iload 5, 2) := by decide +kernel
theorem dX11_workOut_40 : decode cX11_workOut 40 = .ok (.iaload, 1) := by decide +kernel
theorem dX11_workOut_41 : decode cX11_workOut 41 = .ok (.iconst 1, 1) := by decide +kernel
theorem dX11_workOut_42 : decode cX11_workOut 42 = .ok (.if_icmp .ne 48, 3) := by decide +kernel
theorem dX11_workOut_45 : decode cX11_workOut 45 = .ok (.aload_n 0, 1) := by decide +kernel
theorem dX11_workOut_46 : decode cX11_workOut 46 = .ok (.getfield 37, 3) := by decide +kernel
theorem dX11_workOut_49 : decode cX11_workOut 49 = .ok (.iload 4, 2) := by decide +kernel
theorem dX11_workOut_51 : decode cX11_workOut 51 = .ok (.aload_n 0, 1) := by decide +kernel
theorem dX11_workOut_52 : decode cX11_workOut 52 = .ok (.getfield 13, 3) := by decide +kernel
theorem dX11_workOut_55 : decode cX11_workOut 55 = .ok (.iload 5, 2) := by decide +kernel
theorem dX11_workOut_57 : decode cX11_workOut 57 = .ok (.iaload, 1) := by decide +kernel
theorem dX11_workOut_58 : decode cX11_workOut 58 = .ok (.ifCond .ne 13, 3) := by decide +kernel
theorem dX11_workOut_61 : decode cX11_workOut 61 = .ok (.aload_n 0, 1) := by decide +kernel
theorem dX11_workOut_62 : decode cX11_workOut 62 = .ok (.getfield 16, 3) := by decide +kernel
theorem dX11_workOut_65 : decode cX11_workOut 65 = .ok (.iload 5, 2) := by decide +kernel
theorem dX11_workOut_67 : decode cX11_workOut 67 = .ok (.iaload, 1) := by decide +kernel
theorem dX11_workOut_68 : decode cX11_workOut 68 = .ok (.goto 15, 3) := by decide +kernel
theorem dX11_workOut_71 : decode cX11_workOut 71 = .ok (.aload_n 0, 1) := by decide +kernel
theorem dX11_workOut_72 : decode cX11_workOut 72 = .ok (.getfield 34, 3) := by decide +kernel
theorem dX11_workOut_75 : decode cX11_workOut 75 = .ok (.aload_n 0, 1) := by decide +kernel
theorem dX11_workOut_76 : decode cX11_workOut 76 = .ok (.getfield 16, 3) := by decide +kernel
theorem dX11_workOut_79 : decode cX11_workOut 79 = .ok (.iload 5, 2) := by decide +kernel
theorem dX11_workOut_81 : decode cX11_workOut 81 = .ok (.iaload, 1) := by decide +kernel
theorem dX11_workOut_82 : decode cX11_workOut 82 = .ok (.iaload, 1) := by decide +kernel
theorem dX11_workOut_83 : decode cX11_workOut 83 = .ok (.iastore, 1) := by decide +kernel
theorem dX11_workOut_84 : decode cX11_workOut 84 = .ok (.iinc 4 1, 3) := by decide +kernel
theorem dX11_workOut_87 : decode cX11_workOut 87 = .ok (.goto 78, 3) := by decide +kernel
theorem dX11_workOut_90 : decode cX11_workOut 90 = .ok (.aload_n 0, 1) := by decide +kernel
theorem dX11_workOut_91 : decode cX11_workOut 91 = .ok (.getfield 13, 3) := by decide +kernel
theorem dX11_workOut_94 : decode cX11_workOut 94 = .ok (.iload 5, 2) := by decide +kernel
theorem dX11_workOut_96 : decode cX11_workOut 96 = .ok (.iaload, 1) := by decide +kernel
theorem dX11_workOut_97 : decode cX11_workOut 97 = .ok (.bipush 9, 2) := by decide +kernel
theorem dX11_workOut_99 : decode cX11_workOut 99 = .ok (.if_icmp .ne 26, 3) := by decide +kernel
theorem dX11_workOut_102 : decode cX11_workOut 102 = .ok (.aload_n 0, 1) := by decide +kernel
theorem dX11_workOut_103 : decode cX11_workOut 103 = .ok (.getfield 37, 3) := by decide +kernel
theorem dX11_workOut_106 : decode cX11_workOut 106 = .ok (.iload 4, 2) := by decide +kernel
theorem dX11_workOut_108 : decode cX11_workOut 108 = .ok (.iconst 1, 1) := by decide +kernel
theorem dX11_workOut_109 : decode cX11_workOut 109 = .ok (.isub, 1) := by decide +kernel
theorem dX11_workOut_110 : decode cX11_workOut 110 = .ok (.iconst 1, 1) := by decide +kernel
theorem dX11_workOut_111 : decode cX11_workOut 111 = .ok (.aload_n 0, 1) := by decide +kernel
theorem dX11_workOut_112 : decode cX11_workOut 112 = .ok (.getfield 37, 3) := by decide +kernel
theorem dX11_workOut_115 : decode cX11_workOut 115 = .ok (.iload 4, 2) := by decide +kernel
theorem dX11_workOut_117 : decode cX11_workOut 117 = .ok (.iconst 1, 1) := by decide +kernel
theorem dX11_workOut_118 : decode cX11_workOut 118 = .ok (.isub, 1) := by decide +kernel
theorem dX11_workOut_119 : decode cX11_workOut 119 = .ok (.iaload, 1) := by decide +kernel
theorem dX11_workOut_120 : decode cX11_workOut 120 = .ok (.isub, 1) := by decide +kernel
theorem dX11_workOut_121 : decode cX11_workOut 121 = .ok (.iastore, 1) := by decide +kernel
theorem dX11_workOut_122 : decode cX11_workOut 122 = .ok (.goto 43, 3) := by decide +kernel
theorem dX11_workOut_125 : decode cX11_workOut 125 = .ok (.iinc 4 (-1), 3) := by decide +kernel
theorem dX11_workOut_128 : decode cX11_workOut 128 = .ok (.aload_n 0, 1) := by decide +kernel
theorem dX11_workOut_129 : decode cX11_workOut 129 = .ok (.getfield 37, 3) := by decide +kernel
theorem dX11_workOut_132 : decode cX11_workOut 132 = .ok (.iload 4, 2) := by decide +kernel
theorem dX11_workOut_134 : decode cX11_workOut 134 = .ok (.iconst 1, 1) := by decide +kernel
theorem dX11_workOut_135 : decode cX11_workOut 135 = .ok (.isub, 1) := by decide +kernel
theorem dX11_workOut_136 : decode cX11_workOut 136 = .ok (.aload_n 0, 1) := by decide +kernel
theorem dX11_workOut_137 : decode cX11_workOut 137 = .ok (.getfield 13, 3) := by decide +kernel
theorem dX11_workOut_140 : decode cX11_workOut 140 = .ok (.iload 5, 2) := by decide +kernel
theorem dX11_workOut_142 : decode cX11_workOut 142 = .ok (.iaload, 1) := by decide +kernel
theorem dX11_workOut_143 : decode cX11_workOut 143 = .ok (.aload_n 0, 1) := by decide +kernel
theorem dX11_workOut_144 : decode cX11_workOut 144 = .ok (.getfield 37, 3) := by decide +kernel
theorem dX11_workOut_147 : decode cX11_workOut 147 = .ok (.iload 4, 2) := by decide +kernel
theorem dX11_workOut_149 : decode cX11_workOut 149 = .ok (.iconst 1, 1) := by decide +kernel
theorem dX11_workOut_150 : decode cX11_workOut 150 = .ok (.isub, 1) := by decide +kernel
theorem dX11_workOut_151 : decode cX11_workOut 151 = .ok (.iaload, 1) := by decide +kernel
theorem dX11_workOut_152 : decode cX11_workOut 152 = .ok (.i2l, 1) := by decide +kernel
theorem dX11_workOut_153 : decode cX11_workOut 153 = .ok (.aload_n 0, 1) := by decide +kernel
theorem dX11_workOut_154 : decode cX11_workOut 154 = .ok (.getfield 37, 3) := by decide +kernel
theorem dX11_workOut_157 : decode cX11_workOut 157 = .ok (.iload 4, 2) := by decide +kernel
theorem dX11_workOut_159 : decode cX11_workOut 159 = .ok (.iaload, 1) := by decide +kernel
theorem dX11_workOut_160 : decode cX11_workOut 160 = .ok (.i2l, 1) := by decide +kernel
theorem dX11_workOut_161 : decode cX11_workOut 161 = .ok (.invokestatic 205, 3) := by decide +kernel
theorem dX11_workOut_164 : decode cX11_workOut 164 = .ok (.iastore, 1) := by decide +kernel
theorem dX11_workOut_165 : decode cX11_workOut 165 = .ok (.iinc 5 1, 3) := by decide +kernel
theorem dX11_workOut_168 : decode cX11_workOut 168 = .ok (.goto (-156), 3) := by decide +kernel
theorem dX11_workOut_171 : decode cX11_workOut 171 = .ok (.aload_n 0, 1) := by decide +kernel
theorem dX11_workOut_172 : decode cX11_workOut 172 = .ok (.getfield 37, 3) := by decide +kernel
theorem dX11_workOut_175 : decode cX11_workOut 175 = .ok (.iconst 0, 1) := by decide +kernel
theorem dX11_workOut_176 : decode cX11_workOut 176 = .ok (.iaload, 1) := by decide +kernel
theorem dX11_workOut_177 : decode cX11_workOut 177 = .ok (.ireturn, 1) := by decide +kernel
def X11_workOut_J45 (k12 : Int → Int → Mm → Rs) (l1 : Int) (l3 : Int) (l4 : Int) (l5 : Int) (μ : Mm) : Rs := ldA μ 72 l5 fun v8 => if v8 = 0 then (ldA μ 73 l5 fun v17 => stA μ 80 l4 v17 fun μ19 => k12 (iA l4 1) (iA l5 1) μ19) else (ldA μ 73 l5 fun v11 => ldA μ 79 v11 fun v13 => stA μ 80 l4 v13 fun μ15 => k12 (iA l4 1) (iA l5 1) μ15)
def X11_workOut_L12 (l1 : Int) (l3 : Int) : Nat → Int → Int → Mm → Rs
  | 0, _, _, _ => none
  | n + 1, l4, l5, μ => if (iA (iM 340 l1) l3) ≤ l5 then (ldA μ 80 0 fun v3 => some (v3, μ)) else (ldA μ 72 l5 fun v5 => if v5 = 0 then (X11_workOut_J45 (fun w4 w5 μq => X11_workOut_L12 l1 l3 n w4 w5 μq) l1 l3 l4 l5 μ) else (ldA μ 72 l5 fun v21 => if v21 = 1 then (X11_workOut_J45 (fun w4 w5 μq => X11_workOut_L12 l1 l3 n w4 w5 μq) l1 l3 l4 l5 μ) else (ldA μ 72 l5 fun v24 => if v24 = 9 then (ldA μ 80 (iS l4 1) fun v38 => stA μ 80 (iS l4 1) (iS 1 v38) fun μ40 => X11_workOut_L12 l1 l3 n l4 (iA l5 1) μ40) else (ldA μ 72 l5 fun v27 => ldA μ 80 (iS (iA l4 (-1)) 1) fun v29 => ldA μ 80 (iA l4 (-1)) fun v31 => bd (X11_worked v27 v29 v31 μ) fun v33 μ34 => stA μ34 80 (iS (iA l4 (-1)) 1) v33 fun μ36 => X11_workOut_L12 l1 l3 n (iA l4 (-1)) (iA l5 1) μ36))))
def X11_workOut (l1 : Int) (l2 : Int) (l3 : Int) (μ : Mm) : Rs := lt_ (iA (iM 340 l1) l2) fun v1 => X11_workOut_L12 l1 l3 FU 0 v1 μ
set_option maxHeartbeats 4000000 in
set_option maxRecDepth 100000 in
theorem kX11_workOut_J45 (d : Nat) (hd : 4 ≤ d) {k12 : Int → Int → Mm → Rs} {l1 : Int} {l3 : Int} {l4 : Int} {l5 : Int} {μ : Mm} {r : Int} {μ' : Mm} (hk_12 : ∀ (v4 v5 : Int) (μ1 : Mm), k12 v4 v5 μ1 = some (r, μ') → VV d mX11_workOut 12 [some (vR 70), some (vI l1), none, some (vI l3), some (vI v4), some (vI v5)] [] μ1 r μ') (h : X11_workOut_J45 k12 l1 l3 l4 l5 μ = some (r, μ')) : VV d mX11_workOut 45 [some (vR 70), some (vI l1), none, some (vI l3), some (vI l4), some (vI l5)] [] μ r μ' := by
  unfold X11_workOut_J45 at h
  refine V_aload_n (q := 46) dX11_workOut_45 rfl rfl rfl ?_
  refine V_getO (q := 49) (t := 80) fl_X11_37 rfl rfl rfl rfl dX11_workOut_46 rfl ?_
  refine V_iload (q := 51) dX11_workOut_49 rfl rfl ?_
  refine V_aload_n (q := 52) dX11_workOut_51 rfl rfl rfl ?_
  refine V_getO (q := 55) (t := 72) fl_X11_13 rfl rfl rfl rfl dX11_workOut_52 rfl ?_
  refine V_iload (q := 57) dX11_workOut_55 rfl rfl ?_
  obtain ⟨hi9, h⟩ := ldA_i h
  refine V_iaload (q := 58) rfl hi9 dX11_workOut_57 rfl ?_
  refine V_ifne (q := 71) (q2 := 61) dX11_workOut_58 (by decide) rfl (fun hc10 => ?_) (fun hc10 => ?_)
  · have h := ifF hc10 h
    refine V_aload_n (q := 72) dX11_workOut_71 rfl rfl rfl ?_
    refine V_getO (q := 75) (t := 79) fl_X11_34 rfl rfl rfl rfl dX11_workOut_72 rfl ?_
    refine V_aload_n (q := 76) dX11_workOut_75 rfl rfl rfl ?_
    refine V_getO (q := 79) (t := 73) fl_X11_16 rfl rfl rfl rfl dX11_workOut_76 rfl ?_
    refine V_iload (q := 81) dX11_workOut_79 rfl rfl ?_
    obtain ⟨hi12, h⟩ := ldA_i h
    refine V_iaload (q := 82) rfl hi12 dX11_workOut_81 rfl ?_
    obtain ⟨hi14, h⟩ := ldA_i h
    refine V_iaload (q := 83) rfl hi14 dX11_workOut_82 rfl ?_
    obtain ⟨hi16, h⟩ := stA_i h
    refine V_iastore (q := 84) rfl hi16 dX11_workOut_83 rfl ?_
    refine V_iinc (q := 87) dX11_workOut_84 rfl (Nat.le_of_ble_eq_true rfl) trivial rfl ?_
    refine V_goto (q := 165) dX11_workOut_87 (by decide) ?_
    refine V_iinc (q := 168) dX11_workOut_165 rfl (Nat.le_of_ble_eq_true rfl) trivial rfl ?_
    refine V_goto (q := 12) dX11_workOut_168 (by decide) ?_
    exact V_weak (hk_12 _ _ _ h) (sb_s rfl (sb_s rfl (sb_n (sb_s rfl (sb_s rfl (sb_s rfl sb_0))))))
  · have h := ifT hc10 h
    refine V_aload_n (q := 62) dX11_workOut_61 rfl rfl rfl ?_
    refine V_getO (q := 65) (t := 73) fl_X11_16 rfl rfl rfl rfl dX11_workOut_62 rfl ?_
    refine V_iload (q := 67) dX11_workOut_65 rfl rfl ?_
    obtain ⟨hi18, h⟩ := ldA_i h
    refine V_iaload (q := 68) rfl hi18 dX11_workOut_67 rfl ?_
    refine V_goto (q := 83) dX11_workOut_68 (by decide) ?_
    obtain ⟨hi20, h⟩ := stA_i h
    refine V_iastore (q := 84) rfl hi20 dX11_workOut_83 rfl ?_
    refine V_iinc (q := 87) dX11_workOut_84 rfl (Nat.le_of_ble_eq_true rfl) trivial rfl ?_
    refine V_goto (q := 165) dX11_workOut_87 (by decide) ?_
    refine V_iinc (q := 168) dX11_workOut_165 rfl (Nat.le_of_ble_eq_true rfl) trivial rfl ?_
    refine V_goto (q := 12) dX11_workOut_168 (by decide) ?_
    exact V_weak (hk_12 _ _ _ h) (sb_s rfl (sb_s rfl (sb_n (sb_s rfl (sb_s rfl (sb_s rfl sb_0))))))
set_option maxHeartbeats 4000000 in
set_option maxRecDepth 100000 in
theorem kX11_workOut_L12 (d : Nat) (hd : 4 ≤ d) {l1 : Int} {l3 : Int} {r : Int} {μ' : Mm} : ∀ (n : Nat) {l4 l5 : Int} {μ : Mm}, X11_workOut_L12 l1 l3 n l4 l5 μ = some (r, μ') → VV d mX11_workOut 12 [some (vR 70), some (vI l1), none, some (vI l3), some (vI l4), some (vI l5)] [] μ r μ' := by
  intro n
  induction n with
  | zero => intro l4 l5 μ h; rw [X11_workOut_L12] at h; cases h
  | succ n ih =>
    intro l4 l5 μ h
    rw [X11_workOut_L12] at h
    refine V_iload (q := 14) dX11_workOut_12 rfl rfl ?_
    refine V_sipush (q := 17) dX11_workOut_14 rfl rfl rfl ?_
    refine V_iload_n (q := 18) dX11_workOut_17 rfl rfl rfl ?_
    refine V_imul (q := 19) dX11_workOut_18 rfl ?_
    refine V_iload_n (q := 20) dX11_workOut_19 rfl rfl rfl ?_
    refine V_iadd (q := 21) dX11_workOut_20 rfl ?_
    refine V_icmpge (q := 171) (q2 := 24) dX11_workOut_21 (by decide) rfl (fun hc2 => ?_) (fun hc2 => ?_)
    · have h := ifT hc2 h
      refine V_aload_n (q := 172) dX11_workOut_171 rfl rfl rfl ?_
      refine V_getO (q := 175) (t := 80) fl_X11_37 rfl rfl rfl rfl dX11_workOut_172 rfl ?_
      refine V_iconst (q := 176) dX11_workOut_175 rfl rfl ?_
      obtain ⟨hi4, h⟩ := ldA_i h
      refine V_iaload (q := 177) rfl hi4 dX11_workOut_176 rfl ?_
      exact V_iret rfl h dX11_workOut_177
    · have h := ifF hc2 h
      refine V_aload_n (q := 25) dX11_workOut_24 rfl rfl rfl ?_
      refine V_getO (q := 28) (t := 72) fl_X11_13 rfl rfl rfl rfl dX11_workOut_25 rfl ?_
      refine V_iload (q := 30) dX11_workOut_28 rfl rfl ?_
      obtain ⟨hi6, h⟩ := ldA_i h
      refine V_iaload (q := 31) rfl hi6 dX11_workOut_30 rfl ?_
      refine V_ifeq (q := 45) (q2 := 34) dX11_workOut_31 (by decide) rfl (fun hc7 => ?_) (fun hc7 => ?_)
      · have h := ifT hc7 h
        exact V_weak (kX11_workOut_J45 d hd (fun _ _ _ h => ih h) h) (sb_s rfl (sb_s rfl (sb_n (sb_s rfl (sb_s rfl (sb_s rfl sb_0))))))
      · have h := ifF hc7 h
        refine V_aload_n (q := 35) dX11_workOut_34 rfl rfl rfl ?_
        refine V_getO (q := 38) (t := 72) fl_X11_13 rfl rfl rfl rfl dX11_workOut_35 rfl ?_
        refine V_iload (q := 40) dX11_workOut_38 rfl rfl ?_
        obtain ⟨hi22, h⟩ := ldA_i h
        refine V_iaload (q := 41) rfl hi22 dX11_workOut_40 rfl ?_
        refine V_iconst (q := 42) dX11_workOut_41 rfl rfl ?_
        refine V_icmpne (q := 90) (q2 := 45) dX11_workOut_42 (by decide) rfl (fun hc23 => ?_) (fun hc23 => ?_)
        · have h := ifF hc23 h
          refine V_aload_n (q := 91) dX11_workOut_90 rfl rfl rfl ?_
          refine V_getO (q := 94) (t := 72) fl_X11_13 rfl rfl rfl rfl dX11_workOut_91 rfl ?_
          refine V_iload (q := 96) dX11_workOut_94 rfl rfl ?_
          obtain ⟨hi25, h⟩ := ldA_i h
          refine V_iaload (q := 97) rfl hi25 dX11_workOut_96 rfl ?_
          refine V_bipush (q := 99) dX11_workOut_97 rfl rfl rfl ?_
          refine V_icmpne (q := 125) (q2 := 102) dX11_workOut_99 (by decide) rfl (fun hc26 => ?_) (fun hc26 => ?_)
          · have h := ifF hc26 h
            refine V_iinc (q := 128) dX11_workOut_125 rfl (Nat.le_of_ble_eq_true rfl) trivial rfl ?_
            refine V_aload_n (q := 129) dX11_workOut_128 rfl rfl rfl ?_
            refine V_getO (q := 132) (t := 80) fl_X11_37 rfl rfl rfl rfl dX11_workOut_129 rfl ?_
            refine V_iload (q := 134) dX11_workOut_132 rfl rfl ?_
            refine V_iconst (q := 135) dX11_workOut_134 rfl rfl ?_
            refine V_isub (q := 136) dX11_workOut_135 rfl ?_
            refine V_aload_n (q := 137) dX11_workOut_136 rfl rfl rfl ?_
            refine V_getO (q := 140) (t := 72) fl_X11_13 rfl rfl rfl rfl dX11_workOut_137 rfl ?_
            refine V_iload (q := 142) dX11_workOut_140 rfl rfl ?_
            obtain ⟨hi28, h⟩ := ldA_i h
            refine V_iaload (q := 143) rfl hi28 dX11_workOut_142 rfl ?_
            refine V_aload_n (q := 144) dX11_workOut_143 rfl rfl rfl ?_
            refine V_getO (q := 147) (t := 80) fl_X11_37 rfl rfl rfl rfl dX11_workOut_144 rfl ?_
            refine V_iload (q := 149) dX11_workOut_147 rfl rfl ?_
            refine V_iconst (q := 150) dX11_workOut_149 rfl rfl ?_
            refine V_isub (q := 151) dX11_workOut_150 rfl ?_
            obtain ⟨hi30, h⟩ := ldA_i h
            refine V_iaload (q := 152) rfl hi30 dX11_workOut_151 rfl ?_
            refine V_i2l (q := 153) dX11_workOut_152 rfl ?_
            refine V_aload_n (q := 154) dX11_workOut_153 rfl rfl rfl ?_
            refine V_getO (q := 157) (t := 80) fl_X11_37 rfl rfl rfl rfl dX11_workOut_154 rfl ?_
            refine V_iload (q := 159) dX11_workOut_157 rfl rfl ?_
            obtain ⟨hi32, h⟩ := ldA_i h
            refine V_iaload (q := 160) rfl hi32 dX11_workOut_159 rfl ?_
            refine V_i2l (q := 161) dX11_workOut_160 rfl ?_
            obtain ⟨v33, μ34, hc35, h⟩ := bd_i h
            refine V_cS1 (q := 164) (v := vI v33) (kX11_worked (d - 1) (by omega) hc35) (by omega) mv_X11_205 rfl rfl rfl rfl dX11_workOut_161 rfl ?_
            obtain ⟨hi37, h⟩ := stA_i h
            refine V_iastore (q := 165) rfl hi37 dX11_workOut_164 rfl ?_
            refine V_iinc (q := 168) dX11_workOut_165 rfl (Nat.le_of_ble_eq_true rfl) trivial rfl ?_
            refine V_goto (q := 12) dX11_workOut_168 (by decide) ?_
            exact V_weak (ih h) (sb_s rfl (sb_s rfl (sb_n (sb_s rfl (sb_s rfl (sb_s rfl sb_0))))))
          · have h := ifT hc26 h
            refine V_aload_n (q := 103) dX11_workOut_102 rfl rfl rfl ?_
            refine V_getO (q := 106) (t := 80) fl_X11_37 rfl rfl rfl rfl dX11_workOut_103 rfl ?_
            refine V_iload (q := 108) dX11_workOut_106 rfl rfl ?_
            refine V_iconst (q := 109) dX11_workOut_108 rfl rfl ?_
            refine V_isub (q := 110) dX11_workOut_109 rfl ?_
            refine V_iconst (q := 111) dX11_workOut_110 rfl rfl ?_
            refine V_aload_n (q := 112) dX11_workOut_111 rfl rfl rfl ?_
            refine V_getO (q := 115) (t := 80) fl_X11_37 rfl rfl rfl rfl dX11_workOut_112 rfl ?_
            refine V_iload (q := 117) dX11_workOut_115 rfl rfl ?_
            refine V_iconst (q := 118) dX11_workOut_117 rfl rfl ?_
            refine V_isub (q := 119) dX11_workOut_118 rfl ?_
            obtain ⟨hi39, h⟩ := ldA_i h
            refine V_iaload (q := 120) rfl hi39 dX11_workOut_119 rfl ?_
            refine V_isub (q := 121) dX11_workOut_120 rfl ?_
            obtain ⟨hi41, h⟩ := stA_i h
            refine V_iastore (q := 122) rfl hi41 dX11_workOut_121 rfl ?_
            refine V_goto (q := 165) dX11_workOut_122 (by decide) ?_
            refine V_iinc (q := 168) dX11_workOut_165 rfl (Nat.le_of_ble_eq_true rfl) trivial rfl ?_
            refine V_goto (q := 12) dX11_workOut_168 (by decide) ?_
            exact V_weak (ih h) (sb_s rfl (sb_s rfl (sb_n (sb_s rfl (sb_s rfl (sb_s rfl sb_0))))))
        · have h := ifT hc23 h
          exact V_weak (kX11_workOut_J45 d hd (fun _ _ _ h => ih h) h) (sb_s rfl (sb_s rfl (sb_n (sb_s rfl (sb_s rfl (sb_s rfl sb_0))))))
set_option maxHeartbeats 4000000 in
set_option maxRecDepth 100000 in
theorem kX11_workOut (d : Nat) (hd : 4 ≤ d) {l1 : Int} {l2 : Int} {l3 : Int} {μ : Mm} {r : Int} {μ' : Mm} (h : X11_workOut l1 l2 l3 μ = some (r, μ')) : CC d mX11_workOut [vR 70, vI l1, vI l2, vI l3] μ r μ' := by
  unfold X11_workOut at h
  refine V_enter (by decide) (Nat.le_of_ble_eq_true rfl) ?_
  show VV d mX11_workOut 0 [some (vR 70), some (vI l1), some (vI l2), some (vI l3), none, none] [] μ r μ'
  refine V_iconst (q := 1) dX11_workOut_0 rfl rfl ?_
  refine V_istore (q := 3) dX11_workOut_1 (Nat.le_of_ble_eq_true rfl) trivial rfl ?_
  refine V_sipush (q := 6) dX11_workOut_3 rfl rfl rfl ?_
  refine V_iload_n (q := 7) dX11_workOut_6 rfl rfl rfl ?_
  refine V_imul (q := 8) dX11_workOut_7 rfl ?_
  refine V_iload_n (q := 9) dX11_workOut_8 rfl rfl rfl ?_
  refine V_iadd (q := 10) dX11_workOut_9 rfl ?_
  have h := lt_i h
  refine V_istore (q := 12) dX11_workOut_10 (Nat.le_of_ble_eq_true rfl) trivial rfl ?_
  exact V_weak (kX11_workOut_L12 d hd  FU h) (sb_s rfl (sb_s rfl (sb_n (sb_s rfl (sb_s rfl (sb_s rfl sb_0))))))
abbrev mX11_worthOf : Mth := (yX11_worthOf, cX11_worthOf, 3, some .int)
theorem mi_X11_worthOf : Cond.instanceMethod yX11_worthOf ∈ tG ∧ Cond.selects yX11_worthOf.cls yX11_worthOf yX11_worthOf ∈ tG ∧ Cond.initialized yX11_worthOf.cls ∈ tG ∧ Cond.code yX11_worthOf cX11_worthOf 3 (some .int) ∈ tG ∧ (yX11_worthOf.cls ≠ "java/lang/invoke/MethodHandle" ∧ yX11_worthOf.cls ≠ "java/lang/invoke/VarHandle" ∧ (parseMethodDescriptor yX11_worthOf.desc).map (fun d => d.parameters.length) = some 1) ∧ 3 ≤ 60 := ⟨(tG_of (List.mem_of_getElem? (i := 1519) (by decide +kernel)) (by decide +kernel)), (tG_of (List.mem_of_getElem? (i := 79) (by decide +kernel)) (by decide +kernel)), (tG_of (List.mem_of_getElem? (i := 112) (by decide +kernel)) (by decide +kernel)), (tG_of (List.mem_of_getElem? (i := 1520) (by decide +kernel)) (by decide +kernel)), ⟨by decide, by decide, by decide +kernel⟩, by decide⟩
theorem mv_X11_296 : mV RX11 296 mX11_worthOf 1 := ⟨(tG_of (List.mem_of_getElem? (i := 1517) (by decide +kernel)) (by decide +kernel)), mi_X11_worthOf⟩
theorem dX11_worthOf_0 : decode cX11_worthOf 0 = .ok (.bipush 90, 2) := by decide +kernel
theorem dX11_worthOf_2 : decode cX11_worthOf 2 = .ok (.iload_n 1, 1) := by decide +kernel
theorem dX11_worthOf_3 : decode cX11_worthOf 3 = .ok (.imul, 1) := by decide +kernel
theorem dX11_worthOf_4 : decode cX11_worthOf 4 = .ok (.istore_n 2, 1) := by decide +kernel
theorem dX11_worthOf_5 : decode cX11_worthOf 5 = .ok (.iload_n 2, 1) := by decide +kernel
theorem dX11_worthOf_6 : decode cX11_worthOf 6 = .ok (.bipush 90, 2) := by decide +kernel
theorem dX11_worthOf_8 : decode cX11_worthOf 8 = .ok (.iload_n 1, 1) := by decide +kernel
theorem dX11_worthOf_9 : decode cX11_worthOf 9 = .ok (.imul, 1) := by decide +kernel
theorem dX11_worthOf_10 : decode cX11_worthOf 10 = .ok (.aload_n 0, 1) := by decide +kernel
theorem dX11_worthOf_11 : decode cX11_worthOf 11 = .ok (.getfield 22, 3) := by decide +kernel
theorem dX11_worthOf_14 : decode cX11_worthOf 14 = .ok (.iload_n 1, 1) := by decide +kernel
theorem dX11_worthOf_15 : decode cX11_worthOf 15 = .ok (.iaload, 1) := by decide +kernel
theorem dX11_worthOf_16 : decode cX11_worthOf 16 = .ok (.iadd, 1) := by decide +kernel
theorem dX11_worthOf_17 : decode cX11_worthOf 17 = .ok (.if_icmp .ge 62, 3) := by decide +kernel
theorem dX11_worthOf_20 : decode cX11_worthOf 20 = .ok (.aload_n 0, 1) := by decide +kernel
theorem dX11_worthOf_21 : decode cX11_worthOf 21 = .ok (.getfield 25, 3) := by decide +kernel
theorem dX11_worthOf_24 : decode cX11_worthOf 24 = .ok (.iload_n 2, 1) := by decide +kernel
theorem dX11_worthOf_25 : decode cX11_worthOf 25 = .ok (.iaload, 1) := by decide +kernel
theorem dX11_worthOf_26 : decode cX11_worthOf 26 = .ok (.aload_n 0, 1) := by decide +kernel
theorem dX11_worthOf_27 : decode cX11_worthOf 27 = .ok (.getfield 28, 3) := by decide +kernel
theorem dX11_worthOf_30 : decode cX11_worthOf 30 = .ok (.iload_n 2, 1) := by decide +kernel
theorem dX11_worthOf_31 : decode cX11_worthOf 31 = .ok (.iaload, 1) := by decide +kernel
theorem dX11_worthOf_32 : decode cX11_worthOf 32 = .ok (.if_icmp .eq 23, 3) := by decide +kernel
theorem dX11_worthOf_35 : decode cX11_worthOf 35 = .ok (.aload_n 0, 1) := by decide +kernel
theorem dX11_worthOf_36 : decode cX11_worthOf 36 = .ok (.iload_n 1, 1) := by decide +kernel
theorem dX11_worthOf_37 : decode cX11_worthOf 37 = .ok (.aload_n 0, 1) := by decide +kernel
theorem dX11_worthOf_38 : decode cX11_worthOf 38 = .ok (.getfield 25, 3) := by decide +kernel
theorem dX11_worthOf_41 : decode cX11_worthOf 41 = .ok (.iload_n 2, 1) := by decide +kernel
theorem dX11_worthOf_42 : decode cX11_worthOf 42 = .ok (.iaload, 1) := by decide +kernel
theorem dX11_worthOf_43 : decode cX11_worthOf 43 = .ok (.aload_n 0, 1) := by decide +kernel
theorem dX11_worthOf_44 : decode cX11_worthOf 44 = .ok (.getfield 28, 3) := by decide +kernel
theorem dX11_worthOf_47 : decode cX11_worthOf 47 = .ok (.iload_n 2, 1) := by decide +kernel
theorem dX11_worthOf_48 : decode cX11_worthOf 48 = .ok (.iaload, 1) := by decide +kernel
theorem dX11_worthOf_49 : decode cX11_worthOf 49 = .ok (.invokevirtual 209, 3) := by decide +kernel
theorem dX11_worthOf_52 : decode cX11_worthOf 52 = .ok (.ifCond .eq 21, 3) := by decide +kernel
theorem dX11_worthOf_55 : decode cX11_worthOf 55 = .ok (.aload_n 0, 1) := by decide +kernel
theorem dX11_worthOf_56 : decode cX11_worthOf 56 = .ok (.iload_n 1, 1) := by decide +kernel
theorem dX11_worthOf_57 : decode cX11_worthOf 57 = .ok (.aload_n 0, 1) := by decide +kernel
theorem dX11_worthOf_58 : decode cX11_worthOf 58 = .ok (.getfield 28, 3) := by decide +kernel
theorem dX11_worthOf_61 : decode cX11_worthOf 61 = .ok (.iload_n 2, 1) := by decide +kernel
theorem dX11_worthOf_62 : decode cX11_worthOf 62 = .ok (.iaload, 1) := by decide +kernel
theorem dX11_worthOf_63 : decode cX11_worthOf 63 = .ok (.aload_n 0, 1) := by decide +kernel
theorem dX11_worthOf_64 : decode cX11_worthOf 64 = .ok (.getfield 31, 3) := by decide +kernel
theorem dX11_worthOf_67 : decode cX11_worthOf 67 = .ok (.iload_n 2, 1) := by decide +kernel
theorem dX11_worthOf_68 : decode cX11_worthOf 68 = .ok (.iaload, 1) := by decide +kernel
theorem dX11_worthOf_69 : decode cX11_worthOf 69 = .ok (.invokevirtual 209, 3) := by decide +kernel
theorem dX11_worthOf_72 : decode cX11_worthOf 72 = .ok (.ireturn, 1) := by decide +kernel
theorem dX11_worthOf_73 : decode cX11_worthOf 73 = .ok (.iinc 2 1, 3) := by decide +kernel
theorem dX11_worthOf_76 : decode cX11_worthOf 76 = .ok (.goto (-71), 3) := by decide +kernel
theorem dX11_worthOf_79 : decode cX11_worthOf 79 = .ok (.iconst 0, 1) := by decide +kernel
theorem dX11_worthOf_80 : decode cX11_worthOf 80 = .ok (.ireturn, 1) := by decide +kernel
def X11_worthOf_L5 (l1 : Int) (k55 : Int → Mm → Rs) : Nat → Int → Mm → Rs
  | 0, _, _ => none
  | n + 1, l2, μ => ldA μ 75 l1 fun v1 => if (iA (iM 90 l1) v1) ≤ l2 then (some (0, μ)) else (ldA μ 76 l2 fun v4 => ldA μ 77 l2 fun v6 => if v4 = v6 then (k55 l2 μ) else (ldA μ 76 l2 fun v9 => ldA μ 77 l2 fun v11 => bd (X11_workOut l1 v9 v11 μ) fun v13 μ14 => if v13 = 0 then (X11_worthOf_L5 l1 k55 n (iA l2 1) μ14) else (k55 l2 μ14)))
def X11_worthOf_J55 (l1 : Int) (l2 : Int) (μ : Mm) : Rs := ldA μ 77 l2 fun v19 => ldA μ 78 l2 fun v21 => bd (X11_workOut l1 v19 v21 μ) fun v23 μ24 => some (v23, μ24)
def X11_worthOf (l1 : Int) (μ : Mm) : Rs := X11_worthOf_L5 l1 (fun v17 μ18 => X11_worthOf_J55 l1 v17 μ18) FU (iM 90 l1) μ
set_option maxHeartbeats 4000000 in
set_option maxRecDepth 100000 in
theorem kX11_worthOf_L5 (d : Nat) (hd : 5 ≤ d) {l1 : Int} {k55 : Int → Mm → Rs} {r : Int} {μ' : Mm} (hk_55 : ∀ (v2 : Int) (μ1 : Mm), k55 v2 μ1 = some (r, μ') → VV d mX11_worthOf 55 [some (vR 70), some (vI l1), some (vI v2)] [] μ1 r μ') : ∀ (n : Nat) {l2 : Int} {μ : Mm}, X11_worthOf_L5 l1 k55 n l2 μ = some (r, μ') → VV d mX11_worthOf 5 [some (vR 70), some (vI l1), some (vI l2)] [] μ r μ' := by
  intro n
  induction n with
  | zero => intro l2 μ h; rw [X11_worthOf_L5] at h; cases h
  | succ n ih =>
    intro l2 μ h
    rw [X11_worthOf_L5] at h
    refine V_iload_n (q := 6) dX11_worthOf_5 rfl rfl rfl ?_
    refine V_bipush (q := 8) dX11_worthOf_6 rfl rfl rfl ?_
    refine V_iload_n (q := 9) dX11_worthOf_8 rfl rfl rfl ?_
    refine V_imul (q := 10) dX11_worthOf_9 rfl ?_
    refine V_aload_n (q := 11) dX11_worthOf_10 rfl rfl rfl ?_
    refine V_getO (q := 14) (t := 75) fl_X11_22 rfl rfl rfl rfl dX11_worthOf_11 rfl ?_
    refine V_iload_n (q := 15) dX11_worthOf_14 rfl rfl rfl ?_
    obtain ⟨hi2, h⟩ := ldA_i h
    refine V_iaload (q := 16) rfl hi2 dX11_worthOf_15 rfl ?_
    refine V_iadd (q := 17) dX11_worthOf_16 rfl ?_
    refine V_icmpge (q := 79) (q2 := 20) dX11_worthOf_17 (by decide) rfl (fun hc3 => ?_) (fun hc3 => ?_)
    · have h := ifT hc3 h
      refine V_iconst (q := 80) dX11_worthOf_79 rfl rfl ?_
      exact V_iret rfl h dX11_worthOf_80
    · have h := ifF hc3 h
      refine V_aload_n (q := 21) dX11_worthOf_20 rfl rfl rfl ?_
      refine V_getO (q := 24) (t := 76) fl_X11_25 rfl rfl rfl rfl dX11_worthOf_21 rfl ?_
      refine V_iload_n (q := 25) dX11_worthOf_24 rfl rfl rfl ?_
      obtain ⟨hi5, h⟩ := ldA_i h
      refine V_iaload (q := 26) rfl hi5 dX11_worthOf_25 rfl ?_
      refine V_aload_n (q := 27) dX11_worthOf_26 rfl rfl rfl ?_
      refine V_getO (q := 30) (t := 77) fl_X11_28 rfl rfl rfl rfl dX11_worthOf_27 rfl ?_
      refine V_iload_n (q := 31) dX11_worthOf_30 rfl rfl rfl ?_
      obtain ⟨hi7, h⟩ := ldA_i h
      refine V_iaload (q := 32) rfl hi7 dX11_worthOf_31 rfl ?_
      refine V_icmpeq (q := 55) (q2 := 35) dX11_worthOf_32 (by decide) rfl (fun hc8 => ?_) (fun hc8 => ?_)
      · have h := ifT hc8 h
        exact V_weak (hk_55 _ _ h) (sb_s rfl (sb_s rfl (sb_s rfl sb_0)))
      · have h := ifF hc8 h
        refine V_aload_n (q := 36) dX11_worthOf_35 rfl rfl rfl ?_
        refine V_iload_n (q := 37) dX11_worthOf_36 rfl rfl rfl ?_
        refine V_aload_n (q := 38) dX11_worthOf_37 rfl rfl rfl ?_
        refine V_getO (q := 41) (t := 76) fl_X11_25 rfl rfl rfl rfl dX11_worthOf_38 rfl ?_
        refine V_iload_n (q := 42) dX11_worthOf_41 rfl rfl rfl ?_
        obtain ⟨hi10, h⟩ := ldA_i h
        refine V_iaload (q := 43) rfl hi10 dX11_worthOf_42 rfl ?_
        refine V_aload_n (q := 44) dX11_worthOf_43 rfl rfl rfl ?_
        refine V_getO (q := 47) (t := 77) fl_X11_28 rfl rfl rfl rfl dX11_worthOf_44 rfl ?_
        refine V_iload_n (q := 48) dX11_worthOf_47 rfl rfl rfl ?_
        obtain ⟨hi12, h⟩ := ldA_i h
        refine V_iaload (q := 49) rfl hi12 dX11_worthOf_48 rfl ?_
        obtain ⟨v13, μ14, hc15, h⟩ := bd_i h
        refine V_cV1 (q := 52) (v := vI v13) (kX11_workOut (d - 1) (by omega) hc15) (by omega) mv_X11_209 rfl rfl rfl rfl rfl rfl dX11_worthOf_49 rfl ?_
        refine V_ifeq (q := 73) (q2 := 55) dX11_worthOf_52 (by decide) rfl (fun hc16 => ?_) (fun hc16 => ?_)
        · have h := ifT hc16 h
          refine V_iinc (q := 76) dX11_worthOf_73 rfl (Nat.le_of_ble_eq_true rfl) trivial rfl ?_
          refine V_goto (q := 5) dX11_worthOf_76 (by decide) ?_
          exact V_weak (ih h) (sb_s rfl (sb_s rfl (sb_s rfl sb_0)))
        · have h := ifF hc16 h
          exact V_weak (hk_55 _ _ h) (sb_s rfl (sb_s rfl (sb_s rfl sb_0)))
set_option maxHeartbeats 4000000 in
set_option maxRecDepth 100000 in
theorem kX11_worthOf_J55 (d : Nat) (hd : 5 ≤ d) {l1 : Int} {l2 : Int} {μ : Mm} {r : Int} {μ' : Mm} (h : X11_worthOf_J55 l1 l2 μ = some (r, μ')) : VV d mX11_worthOf 55 [some (vR 70), some (vI l1), some (vI l2)] [] μ r μ' := by
  unfold X11_worthOf_J55 at h
  refine V_aload_n (q := 56) dX11_worthOf_55 rfl rfl rfl ?_
  refine V_iload_n (q := 57) dX11_worthOf_56 rfl rfl rfl ?_
  refine V_aload_n (q := 58) dX11_worthOf_57 rfl rfl rfl ?_
  refine V_getO (q := 61) (t := 77) fl_X11_28 rfl rfl rfl rfl dX11_worthOf_58 rfl ?_
  refine V_iload_n (q := 62) dX11_worthOf_61 rfl rfl rfl ?_
  obtain ⟨hi20, h⟩ := ldA_i h
  refine V_iaload (q := 63) rfl hi20 dX11_worthOf_62 rfl ?_
  refine V_aload_n (q := 64) dX11_worthOf_63 rfl rfl rfl ?_
  refine V_getO (q := 67) (t := 78) fl_X11_31 rfl rfl rfl rfl dX11_worthOf_64 rfl ?_
  refine V_iload_n (q := 68) dX11_worthOf_67 rfl rfl rfl ?_
  obtain ⟨hi22, h⟩ := ldA_i h
  refine V_iaload (q := 69) rfl hi22 dX11_worthOf_68 rfl ?_
  obtain ⟨v23, μ24, hc25, h⟩ := bd_i h
  refine V_cV1 (q := 72) (v := vI v23) (kX11_workOut (d - 1) (by omega) hc25) (by omega) mv_X11_209 rfl rfl rfl rfl rfl rfl dX11_worthOf_69 rfl ?_
  exact V_iret rfl h dX11_worthOf_72
set_option maxHeartbeats 4000000 in
set_option maxRecDepth 100000 in
theorem kX11_worthOf (d : Nat) (hd : 5 ≤ d) {l1 : Int} {μ : Mm} {r : Int} {μ' : Mm} (h : X11_worthOf l1 μ = some (r, μ')) : CC d mX11_worthOf [vR 70, vI l1] μ r μ' := by
  unfold X11_worthOf at h
  refine V_enter (by decide) (Nat.le_of_ble_eq_true rfl) ?_
  show VV d mX11_worthOf 0 [some (vR 70), some (vI l1), none] [] μ r μ'
  refine V_bipush (q := 2) dX11_worthOf_0 rfl rfl rfl ?_
  refine V_iload_n (q := 3) dX11_worthOf_2 rfl rfl rfl ?_
  refine V_imul (q := 4) dX11_worthOf_3 rfl ?_
  refine V_istore_n (q := 5) dX11_worthOf_4 rfl (Nat.le_of_ble_eq_true rfl) trivial rfl ?_
  refine V_weak (kX11_worthOf_L5 d hd (fun v17 μ18 h => ?_) FU h) (sb_s rfl (sb_s rfl (sb_s rfl sb_0)))
  exact V_weak (kX11_worthOf_J55 d hd h) (sb_s rfl (sb_s rfl (sb_s rfl sb_0)))
abbrev mX11_signOf : Mth := (yX11_signOf, cX11_signOf, 1, some .int)
theorem mi_X11_signOf : Cond.static yX11_signOf ∈ tG ∧ Cond.initialized yX11_signOf.cls ∈ tG ∧ Cond.code yX11_signOf cX11_signOf 1 (some .int) ∈ tG ∧ (yX11_signOf.cls ≠ "java/lang/invoke/MethodHandle" ∧ yX11_signOf.cls ≠ "java/lang/invoke/VarHandle" ∧ (parseMethodDescriptor yX11_signOf.desc).map (fun d => d.parameters.length) = some 1) ∧ 1 ≤ 60 := ⟨(tG_of (List.mem_of_getElem? (i := 1367) (by decide +kernel)) (by decide +kernel)), (tG_of (List.mem_of_getElem? (i := 112) (by decide +kernel)) (by decide +kernel)), (tG_of (List.mem_of_getElem? (i := 1368) (by decide +kernel)) (by decide +kernel)), ⟨by decide, by decide, by decide +kernel⟩, by decide⟩
theorem mv_X11_217 : mS RX11 217 mX11_signOf 1 := ⟨(tG_of (List.mem_of_getElem? (i := 1366) (by decide +kernel)) (by decide +kernel)), mi_X11_signOf.1, (tG_of (List.mem_of_getElem? (i := 112) (by decide +kernel)) (by decide +kernel)), mi_X11_signOf.2⟩
theorem dX11_signOf_0 : decode cX11_signOf 0 = .ok (.iload_n 0, 1) := by decide +kernel
theorem dX11_signOf_1 : decode cX11_signOf 1 = .ok (.bipush 46, 2) := by decide +kernel
theorem dX11_signOf_3 : decode cX11_signOf 3 = .ok (.if_icmp .ne 7, 3) := by decide +kernel
theorem dX11_signOf_6 : decode cX11_signOf 6 = .ok (.iconst 0, 1) := by decide +kernel
theorem dX11_signOf_7 : decode cX11_signOf 7 = .ok (.goto 46, 3) := by decide +kernel
theorem dX11_signOf_10 : decode cX11_signOf 10 = .ok (.iload_n 0, 1) := by decide +kernel
theorem dX11_signOf_11 : decode cX11_signOf 11 = .ok (.bipush 35, 2) := by decide +kernel
theorem dX11_signOf_13 : decode cX11_signOf 13 = .ok (.if_icmp .ne 7, 3) := by decide +kernel
theorem dX11_signOf_16 : decode cX11_signOf 16 = .ok (.iconst 1, 1) := by decide +kernel
theorem dX11_signOf_17 : decode cX11_signOf 17 = .ok (.goto 36, 3) := by decide +kernel
theorem dX11_signOf_20 : decode cX11_signOf 20 = .ok (.iload_n 0, 1) := by decide +kernel
theorem dX11_signOf_21 : decode cX11_signOf 21 = .ok (.bipush 42, 2) := by decide +kernel
theorem dX11_signOf_23 : decode cX11_signOf 23 = .ok (.if_icmp .ne 7, 3) := by decide +kernel
theorem dX11_signOf_26 : decode cX11_signOf 26 = .ok (.iconst 2, 1) := by decide +kernel
theorem dX11_signOf_27 : decode cX11_signOf 27 = .ok (.goto 26, 3) := by decide +kernel
theorem dX11_signOf_30 : decode cX11_signOf 30 = .ok (.iload_n 0, 1) := by decide +kernel
theorem dX11_signOf_31 : decode cX11_signOf 31 = .ok (.bipush 65, 2) := by decide +kernel
theorem dX11_signOf_33 : decode cX11_signOf 33 = .ok (.isub, 1) := by decide +kernel
theorem dX11_signOf_34 : decode cX11_signOf 34 = .ok (.iconst 0, 1) := by decide +kernel
theorem dX11_signOf_35 : decode cX11_signOf 35 = .ok (.bipush 7, 2) := by decide +kernel
theorem dX11_signOf_37 : decode cX11_signOf 37 = .ok (.invokestatic 213, 3) := by decide +kernel
theorem dX11_signOf_40 : decode cX11_signOf 40 = .ok (.ifCond .eq 12, 3) := by decide +kernel
theorem dX11_signOf_43 : decode cX11_signOf 43 = .ok (.iconst 3, 1) := by decide +kernel
theorem dX11_signOf_44 : decode cX11_signOf 44 = .ok (.iload_n 0, 1) := by decide +kernel
theorem dX11_signOf_45 : decode cX11_signOf 45 = .ok (.iadd, 1) := by decide +kernel
theorem dX11_signOf_46 : decode cX11_signOf 46 = .ok (.bipush 65, 2) := by decide +kernel
theorem dX11_signOf_48 : decode cX11_signOf 48 = .ok (.isub, 1) := by decide +kernel
theorem dX11_signOf_49 : decode cX11_signOf 49 = .ok (.goto 4, 3) := by decide +kernel
theorem dX11_signOf_52 : decode cX11_signOf 52 = .ok (.iconst (-1), 1) := by decide +kernel
theorem dX11_signOf_53 : decode cX11_signOf 53 = .ok (.ireturn, 1) := by decide +kernel
def X11_signOf (l0 : Int) (μ : Mm) : Rs := if l0 = 46 then (some (0, μ)) else (if l0 = 35 then (some (1, μ)) else (if l0 = 42 then (some (2, μ)) else (bd (X11_in (iS l0 65) 0 7 μ) fun v4 μ5 => if v4 = 0 then (some ((-1), μ5)) else (some (iS (iA 3 l0) 65, μ5)))))
set_option maxHeartbeats 4000000 in
set_option maxRecDepth 100000 in
theorem kX11_signOf (d : Nat) (hd : 2 ≤ d) {l0 : Int} {μ : Mm} {r : Int} {μ' : Mm} (h : X11_signOf l0 μ = some (r, μ')) : CC d mX11_signOf [vI l0] μ r μ' := by
  unfold X11_signOf at h
  refine V_enter (by decide) (Nat.le_of_ble_eq_true rfl) ?_
  show VV d mX11_signOf 0 [some (vI l0)] [] μ r μ'
  refine V_iload_n (q := 1) dX11_signOf_0 rfl rfl rfl ?_
  refine V_bipush (q := 3) dX11_signOf_1 rfl rfl rfl ?_
  refine V_icmpne (q := 10) (q2 := 6) dX11_signOf_3 (by decide) rfl (fun hc1 => ?_) (fun hc1 => ?_)
  · have h := ifF hc1 h
    refine V_iload_n (q := 11) dX11_signOf_10 rfl rfl rfl ?_
    refine V_bipush (q := 13) dX11_signOf_11 rfl rfl rfl ?_
    refine V_icmpne (q := 20) (q2 := 16) dX11_signOf_13 (by decide) rfl (fun hc2 => ?_) (fun hc2 => ?_)
    · have h := ifF hc2 h
      refine V_iload_n (q := 21) dX11_signOf_20 rfl rfl rfl ?_
      refine V_bipush (q := 23) dX11_signOf_21 rfl rfl rfl ?_
      refine V_icmpne (q := 30) (q2 := 26) dX11_signOf_23 (by decide) rfl (fun hc3 => ?_) (fun hc3 => ?_)
      · have h := ifF hc3 h
        refine V_iload_n (q := 31) dX11_signOf_30 rfl rfl rfl ?_
        refine V_bipush (q := 33) dX11_signOf_31 rfl rfl rfl ?_
        refine V_isub (q := 34) dX11_signOf_33 rfl ?_
        refine V_iconst (q := 35) dX11_signOf_34 rfl rfl ?_
        refine V_bipush (q := 37) dX11_signOf_35 rfl rfl rfl ?_
        obtain ⟨v4, μ5, hc6, h⟩ := bd_i h
        refine V_cS1 (q := 40) (v := vI v4) (kX11_in (d - 1) (by omega) hc6) (by omega) mv_X11_213 rfl rfl rfl rfl dX11_signOf_37 rfl ?_
        refine V_ifeq (q := 52) (q2 := 43) dX11_signOf_40 (by decide) rfl (fun hc7 => ?_) (fun hc7 => ?_)
        · have h := ifT hc7 h
          refine V_iconst (q := 53) dX11_signOf_52 rfl rfl ?_
          exact V_iret rfl h dX11_signOf_53
        · have h := ifF hc7 h
          refine V_iconst (q := 44) dX11_signOf_43 rfl rfl ?_
          refine V_iload_n (q := 45) dX11_signOf_44 rfl rfl rfl ?_
          refine V_iadd (q := 46) dX11_signOf_45 rfl ?_
          refine V_bipush (q := 48) dX11_signOf_46 rfl rfl rfl ?_
          refine V_isub (q := 49) dX11_signOf_48 rfl ?_
          refine V_goto (q := 53) dX11_signOf_49 (by decide) ?_
          exact V_iret rfl h dX11_signOf_53
      · have h := ifT hc3 h
        refine V_iconst (q := 27) dX11_signOf_26 rfl rfl ?_
        refine V_goto (q := 53) dX11_signOf_27 (by decide) ?_
        exact V_iret rfl h dX11_signOf_53
    · have h := ifT hc2 h
      refine V_iconst (q := 17) dX11_signOf_16 rfl rfl ?_
      refine V_goto (q := 53) dX11_signOf_17 (by decide) ?_
      exact V_iret rfl h dX11_signOf_53
  · have h := ifT hc1 h
    refine V_iconst (q := 7) dX11_signOf_6 rfl rfl ?_
    refine V_goto (q := 53) dX11_signOf_7 (by decide) ?_
    exact V_iret rfl h dX11_signOf_53
abbrev mX11_rowText : Mth := (yX11_rowText, cX11_rowText, 4, none)
theorem mi_X11_rowText : Cond.instanceMethod yX11_rowText ∈ tG ∧ Cond.selects yX11_rowText.cls yX11_rowText yX11_rowText ∈ tG ∧ Cond.initialized yX11_rowText.cls ∈ tG ∧ Cond.code yX11_rowText cX11_rowText 4 (none) ∈ tG ∧ (yX11_rowText.cls ≠ "java/lang/invoke/MethodHandle" ∧ yX11_rowText.cls ≠ "java/lang/invoke/VarHandle" ∧ (parseMethodDescriptor yX11_rowText.desc).map (fun d => d.parameters.length) = some 0) ∧ 4 ≤ 60 := ⟨(tG_of (List.mem_of_getElem? (i := 1356) (by decide +kernel)) (by decide +kernel)), (tG_of (List.mem_of_getElem? (i := 48) (by decide +kernel)) (by decide +kernel)), (tG_of (List.mem_of_getElem? (i := 112) (by decide +kernel)) (by decide +kernel)), (tG_of (List.mem_of_getElem? (i := 1357) (by decide +kernel)) (by decide +kernel)), ⟨by decide, by decide, by decide +kernel⟩, by decide⟩
theorem mv_X11_237 : mV RX11 237 mX11_rowText 0 := ⟨(tG_of (List.mem_of_getElem? (i := 1354) (by decide +kernel)) (by decide +kernel)), mi_X11_rowText⟩
theorem dX11_rowText_0 : decode cX11_rowText 0 = .ok (.iconst 0, 1) := by decide +kernel
theorem dX11_rowText_1 : decode cX11_rowText 1 = .ok (.istore_n 1, 1) := by decide +kernel
theorem dX11_rowText_2 : decode cX11_rowText 2 = .ok (.aload_n 0, 1) := by decide +kernel
theorem dX11_rowText_3 : decode cX11_rowText 3 = .ok (.invokevirtual 127, 3) := by decide +kernel
theorem dX11_rowText_6 : decode cX11_rowText 6 = .ok (.invokestatic 217, 3) := by decide +kernel
theorem dX11_rowText_9 : decode cX11_rowText 9 = .ok (.istore_n 2, 1) := by decide +kernel
theorem dX11_rowText_10 : decode cX11_rowText 10 = .ok (.aload_n 0, 1) := by decide +kernel
theorem dX11_rowText_11 : decode cX11_rowText 11 = .ok (.getfield 115, 3) := by decide +kernel
theorem dX11_rowText_14 : decode cX11_rowText 14 = .ok (.iconst (-1), 1) := by decide +kernel
theorem dX11_rowText_15 : decode cX11_rowText 15 = .ok (.if_icmp .ne 156, 3) := by decide +kernel
theorem dX11_rowText_18 : decode cX11_rowText 18 = .ok (.iload_n 2, 1) := by decide +kernel
theorem dX11_rowText_19 : decode cX11_rowText 19 = .ok (.iconst (-1), 1) := by decide +kernel
theorem dX11_rowText_20 : decode cX11_rowText 20 = .ok (.if_icmp .eq 151, 3) := by decide +kernel
theorem dX11_rowText_23 : decode cX11_rowText 23 = .ok (.iload_n 2, 1) := by decide +kernel
theorem dX11_rowText_24 : decode cX11_rowText 24 = .ok (.iconst 2, 1) := by decide +kernel
theorem dX11_rowText_25 : decode cX11_rowText 25 = .ok (.if_icmp .ne 10, 3) := by decide +kernel
theorem dX11_rowText_28 : decode cX11_rowText 28 = .ok (.aload_n 0, 1) := by decide +kernel
theorem dX11_rowText_29 : decode cX11_rowText 29 = .ok (.getfield 220, 3) := by decide +kernel
theorem dX11_rowText_32 : decode cX11_rowText 32 = .ok (.ifCond .ne 21, 3) := by decide +kernel
theorem dX11_rowText_35 : decode cX11_rowText 35 = .ok (.iload_n 2, 1) := by decide +kernel
theorem dX11_rowText_36 : decode cX11_rowText 36 = .ok (.iconst 3, 1) := by decide +kernel
theorem dX11_rowText_37 : decode cX11_rowText 37 = .ok (.if_icmp .lt 20, 3) := by decide +kernel
theorem dX11_rowText_40 : decode cX11_rowText 40 = .ok (.aload_n 0, 1) := by decide +kernel
theorem dX11_rowText_41 : decode cX11_rowText 41 = .ok (.getfield 224, 3) := by decide +kernel
theorem dX11_rowText_44 : decode cX11_rowText 44 = .ok (.iload_n 2, 1) := by decide +kernel
theorem dX11_rowText_45 : decode cX11_rowText 45 = .ok (.iconst 3, 1) := by decide +kernel
theorem dX11_rowText_46 : decode cX11_rowText 46 = .ok (.isub, 1) := by decide +kernel
theorem dX11_rowText_47 : decode cX11_rowText 47 = .ok (.invokestatic 227, 3) := by decide +kernel
theorem dX11_rowText_50 : decode cX11_rowText 50 = .ok (.ifCond .eq 7, 3) := by decide +kernel
theorem dX11_rowText_53 : decode cX11_rowText 53 = .ok (.iconst 1, 1) := by decide +kernel
theorem dX11_rowText_54 : decode cX11_rowText 54 = .ok (.goto 4, 3) := by decide +kernel
theorem dX11_rowText_57 : decode cX11_rowText 57 = .ok (.iconst 0, 1) := by decide +kernel
theorem dX11_rowText_58 : decode cX11_rowText 58 = .ok (.istore_n 3, 1) := by decide +kernel
theorem dX11_rowText_59 : decode cX11_rowText 59 = .ok (.iload_n 3, 1) := by decide +kernel
theorem dX11_rowText_60 : decode cX11_rowText 60 = .ok (.ifCond .ne 23, 3) := by decide +kernel
theorem dX11_rowText_63 : decode cX11_rowText 63 = .ok (.iload_n 1, 1) := by decide +kernel
theorem dX11_rowText_64 : decode cX11_rowText 64 = .ok (.aload_n 0, 1) := by decide +kernel
theorem dX11_rowText_65 : decode cX11_rowText 65 = .ok (.getfield 231, 3) := by decide +kernel
theorem dX11_rowText_68 : decode cX11_rowText 68 = .ok (.ifCond .ne 8, 3) := by decide +kernel
theorem dX11_rowText_71 : decode cX11_rowText 71 = .ok (.bipush 9, 2) := by decide +kernel
theorem dX11_rowText_73 : decode cX11_rowText 73 = .ok (.goto 7, 3) := by decide +kernel
theorem dX11_rowText_76 : decode cX11_rowText 76 = .ok (.aload_n 0, 1) := by decide +kernel
theorem dX11_rowText_77 : decode cX11_rowText 77 = .ok (.getfield 234, 3) := by decide +kernel
theorem dX11_rowText_80 : decode cX11_rowText 80 = .ok (.if_icmp .ne 8, 3) := by decide +kernel
theorem dX11_rowText_83 : decode cX11_rowText 83 = .ok (.aload_n 0, 1) := by decide +kernel
theorem dX11_rowText_84 : decode cX11_rowText 84 = .ok (.invokevirtual 124, 3) := by decide +kernel
theorem dX11_rowText_87 : decode cX11_rowText 87 = .ok (.return_, 1) := by decide +kernel
theorem dX11_rowText_88 : decode cX11_rowText 88 = .ok (.aload_n 0, 1) := by decide +kernel
theorem dX11_rowText_89 : decode cX11_rowText 89 = .ok (.aload_n 0, 1) := by decide +kernel
theorem dX11_rowText_90 : decode cX11_rowText 90 = .ok (.getfield 220, 3) := by decide +kernel
theorem dX11_rowText_93 : decode cX11_rowText 93 = .ok (.ifCond .ne 8, 3) := by decide +kernel
theorem dX11_rowText_96 : decode cX11_rowText 96 = .ok (.iload_n 2, 1) := by decide +kernel
theorem dX11_rowText_97 : decode cX11_rowText 97 = .ok (.iconst 2, 1) := by decide +kernel
theorem dX11_rowText_98 : decode cX11_rowText 98 = .ok (.if_icmp .ne 7, 3) := by decide +kernel
theorem dX11_rowText_101 : decode cX11_rowText 101 = .ok (.iconst 1, 1) := by decide +kernel
theorem dX11_rowText_102 : decode cX11_rowText 102 = .ok (.goto 4, 3) := by decide +kernel
theorem dX11_rowText_105 : decode cX11_rowText 105 = .ok (.iconst 0, 1) := by decide +kernel
theorem dX11_rowText_106 : decode cX11_rowText 106 = .ok (.putfield 220, 3) := by decide +kernel
theorem dX11_rowText_109 : decode cX11_rowText 109 = .ok (.aload_n 0, 1) := by decide +kernel
theorem dX11_rowText_110 : decode cX11_rowText 110 = .ok (.dup, 1) := by decide +kernel
theorem dX11_rowText_111 : decode cX11_rowText 111 = .ok (.getfield 224, 3) := by decide +kernel
theorem dX11_rowText_114 : decode cX11_rowText 114 = .ok (.iload_n 2, 1) := by decide +kernel
theorem dX11_rowText_115 : decode cX11_rowText 115 = .ok (.iconst 3, 1) := by decide +kernel
theorem dX11_rowText_116 : decode cX11_rowText 116 = .ok (.if_icmp .lt 11, 3) := by decide +kernel
theorem dX11_rowText_119 : decode cX11_rowText 119 = .ok (.iconst 1, 1) := by decide +kernel
theorem dX11_rowText_120 : decode cX11_rowText 120 = .ok (.iload_n 2, 1) := by decide +kernel
theorem dX11_rowText_121 : decode cX11_rowText 121 = .ok (.iconst 3, 1) := by decide +kernel
theorem dX11_rowText_122 : decode cX11_rowText 122 = .ok (.isub, 1) := by decide +kernel
theorem dX11_rowText_123 : decode cX11_rowText 123 = .ok (.ishl, 1) := by decide +kernel
theorem dX11_rowText_124 : decode cX11_rowText 124 = .ok (.goto 4, 3) := by decide +kernel
theorem dX11_rowText_127 : decode cX11_rowText 127 = .ok (.iconst 0, 1) := by decide +kernel
theorem dX11_rowText_128 : decode cX11_rowText 128 = .ok (.ior, 1) := by decide +kernel
theorem dX11_rowText_129 : decode cX11_rowText 129 = .ok (.putfield 224, 3) := by decide +kernel
theorem dX11_rowText_132 : decode cX11_rowText 132 = .ok (.aload_n 0, 1) := by decide +kernel
theorem dX11_rowText_133 : decode cX11_rowText 133 = .ok (.getfield 40, 3) := by decide +kernel
theorem dX11_rowText_136 : decode cX11_rowText 136 = .ok (.bipush 10, 2) := by decide +kernel
theorem dX11_rowText_138 : decode cX11_rowText 138 = .ok (.aload_n 0, 1) := by decide +kernel
theorem dX11_rowText_139 : decode cX11_rowText 139 = .ok (.getfield 231, 3) := by decide +kernel
theorem dX11_rowText_142 : decode cX11_rowText 142 = .ok (.imul, 1) := by decide +kernel
theorem dX11_rowText_143 : decode cX11_rowText 143 = .ok (.iload_n 1, 1) := by decide +kernel
theorem dX11_rowText_144 : decode cX11_rowText 144 = .ok (.iadd, 1) := by decide +kernel
theorem dX11_rowText_145 : decode cX11_rowText 145 = .ok (.iload_n 2, 1) := by decide +kernel
theorem dX11_rowText_146 : decode cX11_rowText 146 = .ok (.iastore, 1) := by decide +kernel
theorem dX11_rowText_147 : decode cX11_rowText 147 = .ok (.iinc 1 1, 3) := by decide +kernel
theorem dX11_rowText_150 : decode cX11_rowText 150 = .ok (.aload_n 0, 1) := by decide +kernel
theorem dX11_rowText_151 : decode cX11_rowText 151 = .ok (.dup, 1) := by decide +kernel
theorem dX11_rowText_152 : decode cX11_rowText 152 = .ok (.getfield 108, 3) := by decide +kernel
theorem dX11_rowText_155 : decode cX11_rowText 155 = .ok (.iconst 1, 1) := by decide +kernel
theorem dX11_rowText_156 : decode cX11_rowText 156 = .ok (.iadd, 1) := by decide +kernel
theorem dX11_rowText_157 : decode cX11_rowText 157 = .ok (.putfield 108, 3) := by decide +kernel
theorem dX11_rowText_160 : decode cX11_rowText 160 = .ok (.aload_n 0, 1) := by decide +kernel
theorem dX11_rowText_161 : decode cX11_rowText 161 = .ok (.invokevirtual 127, 3) := by decide +kernel
theorem dX11_rowText_164 : decode cX11_rowText 164 = .ok (.invokestatic 217, 3) := by decide +kernel
theorem dX11_rowText_167 : decode cX11_rowText 167 = .ok (.istore_n 2, 1) := by decide +kernel
theorem dX11_rowText_168 : decode cX11_rowText 168 = .ok (.goto (-158), 3) := by decide +kernel
theorem dX11_rowText_171 : decode cX11_rowText 171 = .ok (.aload_n 0, 1) := by decide +kernel
theorem dX11_rowText_172 : decode cX11_rowText 172 = .ok (.getfield 231, 3) := by decide +kernel
theorem dX11_rowText_175 : decode cX11_rowText 175 = .ok (.ifCond .ne 11, 3) := by decide +kernel
theorem dX11_rowText_178 : decode cX11_rowText 178 = .ok (.iload_n 1, 1) := by decide +kernel
theorem dX11_rowText_179 : decode cX11_rowText 179 = .ok (.iconst 2, 1) := by decide +kernel
theorem dX11_rowText_180 : decode cX11_rowText 180 = .ok (.if_icmp .ge 18, 3) := by decide +kernel
theorem dX11_rowText_183 : decode cX11_rowText 183 = .ok (.goto 11, 3) := by decide +kernel
theorem dX11_rowText_186 : decode cX11_rowText 186 = .ok (.iload_n 1, 1) := by decide +kernel
theorem dX11_rowText_187 : decode cX11_rowText 187 = .ok (.aload_n 0, 1) := by decide +kernel
theorem dX11_rowText_188 : decode cX11_rowText 188 = .ok (.getfield 234, 3) := by decide +kernel
theorem dX11_rowText_191 : decode cX11_rowText 191 = .ok (.if_icmp .ge 7, 3) := by decide +kernel
theorem dX11_rowText_194 : decode cX11_rowText 194 = .ok (.aload_n 0, 1) := by decide +kernel
theorem dX11_rowText_195 : decode cX11_rowText 195 = .ok (.invokevirtual 124, 3) := by decide +kernel
theorem dX11_rowText_198 : decode cX11_rowText 198 = .ok (.aload_n 0, 1) := by decide +kernel
theorem dX11_rowText_199 : decode cX11_rowText 199 = .ok (.aload_n 0, 1) := by decide +kernel
theorem dX11_rowText_200 : decode cX11_rowText 200 = .ok (.getfield 231, 3) := by decide +kernel
theorem dX11_rowText_203 : decode cX11_rowText 203 = .ok (.ifCond .ne 7, 3) := by decide +kernel
theorem dX11_rowText_206 : decode cX11_rowText 206 = .ok (.iload_n 1, 1) := by decide +kernel
theorem dX11_rowText_207 : decode cX11_rowText 207 = .ok (.goto 7, 3) := by decide +kernel
theorem dX11_rowText_210 : decode cX11_rowText 210 = .ok (.aload_n 0, 1) := by decide +kernel
theorem dX11_rowText_211 : decode cX11_rowText 211 = .ok (.getfield 234, 3) := by decide +kernel
theorem dX11_rowText_214 : decode cX11_rowText 214 = .ok (.putfield 234, 3) := by decide +kernel
theorem dX11_rowText_217 : decode cX11_rowText 217 = .ok (.aload_n 0, 1) := by decide +kernel
theorem dX11_rowText_218 : decode cX11_rowText 218 = .ok (.dup, 1) := by decide +kernel
theorem dX11_rowText_219 : decode cX11_rowText 219 = .ok (.getfield 231, 3) := by decide +kernel
theorem dX11_rowText_222 : decode cX11_rowText 222 = .ok (.iconst 1, 1) := by decide +kernel
theorem dX11_rowText_223 : decode cX11_rowText 223 = .ok (.iadd, 1) := by decide +kernel
theorem dX11_rowText_224 : decode cX11_rowText 224 = .ok (.putfield 231, 3) := by decide +kernel
theorem dX11_rowText_227 : decode cX11_rowText 227 = .ok (.return_, 1) := by decide +kernel
def X11_rowText_J128 (k10 : Int → Int → Mm → Rs) (l1 : Int) (l2 : Int) (s1 : Int) (s2 : Int) (μ : Mm) : Rs := sF μ 70 20 (bO s1 s2) fun μ18 => stA μ18 81 (iA (iM 10 (μ18 70 18)) l1) l2 fun μ19 => sF μ19 70 3 (iA (μ19 70 3) 1) fun μ21 => bd (X11_look μ21) fun v22 μ23 => bd (X11_signOf v22 μ23) fun v25 μ26 => k10 (iA l1 1) v25 μ26
def X11_rowText_J106 (k10 : Int → Int → Mm → Rs) (l1 : Int) (l2 : Int) (s1 : Int) (μ : Mm) : Rs := sZ μ 70 21 s1 fun μ15 => if l2 < 3 then (X11_rowText_J128 (fun w1 w2 μq => k10 w1 w2 μq) l1 l2 (μ15 70 20) 0 μ15) else (X11_rowText_J128 (fun w1 w2 μq => k10 w1 w2 μq) l1 l2 (μ15 70 20) (bL 1 (iS l2 3)) μ15)
def X11_rowText_J101 (k10 : Int → Int → Mm → Rs) (l1 : Int) (l2 : Int) (μ : Mm) : Rs := X11_rowText_J106 (fun w1 w2 μq => k10 w1 w2 μq) l1 l2 1 μ
def X11_rowText_J80 (k10 : Int → Int → Mm → Rs) (k83 : Mm → Rs) (l1 : Int) (l2 : Int) (s0 : Int) (s1 : Int) (μ : Mm) : Rs := if s0 = s1 then (k83 μ) else (if (μ 70 21) = 0 then (if l2 = 2 then (X11_rowText_J101 (fun w1 w2 μq => k10 w1 w2 μq) l1 l2 μ) else (X11_rowText_J106 (fun w1 w2 μq => k10 w1 w2 μq) l1 l2 0 μ)) else (X11_rowText_J101 (fun w1 w2 μq => k10 w1 w2 μq) l1 l2 μ))
def X11_rowText_J58 (k10 : Int → Int → Mm → Rs) (k83 : Mm → Rs) (l1 : Int) (l2 : Int) (s0 : Int) (μ : Mm) : Rs := if s0 = 0 then (if (μ 70 18) = 0 then (X11_rowText_J80 (fun w1 w2 μq => k10 w1 w2 μq) (fun μq => k83 μq) l1 l2 l1 9 μ) else (X11_rowText_J80 (fun w1 w2 μq => k10 w1 w2 μq) (fun μq => k83 μq) l1 l2 l1 (μ 70 19) μ)) else (k83 μ)
def X11_rowText_J57 (k10 : Int → Int → Mm → Rs) (k83 : Mm → Rs) (l1 : Int) (l2 : Int) (μ : Mm) : Rs := X11_rowText_J58 (fun w1 w2 μq => k10 w1 w2 μq) (fun μq => k83 μq) l1 l2 0 μ
def X11_rowText_J53 (k10 : Int → Int → Mm → Rs) (k83 : Mm → Rs) (l1 : Int) (l2 : Int) (μ : Mm) : Rs := X11_rowText_J58 (fun w1 w2 μq => k10 w1 w2 μq) (fun μq => k83 μq) l1 l2 1 μ
def X11_rowText_J35 (k10 : Int → Int → Mm → Rs) (k83 : Mm → Rs) (l1 : Int) (l2 : Int) (μ : Mm) : Rs := if l2 < 3 then (X11_rowText_J57 (fun w1 w2 μq => k10 w1 w2 μq) (fun μq => k83 μq) l1 l2 μ) else (bd (X11_has (μ 70 20) (iS l2 3) μ) fun v29 μ30 => if v29 = 0 then (X11_rowText_J57 (fun w1 w2 μq => k10 w1 w2 μq) (fun μq => k83 μq) l1 l2 μ30) else (X11_rowText_J53 (fun w1 w2 μq => k10 w1 w2 μq) (fun μq => k83 μq) l1 l2 μ30))
def X11_rowText_L10 (k171 : Int → Mm → Rs) (k83 : Mm → Rs) : Nat → Int → Int → Mm → Rs
  | 0, _, _, _ => none
  | n + 1, l1, l2, μ => if (μ 70 4) = (-1) then (if l2 = (-1) then (k171 l1 μ) else (if l2 = 2 then (if (μ 70 21) = 0 then (X11_rowText_J35 (fun w1 w2 μq => X11_rowText_L10 k171 k83 n w1 w2 μq) (fun μq => k83 μq) l1 l2 μ) else (X11_rowText_J53 (fun w1 w2 μq => X11_rowText_L10 k171 k83 n w1 w2 μq) (fun μq => k83 μq) l1 l2 μ)) else (X11_rowText_J35 (fun w1 w2 μq => X11_rowText_L10 k171 k83 n w1 w2 μq) (fun μq => k83 μq) l1 l2 μ))) else (k171 l1 μ)
def X11_rowText_J198 (l1 : Int) (μ : Mm) : Rs := if (μ 70 18) = 0 then (sF μ 70 19 l1 fun μ41 => sF μ41 70 18 (iA (μ41 70 18) 1) fun μ42 => some (0, μ42)) else (sF μ 70 19 (μ 70 19) fun μ39 => sF μ39 70 18 (iA (μ39 70 18) 1) fun μ40 => some (0, μ40))
def X11_rowText_J194 (l1 : Int) (μ : Mm) : Rs := bd (X11_bad μ) fun v43 μ44 => X11_rowText_J198 l1 μ44
def X11_rowText_J171 (l1 : Int) (μ : Mm) : Rs := if (μ 70 18) = 0 then (if 2 ≤ l1 then (X11_rowText_J198 l1 μ) else (X11_rowText_J194 l1 μ)) else (if (μ 70 19) ≤ l1 then (X11_rowText_J198 l1 μ) else (X11_rowText_J194 l1 μ))
def X11_rowText (μ : Mm) : Rs := bd (X11_look μ) fun v1 μ2 => bd (X11_signOf v1 μ2) fun v4 μ5 => X11_rowText_L10 (fun v34 μ35 => X11_rowText_J171 v34 μ35) (fun μ47 => bd (X11_bad μ47) fun v48 μ49 => some (0, μ49)) FU 0 v4 μ5
set_option maxHeartbeats 4000000 in
set_option maxRecDepth 100000 in
theorem kX11_rowText_J128 (d : Nat) (hd : 3 ≤ d) {k10 : Int → Int → Mm → Rs} {l1 : Int} {l2 : Int} {s1 : Int} {s2 : Int} {μ : Mm} {r : Int} {μ' : Mm} (hk_10 : ∀ (v1 v2 : Int) (μ1 : Mm), k10 v1 v2 μ1 = some (r, μ') → VV d mX11_rowText 10 [some (vR 70), some (vI v1), some (vI v2), none] [] μ1 r μ') (h : X11_rowText_J128 k10 l1 l2 s1 s2 μ = some (r, μ')) : VV d mX11_rowText 128 [some (vR 70), some (vI l1), some (vI l2), none] [vR 70, vI s1, vI s2] μ r μ' := by
  unfold X11_rowText_J128 at h
  refine V_ior (q := 129) dX11_rowText_128 rfl ?_
  have h := sF_i h
  refine V_putI (q := 132) fl_X11_224 rfl rfl rfl dX11_rowText_129 rfl ?_
  refine V_aload_n (q := 133) dX11_rowText_132 rfl rfl rfl ?_
  refine V_getO (q := 136) (t := 81) fl_X11_40 rfl rfl rfl rfl dX11_rowText_133 rfl ?_
  refine V_bipush (q := 138) dX11_rowText_136 rfl rfl rfl ?_
  refine V_aload_n (q := 139) dX11_rowText_138 rfl rfl rfl ?_
  refine V_getI (q := 142) fl_X11_231 rfl rfl rfl dX11_rowText_139 rfl ?_
  refine V_imul (q := 143) dX11_rowText_142 rfl ?_
  refine V_iload_n (q := 144) dX11_rowText_143 rfl rfl rfl ?_
  refine V_iadd (q := 145) dX11_rowText_144 rfl ?_
  refine V_iload_n (q := 146) dX11_rowText_145 rfl rfl rfl ?_
  obtain ⟨hi20, h⟩ := stA_i h
  refine V_iastore (q := 147) rfl hi20 dX11_rowText_146 rfl ?_
  refine V_iinc (q := 150) dX11_rowText_147 rfl (Nat.le_of_ble_eq_true rfl) trivial rfl ?_
  refine V_aload_n (q := 151) dX11_rowText_150 rfl rfl rfl ?_
  refine V_dup (q := 152) dX11_rowText_151 trivial rfl ?_
  refine V_getI (q := 155) fl_X11_108 rfl rfl rfl dX11_rowText_152 rfl ?_
  refine V_iconst (q := 156) dX11_rowText_155 rfl rfl ?_
  refine V_iadd (q := 157) dX11_rowText_156 rfl ?_
  have h := sF_i h
  refine V_putI (q := 160) fl_X11_108 rfl rfl rfl dX11_rowText_157 rfl ?_
  refine V_aload_n (q := 161) dX11_rowText_160 rfl rfl rfl ?_
  obtain ⟨v22, μ23, hc24, h⟩ := bd_i h
  refine V_cV1 (q := 164) (v := vI v22) (kX11_look (d - 1) (by omega) hc24) (by omega) mv_X11_127 rfl rfl rfl rfl rfl rfl dX11_rowText_161 rfl ?_
  obtain ⟨v25, μ26, hc27, h⟩ := bd_i h
  refine V_cS1 (q := 167) (v := vI v25) (kX11_signOf (d - 1) (by omega) hc27) (by omega) mv_X11_217 rfl rfl rfl rfl dX11_rowText_164 rfl ?_
  refine V_istore_n (q := 168) dX11_rowText_167 rfl (Nat.le_of_ble_eq_true rfl) trivial rfl ?_
  refine V_goto (q := 10) dX11_rowText_168 (by decide) ?_
  exact V_weak (hk_10 _ _ _ h) (sb_s rfl (sb_s rfl (sb_s rfl (sb_n sb_0))))
set_option maxHeartbeats 4000000 in
set_option maxRecDepth 100000 in
theorem kX11_rowText_J106 (d : Nat) (hd : 3 ≤ d) {k10 : Int → Int → Mm → Rs} {l1 : Int} {l2 : Int} {s1 : Int} {μ : Mm} {r : Int} {μ' : Mm} (hk_10 : ∀ (v1 v2 : Int) (μ1 : Mm), k10 v1 v2 μ1 = some (r, μ') → VV d mX11_rowText 10 [some (vR 70), some (vI v1), some (vI v2), none] [] μ1 r μ') (h : X11_rowText_J106 k10 l1 l2 s1 μ = some (r, μ')) : VV d mX11_rowText 106 [some (vR 70), some (vI l1), some (vI l2), none] [vR 70, vI s1] μ r μ' := by
  unfold X11_rowText_J106 at h
  obtain ⟨hz16, h⟩ := sZ_i h
  refine V_putZ (q := 109) fl_X11_220 rfl rfl rfl hz16 dX11_rowText_106 rfl ?_
  refine V_aload_n (q := 110) dX11_rowText_109 rfl rfl rfl ?_
  refine V_dup (q := 111) dX11_rowText_110 trivial rfl ?_
  refine V_getI (q := 114) fl_X11_224 rfl rfl rfl dX11_rowText_111 rfl ?_
  refine V_iload_n (q := 115) dX11_rowText_114 rfl rfl rfl ?_
  refine V_iconst (q := 116) dX11_rowText_115 rfl rfl ?_
  refine V_icmplt (q := 127) (q2 := 119) dX11_rowText_116 (by decide) rfl (fun hc17 => ?_) (fun hc17 => ?_)
  · have h := ifT hc17 h
    refine V_iconst (q := 128) dX11_rowText_127 rfl rfl ?_
    exact V_weak (kX11_rowText_J128 d hd (fun _ _ _ h => hk_10 _ _ _ h) h) (sb_s rfl (sb_s rfl (sb_s rfl (sb_n sb_0))))
  · have h := ifF hc17 h
    refine V_iconst (q := 120) dX11_rowText_119 rfl rfl ?_
    refine V_iload_n (q := 121) dX11_rowText_120 rfl rfl rfl ?_
    refine V_iconst (q := 122) dX11_rowText_121 rfl rfl ?_
    refine V_isub (q := 123) dX11_rowText_122 rfl ?_
    refine V_ishl (q := 124) dX11_rowText_123 rfl ?_
    refine V_goto (q := 128) dX11_rowText_124 (by decide) ?_
    exact V_weak (kX11_rowText_J128 d hd (fun _ _ _ h => hk_10 _ _ _ h) h) (sb_s rfl (sb_s rfl (sb_s rfl (sb_n sb_0))))
set_option maxHeartbeats 4000000 in
set_option maxRecDepth 100000 in
theorem kX11_rowText_J101 (d : Nat) (hd : 3 ≤ d) {k10 : Int → Int → Mm → Rs} {l1 : Int} {l2 : Int} {μ : Mm} {r : Int} {μ' : Mm} (hk_10 : ∀ (v1 v2 : Int) (μ1 : Mm), k10 v1 v2 μ1 = some (r, μ') → VV d mX11_rowText 10 [some (vR 70), some (vI v1), some (vI v2), none] [] μ1 r μ') (h : X11_rowText_J101 k10 l1 l2 μ = some (r, μ')) : VV d mX11_rowText 101 [some (vR 70), some (vI l1), some (vI l2), none] [vR 70] μ r μ' := by
  unfold X11_rowText_J101 at h
  refine V_iconst (q := 102) dX11_rowText_101 rfl rfl ?_
  refine V_goto (q := 106) dX11_rowText_102 (by decide) ?_
  exact V_weak (kX11_rowText_J106 d hd (fun _ _ _ h => hk_10 _ _ _ h) h) (sb_s rfl (sb_s rfl (sb_s rfl (sb_n sb_0))))
set_option maxHeartbeats 4000000 in
set_option maxRecDepth 100000 in
theorem kX11_rowText_J80 (d : Nat) (hd : 3 ≤ d) {k10 : Int → Int → Mm → Rs} {k83 : Mm → Rs} {l1 : Int} {l2 : Int} {s0 : Int} {s1 : Int} {μ : Mm} {r : Int} {μ' : Mm} (hk_10 : ∀ (v1 v2 : Int) (μ1 : Mm), k10 v1 v2 μ1 = some (r, μ') → VV d mX11_rowText 10 [some (vR 70), some (vI v1), some (vI v2), none] [] μ1 r μ') (hk_83 : ∀ (μ1 : Mm), k83 μ1 = some (r, μ') → VV d mX11_rowText 83 [some (vR 70), none, none, none] [] μ1 r μ') (h : X11_rowText_J80 k10 k83 l1 l2 s0 s1 μ = some (r, μ')) : VV d mX11_rowText 80 [some (vR 70), some (vI l1), some (vI l2), none] [vI s0, vI s1] μ r μ' := by
  unfold X11_rowText_J80 at h
  refine V_icmpne (q := 88) (q2 := 83) dX11_rowText_80 (by decide) rfl (fun hc13 => ?_) (fun hc13 => ?_)
  · have h := ifF hc13 h
    refine V_aload_n (q := 89) dX11_rowText_88 rfl rfl rfl ?_
    refine V_aload_n (q := 90) dX11_rowText_89 rfl rfl rfl ?_
    refine V_getI (q := 93) fl_X11_220 rfl rfl rfl dX11_rowText_90 rfl ?_
    refine V_ifne (q := 101) (q2 := 96) dX11_rowText_93 (by decide) rfl (fun hc14 => ?_) (fun hc14 => ?_)
    · have h := ifF hc14 h
      exact V_weak (kX11_rowText_J101 d hd (fun _ _ _ h => hk_10 _ _ _ h) h) (sb_s rfl (sb_s rfl (sb_s rfl (sb_n sb_0))))
    · have h := ifT hc14 h
      refine V_iload_n (q := 97) dX11_rowText_96 rfl rfl rfl ?_
      refine V_iconst (q := 98) dX11_rowText_97 rfl rfl ?_
      refine V_icmpne (q := 105) (q2 := 101) dX11_rowText_98 (by decide) rfl (fun hc28 => ?_) (fun hc28 => ?_)
      · have h := ifF hc28 h
        refine V_iconst (q := 106) dX11_rowText_105 rfl rfl ?_
        exact V_weak (kX11_rowText_J106 d hd (fun _ _ _ h => hk_10 _ _ _ h) h) (sb_s rfl (sb_s rfl (sb_s rfl (sb_n sb_0))))
      · have h := ifT hc28 h
        exact V_weak (kX11_rowText_J101 d hd (fun _ _ _ h => hk_10 _ _ _ h) h) (sb_s rfl (sb_s rfl (sb_s rfl (sb_n sb_0))))
  · have h := ifT hc13 h
    exact V_weak (hk_83 _ h) (sb_s rfl (sb_n (sb_n (sb_n sb_0))))
set_option maxHeartbeats 4000000 in
set_option maxRecDepth 100000 in
theorem kX11_rowText_J58 (d : Nat) (hd : 3 ≤ d) {k10 : Int → Int → Mm → Rs} {k83 : Mm → Rs} {l1 : Int} {l2 : Int} {s0 : Int} {μ : Mm} {r : Int} {μ' : Mm} (hk_10 : ∀ (v1 v2 : Int) (μ1 : Mm), k10 v1 v2 μ1 = some (r, μ') → VV d mX11_rowText 10 [some (vR 70), some (vI v1), some (vI v2), none] [] μ1 r μ') (hk_83 : ∀ (μ1 : Mm), k83 μ1 = some (r, μ') → VV d mX11_rowText 83 [some (vR 70), none, none, none] [] μ1 r μ') (h : X11_rowText_J58 k10 k83 l1 l2 s0 μ = some (r, μ')) : VV d mX11_rowText 58 [some (vR 70), some (vI l1), some (vI l2), none] [vI s0] μ r μ' := by
  unfold X11_rowText_J58 at h
  refine V_istore_n (q := 59) dX11_rowText_58 rfl (Nat.le_of_ble_eq_true rfl) trivial rfl ?_
  refine V_iload_n (q := 60) dX11_rowText_59 rfl rfl rfl ?_
  refine V_ifne (q := 83) (q2 := 63) dX11_rowText_60 (by decide) rfl (fun hc11 => ?_) (fun hc11 => ?_)
  · have h := ifF hc11 h
    exact V_weak (hk_83 _ h) (sb_s rfl (sb_n (sb_n (sb_n sb_0))))
  · have h := ifT hc11 h
    refine V_iload_n (q := 64) dX11_rowText_63 rfl rfl rfl ?_
    refine V_aload_n (q := 65) dX11_rowText_64 rfl rfl rfl ?_
    refine V_getI (q := 68) fl_X11_231 rfl rfl rfl dX11_rowText_65 rfl ?_
    refine V_ifne (q := 76) (q2 := 71) dX11_rowText_68 (by decide) rfl (fun hc12 => ?_) (fun hc12 => ?_)
    · have h := ifF hc12 h
      refine V_aload_n (q := 77) dX11_rowText_76 rfl rfl rfl ?_
      refine V_getI (q := 80) fl_X11_234 rfl rfl rfl dX11_rowText_77 rfl ?_
      exact V_weak (kX11_rowText_J80 d hd (fun _ _ _ h => hk_10 _ _ _ h) (fun _ h => hk_83 _ h) h) (sb_s rfl (sb_s rfl (sb_s rfl (sb_n sb_0))))
    · have h := ifT hc12 h
      refine V_bipush (q := 73) dX11_rowText_71 rfl rfl rfl ?_
      refine V_goto (q := 80) dX11_rowText_73 (by decide) ?_
      exact V_weak (kX11_rowText_J80 d hd (fun _ _ _ h => hk_10 _ _ _ h) (fun _ h => hk_83 _ h) h) (sb_s rfl (sb_s rfl (sb_s rfl (sb_n sb_0))))
set_option maxHeartbeats 4000000 in
set_option maxRecDepth 100000 in
theorem kX11_rowText_J57 (d : Nat) (hd : 3 ≤ d) {k10 : Int → Int → Mm → Rs} {k83 : Mm → Rs} {l1 : Int} {l2 : Int} {μ : Mm} {r : Int} {μ' : Mm} (hk_10 : ∀ (v1 v2 : Int) (μ1 : Mm), k10 v1 v2 μ1 = some (r, μ') → VV d mX11_rowText 10 [some (vR 70), some (vI v1), some (vI v2), none] [] μ1 r μ') (hk_83 : ∀ (μ1 : Mm), k83 μ1 = some (r, μ') → VV d mX11_rowText 83 [some (vR 70), none, none, none] [] μ1 r μ') (h : X11_rowText_J57 k10 k83 l1 l2 μ = some (r, μ')) : VV d mX11_rowText 57 [some (vR 70), some (vI l1), some (vI l2), none] [] μ r μ' := by
  unfold X11_rowText_J57 at h
  refine V_iconst (q := 58) dX11_rowText_57 rfl rfl ?_
  exact V_weak (kX11_rowText_J58 d hd (fun _ _ _ h => hk_10 _ _ _ h) (fun _ h => hk_83 _ h) h) (sb_s rfl (sb_s rfl (sb_s rfl (sb_n sb_0))))
set_option maxHeartbeats 4000000 in
set_option maxRecDepth 100000 in
theorem kX11_rowText_J53 (d : Nat) (hd : 3 ≤ d) {k10 : Int → Int → Mm → Rs} {k83 : Mm → Rs} {l1 : Int} {l2 : Int} {μ : Mm} {r : Int} {μ' : Mm} (hk_10 : ∀ (v1 v2 : Int) (μ1 : Mm), k10 v1 v2 μ1 = some (r, μ') → VV d mX11_rowText 10 [some (vR 70), some (vI v1), some (vI v2), none] [] μ1 r μ') (hk_83 : ∀ (μ1 : Mm), k83 μ1 = some (r, μ') → VV d mX11_rowText 83 [some (vR 70), none, none, none] [] μ1 r μ') (h : X11_rowText_J53 k10 k83 l1 l2 μ = some (r, μ')) : VV d mX11_rowText 53 [some (vR 70), some (vI l1), some (vI l2), none] [] μ r μ' := by
  unfold X11_rowText_J53 at h
  refine V_iconst (q := 54) dX11_rowText_53 rfl rfl ?_
  refine V_goto (q := 58) dX11_rowText_54 (by decide) ?_
  exact V_weak (kX11_rowText_J58 d hd (fun _ _ _ h => hk_10 _ _ _ h) (fun _ h => hk_83 _ h) h) (sb_s rfl (sb_s rfl (sb_s rfl (sb_n sb_0))))
set_option maxHeartbeats 4000000 in
set_option maxRecDepth 100000 in
theorem kX11_rowText_J35 (d : Nat) (hd : 3 ≤ d) {k10 : Int → Int → Mm → Rs} {k83 : Mm → Rs} {l1 : Int} {l2 : Int} {μ : Mm} {r : Int} {μ' : Mm} (hk_10 : ∀ (v1 v2 : Int) (μ1 : Mm), k10 v1 v2 μ1 = some (r, μ') → VV d mX11_rowText 10 [some (vR 70), some (vI v1), some (vI v2), none] [] μ1 r μ') (hk_83 : ∀ (μ1 : Mm), k83 μ1 = some (r, μ') → VV d mX11_rowText 83 [some (vR 70), none, none, none] [] μ1 r μ') (h : X11_rowText_J35 k10 k83 l1 l2 μ = some (r, μ')) : VV d mX11_rowText 35 [some (vR 70), some (vI l1), some (vI l2), none] [] μ r μ' := by
  unfold X11_rowText_J35 at h
  refine V_iload_n (q := 36) dX11_rowText_35 rfl rfl rfl ?_
  refine V_iconst (q := 37) dX11_rowText_36 rfl rfl ?_
  refine V_icmplt (q := 57) (q2 := 40) dX11_rowText_37 (by decide) rfl (fun hc10 => ?_) (fun hc10 => ?_)
  · have h := ifT hc10 h
    exact V_weak (kX11_rowText_J57 d hd (fun _ _ _ h => hk_10 _ _ _ h) (fun _ h => hk_83 _ h) h) (sb_s rfl (sb_s rfl (sb_s rfl (sb_n sb_0))))
  · have h := ifF hc10 h
    refine V_aload_n (q := 41) dX11_rowText_40 rfl rfl rfl ?_
    refine V_getI (q := 44) fl_X11_224 rfl rfl rfl dX11_rowText_41 rfl ?_
    refine V_iload_n (q := 45) dX11_rowText_44 rfl rfl rfl ?_
    refine V_iconst (q := 46) dX11_rowText_45 rfl rfl ?_
    refine V_isub (q := 47) dX11_rowText_46 rfl ?_
    obtain ⟨v29, μ30, hc31, h⟩ := bd_i h
    refine V_cS1 (q := 50) (v := vI v29) (kX11_has (d - 1) (by omega) hc31) (by omega) mv_X11_227 rfl rfl rfl rfl dX11_rowText_47 rfl ?_
    refine V_ifeq (q := 57) (q2 := 53) dX11_rowText_50 (by decide) rfl (fun hc32 => ?_) (fun hc32 => ?_)
    · have h := ifT hc32 h
      exact V_weak (kX11_rowText_J57 d hd (fun _ _ _ h => hk_10 _ _ _ h) (fun _ h => hk_83 _ h) h) (sb_s rfl (sb_s rfl (sb_s rfl (sb_n sb_0))))
    · have h := ifF hc32 h
      exact V_weak (kX11_rowText_J53 d hd (fun _ _ _ h => hk_10 _ _ _ h) (fun _ h => hk_83 _ h) h) (sb_s rfl (sb_s rfl (sb_s rfl (sb_n sb_0))))
set_option maxHeartbeats 4000000 in
set_option maxRecDepth 100000 in
theorem kX11_rowText_L10 (d : Nat) (hd : 3 ≤ d) {k171 : Int → Mm → Rs} {k83 : Mm → Rs} {r : Int} {μ' : Mm} (hk_171 : ∀ (v1 : Int) (μ1 : Mm), k171 v1 μ1 = some (r, μ') → VV d mX11_rowText 171 [some (vR 70), some (vI v1), none, none] [] μ1 r μ') (hk_83 : ∀ (μ1 : Mm), k83 μ1 = some (r, μ') → VV d mX11_rowText 83 [some (vR 70), none, none, none] [] μ1 r μ') : ∀ (n : Nat) {l1 l2 : Int} {μ : Mm}, X11_rowText_L10 k171 k83 n l1 l2 μ = some (r, μ') → VV d mX11_rowText 10 [some (vR 70), some (vI l1), some (vI l2), none] [] μ r μ' := by
  intro n
  induction n with
  | zero => intro l1 l2 μ h; rw [X11_rowText_L10] at h; cases h
  | succ n ih =>
    intro l1 l2 μ h
    rw [X11_rowText_L10] at h
    refine V_aload_n (q := 11) dX11_rowText_10 rfl rfl rfl ?_
    refine V_getI (q := 14) fl_X11_115 rfl rfl rfl dX11_rowText_11 rfl ?_
    refine V_iconst (q := 15) dX11_rowText_14 rfl rfl ?_
    refine V_icmpne (q := 171) (q2 := 18) dX11_rowText_15 (by decide) rfl (fun hc7 => ?_) (fun hc7 => ?_)
    · have h := ifF hc7 h
      exact V_weak (hk_171 _ _ h) (sb_s rfl (sb_s rfl (sb_n (sb_n sb_0))))
    · have h := ifT hc7 h
      refine V_iload_n (q := 19) dX11_rowText_18 rfl rfl rfl ?_
      refine V_iconst (q := 20) dX11_rowText_19 rfl rfl ?_
      refine V_icmpeq (q := 171) (q2 := 23) dX11_rowText_20 (by decide) rfl (fun hc8 => ?_) (fun hc8 => ?_)
      · have h := ifT hc8 h
        exact V_weak (hk_171 _ _ h) (sb_s rfl (sb_s rfl (sb_n (sb_n sb_0))))
      · have h := ifF hc8 h
        refine V_iload_n (q := 24) dX11_rowText_23 rfl rfl rfl ?_
        refine V_iconst (q := 25) dX11_rowText_24 rfl rfl ?_
        refine V_icmpne (q := 35) (q2 := 28) dX11_rowText_25 (by decide) rfl (fun hc9 => ?_) (fun hc9 => ?_)
        · have h := ifF hc9 h
          exact V_weak (kX11_rowText_J35 d hd (fun _ _ _ h => ih h) (fun _ h => hk_83 _ h) h) (sb_s rfl (sb_s rfl (sb_s rfl (sb_n sb_0))))
        · have h := ifT hc9 h
          refine V_aload_n (q := 29) dX11_rowText_28 rfl rfl rfl ?_
          refine V_getI (q := 32) fl_X11_220 rfl rfl rfl dX11_rowText_29 rfl ?_
          refine V_ifne (q := 53) (q2 := 35) dX11_rowText_32 (by decide) rfl (fun hc33 => ?_) (fun hc33 => ?_)
          · have h := ifF hc33 h
            exact V_weak (kX11_rowText_J53 d hd (fun _ _ _ h => ih h) (fun _ h => hk_83 _ h) h) (sb_s rfl (sb_s rfl (sb_s rfl (sb_n sb_0))))
          · have h := ifT hc33 h
            exact V_weak (kX11_rowText_J35 d hd (fun _ _ _ h => ih h) (fun _ h => hk_83 _ h) h) (sb_s rfl (sb_s rfl (sb_s rfl (sb_n sb_0))))
set_option maxHeartbeats 4000000 in
set_option maxRecDepth 100000 in
theorem kX11_rowText_J198 (d : Nat) (hd : 3 ≤ d) {l1 : Int} {μ : Mm} {r : Int} {μ' : Mm} (h : X11_rowText_J198 l1 μ = some (r, μ')) : VV d mX11_rowText 198 [some (vR 70), some (vI l1), none, none] [] μ r μ' := by
  unfold X11_rowText_J198 at h
  refine V_aload_n (q := 199) dX11_rowText_198 rfl rfl rfl ?_
  refine V_aload_n (q := 200) dX11_rowText_199 rfl rfl rfl ?_
  refine V_getI (q := 203) fl_X11_231 rfl rfl rfl dX11_rowText_200 rfl ?_
  refine V_ifne (q := 210) (q2 := 206) dX11_rowText_203 (by decide) rfl (fun hc38 => ?_) (fun hc38 => ?_)
  · have h := ifF hc38 h
    refine V_aload_n (q := 211) dX11_rowText_210 rfl rfl rfl ?_
    refine V_getI (q := 214) fl_X11_234 rfl rfl rfl dX11_rowText_211 rfl ?_
    have h := sF_i h
    refine V_putI (q := 217) fl_X11_234 rfl rfl rfl dX11_rowText_214 rfl ?_
    refine V_aload_n (q := 218) dX11_rowText_217 rfl rfl rfl ?_
    refine V_dup (q := 219) dX11_rowText_218 trivial rfl ?_
    refine V_getI (q := 222) fl_X11_231 rfl rfl rfl dX11_rowText_219 rfl ?_
    refine V_iconst (q := 223) dX11_rowText_222 rfl rfl ?_
    refine V_iadd (q := 224) dX11_rowText_223 rfl ?_
    have h := sF_i h
    refine V_putI (q := 227) fl_X11_231 rfl rfl rfl dX11_rowText_224 rfl ?_
    exact V_vret rfl h dX11_rowText_227
  · have h := ifT hc38 h
    refine V_iload_n (q := 207) dX11_rowText_206 rfl rfl rfl ?_
    refine V_goto (q := 214) dX11_rowText_207 (by decide) ?_
    have h := sF_i h
    refine V_putI (q := 217) fl_X11_234 rfl rfl rfl dX11_rowText_214 rfl ?_
    refine V_aload_n (q := 218) dX11_rowText_217 rfl rfl rfl ?_
    refine V_dup (q := 219) dX11_rowText_218 trivial rfl ?_
    refine V_getI (q := 222) fl_X11_231 rfl rfl rfl dX11_rowText_219 rfl ?_
    refine V_iconst (q := 223) dX11_rowText_222 rfl rfl ?_
    refine V_iadd (q := 224) dX11_rowText_223 rfl ?_
    have h := sF_i h
    refine V_putI (q := 227) fl_X11_231 rfl rfl rfl dX11_rowText_224 rfl ?_
    exact V_vret rfl h dX11_rowText_227
set_option maxHeartbeats 4000000 in
set_option maxRecDepth 100000 in
theorem kX11_rowText_J194 (d : Nat) (hd : 3 ≤ d) {l1 : Int} {μ : Mm} {r : Int} {μ' : Mm} (h : X11_rowText_J194 l1 μ = some (r, μ')) : VV d mX11_rowText 194 [some (vR 70), some (vI l1), none, none] [] μ r μ' := by
  unfold X11_rowText_J194 at h
  refine V_aload_n (q := 195) dX11_rowText_194 rfl rfl rfl ?_
  obtain ⟨v43, μ44, hc45, h⟩ := bd_i h
  refine V_cV0 (q := 198) (kX11_bad (d - 1) (by omega) hc45) (by omega) mv_X11_124 rfl rfl rfl rfl rfl rfl dX11_rowText_195 rfl ?_
  exact V_weak (kX11_rowText_J198 d hd h) (sb_s rfl (sb_s rfl (sb_n (sb_n sb_0))))
set_option maxHeartbeats 4000000 in
set_option maxRecDepth 100000 in
theorem kX11_rowText_J171 (d : Nat) (hd : 3 ≤ d) {l1 : Int} {μ : Mm} {r : Int} {μ' : Mm} (h : X11_rowText_J171 l1 μ = some (r, μ')) : VV d mX11_rowText 171 [some (vR 70), some (vI l1), none, none] [] μ r μ' := by
  unfold X11_rowText_J171 at h
  refine V_aload_n (q := 172) dX11_rowText_171 rfl rfl rfl ?_
  refine V_getI (q := 175) fl_X11_231 rfl rfl rfl dX11_rowText_172 rfl ?_
  refine V_ifne (q := 186) (q2 := 178) dX11_rowText_175 (by decide) rfl (fun hc36 => ?_) (fun hc36 => ?_)
  · have h := ifF hc36 h
    refine V_iload_n (q := 187) dX11_rowText_186 rfl rfl rfl ?_
    refine V_aload_n (q := 188) dX11_rowText_187 rfl rfl rfl ?_
    refine V_getI (q := 191) fl_X11_234 rfl rfl rfl dX11_rowText_188 rfl ?_
    refine V_icmpge (q := 198) (q2 := 194) dX11_rowText_191 (by decide) rfl (fun hc37 => ?_) (fun hc37 => ?_)
    · have h := ifT hc37 h
      exact V_weak (kX11_rowText_J198 d hd h) (sb_s rfl (sb_s rfl (sb_n (sb_n sb_0))))
    · have h := ifF hc37 h
      exact V_weak (kX11_rowText_J194 d hd h) (sb_s rfl (sb_s rfl (sb_n (sb_n sb_0))))
  · have h := ifT hc36 h
    refine V_iload_n (q := 179) dX11_rowText_178 rfl rfl rfl ?_
    refine V_iconst (q := 180) dX11_rowText_179 rfl rfl ?_
    refine V_icmpge (q := 198) (q2 := 183) dX11_rowText_180 (by decide) rfl (fun hc46 => ?_) (fun hc46 => ?_)
    · have h := ifT hc46 h
      exact V_weak (kX11_rowText_J198 d hd h) (sb_s rfl (sb_s rfl (sb_n (sb_n sb_0))))
    · have h := ifF hc46 h
      refine V_goto (q := 194) dX11_rowText_183 (by decide) ?_
      exact V_weak (kX11_rowText_J194 d hd h) (sb_s rfl (sb_s rfl (sb_n (sb_n sb_0))))
set_option maxHeartbeats 4000000 in
set_option maxRecDepth 100000 in
theorem kX11_rowText (d : Nat) (hd : 3 ≤ d) {μ : Mm} {r : Int} {μ' : Mm} (h : X11_rowText μ = some (r, μ')) : CC d mX11_rowText [vR 70] μ r μ' := by
  unfold X11_rowText at h
  refine V_enter (by decide) (Nat.le_of_ble_eq_true rfl) ?_
  show VV d mX11_rowText 0 [some (vR 70), none, none, none] [] μ r μ'
  refine V_iconst (q := 1) dX11_rowText_0 rfl rfl ?_
  refine V_istore_n (q := 2) dX11_rowText_1 rfl (Nat.le_of_ble_eq_true rfl) trivial rfl ?_
  refine V_aload_n (q := 3) dX11_rowText_2 rfl rfl rfl ?_
  obtain ⟨v1, μ2, hc3, h⟩ := bd_i h
  refine V_cV1 (q := 6) (v := vI v1) (kX11_look (d - 1) (by omega) hc3) (by omega) mv_X11_127 rfl rfl rfl rfl rfl rfl dX11_rowText_3 rfl ?_
  obtain ⟨v4, μ5, hc6, h⟩ := bd_i h
  refine V_cS1 (q := 9) (v := vI v4) (kX11_signOf (d - 1) (by omega) hc6) (by omega) mv_X11_217 rfl rfl rfl rfl dX11_rowText_6 rfl ?_
  refine V_istore_n (q := 10) dX11_rowText_9 rfl (Nat.le_of_ble_eq_true rfl) trivial rfl ?_
  refine V_weak (kX11_rowText_L10 d hd (fun v34 μ35 h => ?_) (fun μ47 h => ?_) FU h) (sb_s rfl (sb_s rfl (sb_s rfl (sb_n sb_0))))
  · exact V_weak (kX11_rowText_J171 d hd h) (sb_s rfl (sb_s rfl (sb_n (sb_n sb_0))))
  · refine V_aload_n (q := 84) dX11_rowText_83 rfl rfl rfl ?_
    obtain ⟨v48, μ49, hc50, h⟩ := bd_i h
    refine V_cV0 (q := 87) (kX11_bad (d - 1) (by omega) hc50) (by omega) mv_X11_124 rfl rfl rfl rfl rfl rfl dX11_rowText_84 rfl ?_
    exact V_vret rfl h dX11_rowText_87
