abbrev mX0_clear : Mth := (yX0_clear, cX0_clear, 2, none)
set_option maxRecDepth 100000 in
theorem mi_X0_clear : Cond.instanceMethod yX0_clear ∈ tG ∧ Cond.selects yX0_clear.cls yX0_clear yX0_clear ∈ tG ∧ Cond.initialized yX0_clear.cls ∈ tG ∧ Cond.code yX0_clear cX0_clear 2 (none) ∈ tG ∧ (yX0_clear.cls ≠ "java/lang/invoke/MethodHandle" ∧ yX0_clear.cls ≠ "java/lang/invoke/VarHandle" ∧ (parseMethodDescriptor yX0_clear.desc).map (fun d => d.parameters.length) = some 0) ∧ 2 ≤ 60 := ⟨(tG_of (tb1 (List.mem_of_getElem? (i := 99) rfl)) (by decide +kernel)), (tG_of (tb1 (List.mem_of_getElem? (i := 100) rfl)) (by decide +kernel)), (tG_of (tb1 (List.mem_of_getElem? (i := 5) rfl)) (by decide +kernel)), (tG_of (tb1 (List.mem_of_getElem? (i := 101) rfl)) (by decide +kernel)), ⟨by decide, by decide, by decide +kernel⟩, by decide⟩
set_option maxRecDepth 100000 in
theorem mv_X10_150 : mV RX10 150 mX0_clear 0 := ⟨(tG_of (tb3 (List.mem_of_getElem? (i := 82) rfl)) (by decide +kernel)), mi_X0_clear⟩
set_option maxRecDepth 100000 in
theorem mv_X0_21 : mV RX0 21 mX0_clear 0 := ⟨(tG_of (tb1 (List.mem_of_getElem? (i := 98) rfl)) (by decide +kernel)), mi_X0_clear⟩
theorem dX0_clear_0 : decode cX0_clear 0 = .ok (.iconst 0, 1) := dc_3 (byA eNcX0_clear (p := 0) (v := 3) (by decide +kernel))
theorem dX0_clear_1 : decode cX0_clear 1 = .ok (.istore_n 1, 1) := dc_60 (byA eNcX0_clear (p := 1) (v := 60) (by decide +kernel))
theorem dX0_clear_2 : decode cX0_clear 2 = .ok (.iload_n 1, 1) := dc_27 (byA eNcX0_clear (p := 2) (v := 27) (by decide +kernel))
theorem dX0_clear_3 : decode cX0_clear 3 = .ok (.bipush 60, 2) := dc_16 (byA eNcX0_clear (p := 3) (v := 16) (by decide +kernel)) (byA eNcX0_clear (p := 4) (v := 60) (by decide +kernel)) (by decide +kernel)
theorem dX0_clear_5 : decode cX0_clear 5 = .ok (.if_icmp .ge 16, 3) := dc_162 (byA eNcX0_clear (p := 5) (v := 162) (by decide +kernel)) (byA eNcX0_clear (p := 6) (v := 0) (by decide +kernel)) (byA eNcX0_clear (p := 7) (v := 16) (by decide +kernel)) (by decide +kernel)
theorem dX0_clear_8 : decode cX0_clear 8 = .ok (.aload_n 0, 1) := dc_42 (byA eNcX0_clear (p := 8) (v := 42) (by decide +kernel))
theorem dX0_clear_9 : decode cX0_clear 9 = .ok (.getfield 9, 3) := dc_180 (byA eNcX0_clear (p := 9) (v := 180) (by decide +kernel)) (byA eNcX0_clear (p := 10) (v := 0) (by decide +kernel)) (byA eNcX0_clear (p := 11) (v := 9) (by decide +kernel)) rfl
theorem dX0_clear_12 : decode cX0_clear 12 = .ok (.iload_n 1, 1) := dc_27 (byA eNcX0_clear (p := 12) (v := 27) (by decide +kernel))
theorem dX0_clear_13 : decode cX0_clear 13 = .ok (.iconst (-1), 1) := dc_2 (byA eNcX0_clear (p := 13) (v := 2) (by decide +kernel))
theorem dX0_clear_14 : decode cX0_clear 14 = .ok (.iastore, 1) := dc_79 (byA eNcX0_clear (p := 14) (v := 79) (by decide +kernel))
theorem dX0_clear_15 : decode cX0_clear 15 = .ok (.iinc 1 1, 3) := dc_132 (byA eNcX0_clear (p := 15) (v := 132) (by decide +kernel)) (byA eNcX0_clear (p := 16) (v := 1) (by decide +kernel)) (byA eNcX0_clear (p := 17) (v := 1) (by decide +kernel)) (by decide +kernel)
theorem dX0_clear_18 : decode cX0_clear 18 = .ok (.goto (-16), 3) := dc_167 (byA eNcX0_clear (p := 18) (v := 167) (by decide +kernel)) (byA eNcX0_clear (p := 19) (v := 255) (by decide +kernel)) (byA eNcX0_clear (p := 20) (v := 240) (by decide +kernel)) (by decide +kernel)
theorem dX0_clear_21 : decode cX0_clear 21 = .ok (.iconst 0, 1) := dc_3 (byA eNcX0_clear (p := 21) (v := 3) (by decide +kernel))
theorem dX0_clear_22 : decode cX0_clear 22 = .ok (.istore_n 1, 1) := dc_60 (byA eNcX0_clear (p := 22) (v := 60) (by decide +kernel))
theorem dX0_clear_23 : decode cX0_clear 23 = .ok (.iload_n 1, 1) := dc_27 (byA eNcX0_clear (p := 23) (v := 27) (by decide +kernel))
theorem dX0_clear_24 : decode cX0_clear 24 = .ok (.bipush 8, 2) := dc_16 (byA eNcX0_clear (p := 24) (v := 16) (by decide +kernel)) (byA eNcX0_clear (p := 25) (v := 8) (by decide +kernel)) (by decide +kernel)
theorem dX0_clear_26 : decode cX0_clear 26 = .ok (.if_icmp .ge 23, 3) := dc_162 (byA eNcX0_clear (p := 26) (v := 162) (by decide +kernel)) (byA eNcX0_clear (p := 27) (v := 0) (by decide +kernel)) (byA eNcX0_clear (p := 28) (v := 23) (by decide +kernel)) (by decide +kernel)
theorem dX0_clear_29 : decode cX0_clear 29 = .ok (.aload_n 0, 1) := dc_42 (byA eNcX0_clear (p := 29) (v := 42) (by decide +kernel))
theorem dX0_clear_30 : decode cX0_clear 30 = .ok (.getfield 15, 3) := dc_180 (byA eNcX0_clear (p := 30) (v := 180) (by decide +kernel)) (byA eNcX0_clear (p := 31) (v := 0) (by decide +kernel)) (byA eNcX0_clear (p := 32) (v := 15) (by decide +kernel)) rfl
theorem dX0_clear_33 : decode cX0_clear 33 = .ok (.iload_n 1, 1) := dc_27 (byA eNcX0_clear (p := 33) (v := 27) (by decide +kernel))
theorem dX0_clear_34 : decode cX0_clear 34 = .ok (.iconst (-1), 1) := dc_2 (byA eNcX0_clear (p := 34) (v := 2) (by decide +kernel))
theorem dX0_clear_35 : decode cX0_clear 35 = .ok (.iastore, 1) := dc_79 (byA eNcX0_clear (p := 35) (v := 79) (by decide +kernel))
theorem dX0_clear_36 : decode cX0_clear 36 = .ok (.aload_n 0, 1) := dc_42 (byA eNcX0_clear (p := 36) (v := 42) (by decide +kernel))
theorem dX0_clear_37 : decode cX0_clear 37 = .ok (.getfield 18, 3) := dc_180 (byA eNcX0_clear (p := 37) (v := 180) (by decide +kernel)) (byA eNcX0_clear (p := 38) (v := 0) (by decide +kernel)) (byA eNcX0_clear (p := 39) (v := 18) (by decide +kernel)) rfl
theorem dX0_clear_40 : decode cX0_clear 40 = .ok (.iload_n 1, 1) := dc_27 (byA eNcX0_clear (p := 40) (v := 27) (by decide +kernel))
theorem dX0_clear_41 : decode cX0_clear 41 = .ok (.iconst 3, 1) := dc_6 (byA eNcX0_clear (p := 41) (v := 6) (by decide +kernel))
theorem dX0_clear_42 : decode cX0_clear 42 = .ok (.iastore, 1) := dc_79 (byA eNcX0_clear (p := 42) (v := 79) (by decide +kernel))
theorem dX0_clear_43 : decode cX0_clear 43 = .ok (.iinc 1 1, 3) := dc_132 (byA eNcX0_clear (p := 43) (v := 132) (by decide +kernel)) (byA eNcX0_clear (p := 44) (v := 1) (by decide +kernel)) (byA eNcX0_clear (p := 45) (v := 1) (by decide +kernel)) (by decide +kernel)
theorem dX0_clear_46 : decode cX0_clear 46 = .ok (.goto (-23), 3) := dc_167 (byA eNcX0_clear (p := 46) (v := 167) (by decide +kernel)) (byA eNcX0_clear (p := 47) (v := 255) (by decide +kernel)) (byA eNcX0_clear (p := 48) (v := 233) (by decide +kernel)) (by decide +kernel)
theorem dX0_clear_49 : decode cX0_clear 49 = .ok (.aload_n 0, 1) := dc_42 (byA eNcX0_clear (p := 49) (v := 42) (by decide +kernel))
theorem dX0_clear_50 : decode cX0_clear 50 = .ok (.iconst (-1), 1) := dc_2 (byA eNcX0_clear (p := 50) (v := 2) (by decide +kernel))
theorem dX0_clear_51 : decode cX0_clear 51 = .ok (.putfield 24, 3) := dc_181 (byA eNcX0_clear (p := 51) (v := 181) (by decide +kernel)) (byA eNcX0_clear (p := 52) (v := 0) (by decide +kernel)) (byA eNcX0_clear (p := 53) (v := 24) (by decide +kernel)) rfl
theorem dX0_clear_54 : decode cX0_clear 54 = .ok (.aload_n 0, 1) := dc_42 (byA eNcX0_clear (p := 54) (v := 42) (by decide +kernel))
theorem dX0_clear_55 : decode cX0_clear 55 = .ok (.iconst 0, 1) := dc_3 (byA eNcX0_clear (p := 55) (v := 3) (by decide +kernel))
theorem dX0_clear_56 : decode cX0_clear 56 = .ok (.putfield 28, 3) := dc_181 (byA eNcX0_clear (p := 56) (v := 181) (by decide +kernel)) (byA eNcX0_clear (p := 57) (v := 0) (by decide +kernel)) (byA eNcX0_clear (p := 58) (v := 28) (by decide +kernel)) rfl
theorem dX0_clear_59 : decode cX0_clear 59 = .ok (.aload_n 0, 1) := dc_42 (byA eNcX0_clear (p := 59) (v := 42) (by decide +kernel))
theorem dX0_clear_60 : decode cX0_clear 60 = .ok (.iconst 0, 1) := dc_3 (byA eNcX0_clear (p := 60) (v := 3) (by decide +kernel))
theorem dX0_clear_61 : decode cX0_clear 61 = .ok (.putfield 31, 3) := dc_181 (byA eNcX0_clear (p := 61) (v := 181) (by decide +kernel)) (byA eNcX0_clear (p := 62) (v := 0) (by decide +kernel)) (byA eNcX0_clear (p := 63) (v := 31) (by decide +kernel)) rfl
theorem dX0_clear_64 : decode cX0_clear 64 = .ok (.aload_n 0, 1) := dc_42 (byA eNcX0_clear (p := 64) (v := 42) (by decide +kernel))
theorem dX0_clear_65 : decode cX0_clear 65 = .ok (.iconst 0, 1) := dc_3 (byA eNcX0_clear (p := 65) (v := 3) (by decide +kernel))
theorem dX0_clear_66 : decode cX0_clear 66 = .ok (.putfield 34, 3) := dc_181 (byA eNcX0_clear (p := 66) (v := 181) (by decide +kernel)) (byA eNcX0_clear (p := 67) (v := 0) (by decide +kernel)) (byA eNcX0_clear (p := 68) (v := 34) (by decide +kernel)) rfl
theorem dX0_clear_69 : decode cX0_clear 69 = .ok (.aload_n 0, 1) := dc_42 (byA eNcX0_clear (p := 69) (v := 42) (by decide +kernel))
theorem dX0_clear_70 : decode cX0_clear 70 = .ok (.iconst 1, 1) := dc_4 (byA eNcX0_clear (p := 70) (v := 4) (by decide +kernel))
theorem dX0_clear_71 : decode cX0_clear 71 = .ok (.putfield 37, 3) := dc_181 (byA eNcX0_clear (p := 71) (v := 181) (by decide +kernel)) (byA eNcX0_clear (p := 72) (v := 0) (by decide +kernel)) (byA eNcX0_clear (p := 73) (v := 37) (by decide +kernel)) rfl
theorem dX0_clear_74 : decode cX0_clear 74 = .ok (.return_, 1) := dc_177 (byA eNcX0_clear (p := 74) (v := 177) (by decide +kernel))
def X0_clear_L2 (l0 : Nat) (k21 : Mm → Rs) : Nat → Int → Mm → Rs
  | 0, _, _ => none
  | n + 1, l1, μ => if 60 ≤ l1 then (k21 μ) else (stA μ (l0 + 1) l1 (-1) fun μ2 => X0_clear_L2 l0 k21 n (iA l1 1) μ2)
def X0_clear_L23 (l0 : Nat) (k49 : Mm → Rs) : Nat → Int → Mm → Rs
  | 0, _, _ => none
  | n + 1, l1, μ => if 8 ≤ l1 then (k49 μ) else (stA μ (l0 + 2) l1 (-1) fun μ6 => stA μ6 (l0 + 3) l1 3 fun μ8 => X0_clear_L23 l0 k49 n (iA l1 1) μ8)
def X0_clear (l0 : Nat) (μ : Mm) : Rs := X0_clear_L2 l0 (fun μ4 => X0_clear_L23 l0 (fun μ10 => sF μ10 l0 3 (-1) fun μ11 => sF μ11 l0 4 0 fun μ12 => sF μ12 l0 5 0 fun μ13 => sF μ13 l0 6 0 fun μ14 => sF μ14 l0 7 1 fun μ15 => some (0, μ15)) FU 0 μ4) FU 0 μ
set_option maxHeartbeats 4000000 in
set_option maxRecDepth 100000 in
theorem kX0_clear_L2 (d : Nat) (hd : 1 ≤ d) {l0 : Nat} (hk0 : kD l0 = (10, 9)) {k21 : Mm → Rs} {r : Int} {μ' : Mm} (hk_21 : ∀ (μ1 : Mm), k21 μ1 = some (r, μ') → VV d mX0_clear 21 [some (vR l0), none] [] μ1 r μ') : ∀ (n : Nat) {l1 : Int} {μ : Mm}, X0_clear_L2 l0 k21 n l1 μ = some (r, μ') → VV d mX0_clear 2 [some (vR l0), some (vI l1)] [] μ r μ' := by
  intro n
  induction n with
  | zero => intro l1 μ h; rw [X0_clear_L2] at h; cases h
  | succ n ih =>
    intro l1 μ h
    rw [X0_clear_L2] at h
    refine V_iload_n (q := 3) dX0_clear_2 rfl rfl rfl ?_
    refine V_bipush (q := 5) dX0_clear_3 rfl rfl rfl ?_
    refine V_icmpge (q := 21) (q2 := 8) dX0_clear_5 (by decide) rfl (fun hc1 => ?_) (fun hc1 => ?_)
    · have h := ifT hc1 h
      exact V_weak (hk_21 _ h) (sb_s rfl (sb_n sb_0))
    · have h := ifF hc1 h
      refine V_aload_n (q := 9) dX0_clear_8 rfl rfl rfl ?_
      refine V_getO (q := 12) (t := _) fl_X0_9 hk0 rfl rfl rfl dX0_clear_9 rfl ?_
      refine V_iload_n (q := 13) dX0_clear_12 rfl rfl rfl ?_
      refine V_iconst (q := 14) dX0_clear_13 rfl rfl ?_
      obtain ⟨hi3, h⟩ := stA_i h
      refine V_iastore (q := 15) (kdo_0_0 hk0) hi3 dX0_clear_14 rfl ?_
      refine V_iinc (q := 18) dX0_clear_15 rfl (Nat.le_of_ble_eq_true rfl) trivial rfl ?_
      refine V_goto (q := 2) dX0_clear_18 (by decide) ?_
      exact V_weak (ih h) (sb_s rfl (sb_s rfl sb_0))
set_option maxHeartbeats 4000000 in
set_option maxRecDepth 100000 in
theorem kX0_clear_L23 (d : Nat) (hd : 1 ≤ d) {l0 : Nat} (hk0 : kD l0 = (10, 9)) {k49 : Mm → Rs} {r : Int} {μ' : Mm} (hk_49 : ∀ (μ1 : Mm), k49 μ1 = some (r, μ') → VV d mX0_clear 49 [some (vR l0), none] [] μ1 r μ') : ∀ (n : Nat) {l1 : Int} {μ : Mm}, X0_clear_L23 l0 k49 n l1 μ = some (r, μ') → VV d mX0_clear 23 [some (vR l0), some (vI l1)] [] μ r μ' := by
  intro n
  induction n with
  | zero => intro l1 μ h; rw [X0_clear_L23] at h; cases h
  | succ n ih =>
    intro l1 μ h
    rw [X0_clear_L23] at h
    refine V_iload_n (q := 24) dX0_clear_23 rfl rfl rfl ?_
    refine V_bipush (q := 26) dX0_clear_24 rfl rfl rfl ?_
    refine V_icmpge (q := 49) (q2 := 29) dX0_clear_26 (by decide) rfl (fun hc5 => ?_) (fun hc5 => ?_)
    · have h := ifT hc5 h
      exact V_weak (hk_49 _ h) (sb_s rfl (sb_n sb_0))
    · have h := ifF hc5 h
      refine V_aload_n (q := 30) dX0_clear_29 rfl rfl rfl ?_
      refine V_getO (q := 33) (t := _) fl_X0_15 hk0 rfl rfl rfl dX0_clear_30 rfl ?_
      refine V_iload_n (q := 34) dX0_clear_33 rfl rfl rfl ?_
      refine V_iconst (q := 35) dX0_clear_34 rfl rfl ?_
      obtain ⟨hi7, h⟩ := stA_i h
      refine V_iastore (q := 36) (kdo_0_1 hk0) hi7 dX0_clear_35 rfl ?_
      refine V_aload_n (q := 37) dX0_clear_36 rfl rfl rfl ?_
      refine V_getO (q := 40) (t := _) fl_X0_18 hk0 rfl rfl rfl dX0_clear_37 rfl ?_
      refine V_iload_n (q := 41) dX0_clear_40 rfl rfl rfl ?_
      refine V_iconst (q := 42) dX0_clear_41 rfl rfl ?_
      obtain ⟨hi9, h⟩ := stA_i h
      refine V_iastore (q := 43) (kdo_0_2 hk0) hi9 dX0_clear_42 rfl ?_
      refine V_iinc (q := 46) dX0_clear_43 rfl (Nat.le_of_ble_eq_true rfl) trivial rfl ?_
      refine V_goto (q := 23) dX0_clear_46 (by decide) ?_
      exact V_weak (ih h) (sb_s rfl (sb_s rfl sb_0))
set_option maxHeartbeats 4000000 in
set_option maxRecDepth 100000 in
theorem kX0_clear (d : Nat) (hd : 1 ≤ d) {l0 : Nat} (hk0 : kD l0 = (10, 9)) {μ : Mm} {r : Int} {μ' : Mm} (h : X0_clear l0 μ = some (r, μ')) : CC d mX0_clear [vR l0] μ r μ' := by
  unfold X0_clear at h
  refine V_enter (by decide) (Nat.le_of_ble_eq_true rfl) ?_
  show VV d mX0_clear 0 [some (vR l0), none] [] μ r μ'
  refine V_iconst (q := 1) dX0_clear_0 rfl rfl ?_
  refine V_istore_n (q := 2) dX0_clear_1 rfl (Nat.le_of_ble_eq_true rfl) trivial rfl ?_
  refine V_weak (kX0_clear_L2 d hd hk0 (fun μ4 h => ?_) FU h) (sb_s rfl (sb_s rfl sb_0))
  refine V_iconst (q := 22) dX0_clear_21 rfl rfl ?_
  refine V_istore_n (q := 23) dX0_clear_22 rfl (Nat.le_of_ble_eq_true rfl) trivial rfl ?_
  refine V_weak (kX0_clear_L23 d hd hk0 (fun μ10 h => ?_) FU h) (sb_s rfl (sb_s rfl sb_0))
  refine V_aload_n (q := 50) dX0_clear_49 rfl rfl rfl ?_
  refine V_iconst (q := 51) dX0_clear_50 rfl rfl ?_
  have h := sF_i h
  refine V_putI (q := 54) fl_X0_24 hk0 rfl rfl dX0_clear_51 rfl ?_
  refine V_aload_n (q := 55) dX0_clear_54 rfl rfl rfl ?_
  refine V_iconst (q := 56) dX0_clear_55 rfl rfl ?_
  have h := sF_i h
  refine V_putI (q := 59) fl_X0_28 hk0 rfl rfl dX0_clear_56 rfl ?_
  refine V_aload_n (q := 60) dX0_clear_59 rfl rfl rfl ?_
  refine V_iconst (q := 61) dX0_clear_60 rfl rfl ?_
  have h := sF_i h
  refine V_putI (q := 64) fl_X0_31 hk0 rfl rfl dX0_clear_61 rfl ?_
  refine V_aload_n (q := 65) dX0_clear_64 rfl rfl rfl ?_
  refine V_iconst (q := 66) dX0_clear_65 rfl rfl ?_
  have h := sF_i h
  refine V_putI (q := 69) fl_X0_34 hk0 rfl rfl dX0_clear_66 rfl ?_
  refine V_aload_n (q := 70) dX0_clear_69 rfl rfl rfl ?_
  refine V_iconst (q := 71) dX0_clear_70 rfl rfl ?_
  have h := sF_i h
  refine V_putI (q := 74) fl_X0_37 hk0 rfl rfl dX0_clear_71 rfl ?_
  exact V_vret rfl h dX0_clear_74
abbrev mX0_stands : Mth := (yX0_stands, cX0_stands, 1, some .boolean)
set_option maxRecDepth 100000 in
theorem mi_X0_stands : Cond.instanceMethod yX0_stands ∈ tG ∧ Cond.selects yX0_stands.cls yX0_stands yX0_stands ∈ tG ∧ Cond.initialized yX0_stands.cls ∈ tG ∧ Cond.code yX0_stands cX0_stands 1 (some .boolean) ∈ tG ∧ (yX0_stands.cls ≠ "java/lang/invoke/MethodHandle" ∧ yX0_stands.cls ≠ "java/lang/invoke/VarHandle" ∧ (parseMethodDescriptor yX0_stands.desc).map (fun d => d.parameters.length) = some 0) ∧ 1 ≤ 60 := ⟨(tG_of (tb3 (List.mem_of_getElem? (i := 136) rfl)) (by decide +kernel)), (tG_of (tb3 (List.mem_of_getElem? (i := 137) rfl)) (by decide +kernel)), (tG_of (tb1 (List.mem_of_getElem? (i := 5) rfl)) (by decide +kernel)), (tG_of (tb3 (List.mem_of_getElem? (i := 138) rfl)) (by decide +kernel)), ⟨by decide, by decide, by decide +kernel⟩, by decide⟩
set_option maxRecDepth 100000 in
theorem mv_X10_204 : mV RX10 204 mX0_stands 0 := ⟨(tG_of (tb3 (List.mem_of_getElem? (i := 172) rfl)) (by decide +kernel)), mi_X0_stands⟩
set_option maxRecDepth 100000 in
theorem mv_X0_90 : mV RX0 90 mX0_stands 0 := ⟨(tG_of (tb3 (List.mem_of_getElem? (i := 135) rfl)) (by decide +kernel)), mi_X0_stands⟩
theorem dX0_stands_0 : decode cX0_stands 0 = .ok (.aload_n 0, 1) := dc_42 (byA eNcX0_stands (p := 0) (v := 42) (by decide +kernel))
theorem dX0_stands_1 : decode cX0_stands 1 = .ok (.getfield 28, 3) := dc_180 (byA eNcX0_stands (p := 1) (v := 180) (by decide +kernel)) (byA eNcX0_stands (p := 2) (v := 0) (by decide +kernel)) (byA eNcX0_stands (p := 3) (v := 28) (by decide +kernel)) rfl
theorem dX0_stands_4 : decode cX0_stands 4 = .ok (.ifCond .le 7, 3) := dc_158 (byA eNcX0_stands (p := 4) (v := 158) (by decide +kernel)) (byA eNcX0_stands (p := 5) (v := 0) (by decide +kernel)) (byA eNcX0_stands (p := 6) (v := 7) (by decide +kernel)) (by decide +kernel)
theorem dX0_stands_7 : decode cX0_stands 7 = .ok (.iconst 1, 1) := dc_4 (byA eNcX0_stands (p := 7) (v := 4) (by decide +kernel))
theorem dX0_stands_8 : decode cX0_stands 8 = .ok (.goto 4, 3) := dc_167 (byA eNcX0_stands (p := 8) (v := 167) (by decide +kernel)) (byA eNcX0_stands (p := 9) (v := 0) (by decide +kernel)) (byA eNcX0_stands (p := 10) (v := 4) (by decide +kernel)) (by decide +kernel)
theorem dX0_stands_11 : decode cX0_stands 11 = .ok (.iconst 0, 1) := dc_3 (byA eNcX0_stands (p := 11) (v := 3) (by decide +kernel))
theorem dX0_stands_12 : decode cX0_stands 12 = .ok (.ireturn, 1) := dc_172 (byA eNcX0_stands (p := 12) (v := 172) (by decide +kernel))
def X0_stands (l0 : Nat) (μ : Mm) : Rs := if (μ l0 4) ≤ 0 then (some (0, μ)) else (some (1, μ))
set_option maxHeartbeats 4000000 in
set_option maxRecDepth 100000 in
theorem kX0_stands (d : Nat) (hd : 1 ≤ d) {l0 : Nat} (hk0 : kD l0 = (10, 9)) {μ : Mm} {r : Int} {μ' : Mm} (h : X0_stands l0 μ = some (r, μ')) : CC d mX0_stands [vR l0] μ r μ' := by
  unfold X0_stands at h
  refine V_enter (by decide) (Nat.le_of_ble_eq_true rfl) ?_
  show VV d mX0_stands 0 [some (vR l0)] [] μ r μ'
  refine V_aload_n (q := 1) dX0_stands_0 rfl rfl rfl ?_
  refine V_getI (q := 4) fl_X0_28 hk0 rfl rfl dX0_stands_1 rfl ?_
  refine V_ifle (q := 11) (q2 := 7) dX0_stands_4 (by decide) rfl (fun hc1 => ?_) (fun hc1 => ?_)
  · have h := ifT hc1 h
    refine V_iconst (q := 12) dX0_stands_11 rfl rfl ?_
    exact V_zret rfl (Or.inl rfl) h dX0_stands_12
  · have h := ifF hc1 h
    refine V_iconst (q := 8) dX0_stands_7 rfl rfl ?_
    refine V_goto (q := 12) dX0_stands_8 (by decide) ?_
    exact V_zret rfl (Or.inr rfl) h dX0_stands_12
abbrev mX4_peek : Mth := (yX4_peek, cX4_peek, 1, some .int)
set_option maxRecDepth 100000 in
theorem mi_X4_peek : Cond.instanceMethod yX4_peek ∈ tG ∧ Cond.selects yX4_peek.cls yX4_peek yX4_peek ∈ tG ∧ Cond.initialized yX4_peek.cls ∈ tG ∧ Cond.code yX4_peek cX4_peek 1 (some .int) ∈ tG ∧ (yX4_peek.cls ≠ "java/lang/invoke/MethodHandle" ∧ yX4_peek.cls ≠ "java/lang/invoke/VarHandle" ∧ (parseMethodDescriptor yX4_peek.desc).map (fun d => d.parameters.length) = some 0) ∧ 1 ≤ 60 := ⟨(tG_of (tb2 (List.mem_of_getElem? (i := 185) rfl)) (by decide +kernel)), (tG_of (tb2 (List.mem_of_getElem? (i := 186) rfl)) (by decide +kernel)), (tG_of (tb1 (List.mem_of_getElem? (i := 3) rfl)) (by decide +kernel)), (tG_of (tb2 (List.mem_of_getElem? (i := 187) rfl)) (by decide +kernel)), ⟨by decide, by decide, by decide +kernel⟩, by decide⟩
set_option maxRecDepth 100000 in
theorem mv_X0_63 : mV RX0 63 mX4_peek 0 := ⟨(tG_of (tb2 (List.mem_of_getElem? (i := 184) rfl)) (by decide +kernel)), mi_X4_peek⟩
set_option maxRecDepth 100000 in
theorem mv_X2_87 : mV RX2 87 mX4_peek 0 := ⟨(tG_of (tb3 (List.mem_of_getElem? (i := 13) rfl)) (by decide +kernel)), mi_X4_peek⟩
set_option maxRecDepth 100000 in
theorem mv_X3_38 : mV RX3 38 mX4_peek 0 := ⟨(tG_of (tb2 (List.mem_of_getElem? (i := 225) rfl)) (by decide +kernel)), mi_X4_peek⟩
set_option maxRecDepth 100000 in
theorem mv_X4_31 : mV RX4 31 mX4_peek 0 := ⟨(tG_of (tb2 (List.mem_of_getElem? (i := 211) rfl)) (by decide +kernel)), mi_X4_peek⟩
theorem dX4_peek_0 : decode cX4_peek 0 = .ok (.aload_n 0, 1) := dc_42 (byA eNcX4_peek (p := 0) (v := 42) (by decide +kernel))
theorem dX4_peek_1 : decode cX4_peek 1 = .ok (.getfield 15, 3) := dc_180 (byA eNcX4_peek (p := 1) (v := 180) (by decide +kernel)) (byA eNcX4_peek (p := 2) (v := 0) (by decide +kernel)) (byA eNcX4_peek (p := 3) (v := 15) (by decide +kernel)) rfl
theorem dX4_peek_4 : decode cX4_peek 4 = .ok (.iconst (-1), 1) := dc_2 (byA eNcX4_peek (p := 4) (v := 2) (by decide +kernel))
theorem dX4_peek_5 : decode cX4_peek 5 = .ok (.if_icmp .eq 5, 3) := dc_159 (byA eNcX4_peek (p := 5) (v := 159) (by decide +kernel)) (byA eNcX4_peek (p := 6) (v := 0) (by decide +kernel)) (byA eNcX4_peek (p := 7) (v := 5) (by decide +kernel)) (by decide +kernel)
theorem dX4_peek_8 : decode cX4_peek 8 = .ok (.iconst (-1), 1) := dc_2 (byA eNcX4_peek (p := 8) (v := 2) (by decide +kernel))
theorem dX4_peek_9 : decode cX4_peek 9 = .ok (.ireturn, 1) := dc_172 (byA eNcX4_peek (p := 9) (v := 172) (by decide +kernel))
theorem dX4_peek_10 : decode cX4_peek 10 = .ok (.aload_n 0, 1) := dc_42 (byA eNcX4_peek (p := 10) (v := 42) (by decide +kernel))
theorem dX4_peek_11 : decode cX4_peek 11 = .ok (.getfield 19, 3) := dc_180 (byA eNcX4_peek (p := 11) (v := 180) (by decide +kernel)) (byA eNcX4_peek (p := 12) (v := 0) (by decide +kernel)) (byA eNcX4_peek (p := 13) (v := 19) (by decide +kernel)) rfl
theorem dX4_peek_14 : decode cX4_peek 14 = .ok (.aload_n 0, 1) := dc_42 (byA eNcX4_peek (p := 14) (v := 42) (by decide +kernel))
theorem dX4_peek_15 : decode cX4_peek 15 = .ok (.getfield 9, 3) := dc_180 (byA eNcX4_peek (p := 15) (v := 180) (by decide +kernel)) (byA eNcX4_peek (p := 16) (v := 0) (by decide +kernel)) (byA eNcX4_peek (p := 17) (v := 9) (by decide +kernel)) rfl
theorem dX4_peek_18 : decode cX4_peek 18 = .ok (.getfield 22, 3) := dc_180 (byA eNcX4_peek (p := 18) (v := 180) (by decide +kernel)) (byA eNcX4_peek (p := 19) (v := 0) (by decide +kernel)) (byA eNcX4_peek (p := 20) (v := 22) (by decide +kernel)) rfl
theorem dX4_peek_21 : decode cX4_peek 21 = .ok (.if_icmp .ge 33, 3) := dc_162 (byA eNcX4_peek (p := 21) (v := 162) (by decide +kernel)) (byA eNcX4_peek (p := 22) (v := 0) (by decide +kernel)) (byA eNcX4_peek (p := 23) (v := 33) (by decide +kernel)) (by decide +kernel)
theorem dX4_peek_24 : decode cX4_peek 24 = .ok (.aload_n 0, 1) := dc_42 (byA eNcX4_peek (p := 24) (v := 42) (by decide +kernel))
theorem dX4_peek_25 : decode cX4_peek 25 = .ok (.getfield 9, 3) := dc_180 (byA eNcX4_peek (p := 25) (v := 180) (by decide +kernel)) (byA eNcX4_peek (p := 26) (v := 0) (by decide +kernel)) (byA eNcX4_peek (p := 27) (v := 9) (by decide +kernel)) rfl
theorem dX4_peek_28 : decode cX4_peek 28 = .ok (.getfield 27, 3) := dc_180 (byA eNcX4_peek (p := 28) (v := 180) (by decide +kernel)) (byA eNcX4_peek (p := 29) (v := 0) (by decide +kernel)) (byA eNcX4_peek (p := 30) (v := 27) (by decide +kernel)) rfl
theorem dX4_peek_31 : decode cX4_peek 31 = .ok (.aload_n 0, 1) := dc_42 (byA eNcX4_peek (p := 31) (v := 42) (by decide +kernel))
theorem dX4_peek_32 : decode cX4_peek 32 = .ok (.getfield 19, 3) := dc_180 (byA eNcX4_peek (p := 32) (v := 180) (by decide +kernel)) (byA eNcX4_peek (p := 33) (v := 0) (by decide +kernel)) (byA eNcX4_peek (p := 34) (v := 19) (by decide +kernel)) rfl
theorem dX4_peek_35 : decode cX4_peek 35 = .ok (.iaload, 1) := dc_46 (byA eNcX4_peek (p := 35) (v := 46) (by decide +kernel))
theorem dX4_peek_36 : decode cX4_peek 36 = .ok (.bipush 32, 2) := dc_16 (byA eNcX4_peek (p := 36) (v := 16) (by decide +kernel)) (byA eNcX4_peek (p := 37) (v := 32) (by decide +kernel)) (by decide +kernel)
theorem dX4_peek_38 : decode cX4_peek 38 = .ok (.if_icmp .ne 16, 3) := dc_160 (byA eNcX4_peek (p := 38) (v := 160) (by decide +kernel)) (byA eNcX4_peek (p := 39) (v := 0) (by decide +kernel)) (byA eNcX4_peek (p := 40) (v := 16) (by decide +kernel)) (by decide +kernel)
theorem dX4_peek_41 : decode cX4_peek 41 = .ok (.aload_n 0, 1) := dc_42 (byA eNcX4_peek (p := 41) (v := 42) (by decide +kernel))
theorem dX4_peek_42 : decode cX4_peek 42 = .ok (.dup, 1) := dc_89 (byA eNcX4_peek (p := 42) (v := 89) (by decide +kernel))
theorem dX4_peek_43 : decode cX4_peek 43 = .ok (.getfield 19, 3) := dc_180 (byA eNcX4_peek (p := 43) (v := 180) (by decide +kernel)) (byA eNcX4_peek (p := 44) (v := 0) (by decide +kernel)) (byA eNcX4_peek (p := 45) (v := 19) (by decide +kernel)) rfl
theorem dX4_peek_46 : decode cX4_peek 46 = .ok (.iconst 1, 1) := dc_4 (byA eNcX4_peek (p := 46) (v := 4) (by decide +kernel))
theorem dX4_peek_47 : decode cX4_peek 47 = .ok (.iadd, 1) := dc_96 (byA eNcX4_peek (p := 47) (v := 96) (by decide +kernel))
theorem dX4_peek_48 : decode cX4_peek 48 = .ok (.putfield 19, 3) := dc_181 (byA eNcX4_peek (p := 48) (v := 181) (by decide +kernel)) (byA eNcX4_peek (p := 49) (v := 0) (by decide +kernel)) (byA eNcX4_peek (p := 50) (v := 19) (by decide +kernel)) rfl
theorem dX4_peek_51 : decode cX4_peek 51 = .ok (.goto (-41), 3) := dc_167 (byA eNcX4_peek (p := 51) (v := 167) (by decide +kernel)) (byA eNcX4_peek (p := 52) (v := 255) (by decide +kernel)) (byA eNcX4_peek (p := 53) (v := 215) (by decide +kernel)) (by decide +kernel)
theorem dX4_peek_54 : decode cX4_peek 54 = .ok (.aload_n 0, 1) := dc_42 (byA eNcX4_peek (p := 54) (v := 42) (by decide +kernel))
theorem dX4_peek_55 : decode cX4_peek 55 = .ok (.getfield 19, 3) := dc_180 (byA eNcX4_peek (p := 55) (v := 180) (by decide +kernel)) (byA eNcX4_peek (p := 56) (v := 0) (by decide +kernel)) (byA eNcX4_peek (p := 57) (v := 19) (by decide +kernel)) rfl
theorem dX4_peek_58 : decode cX4_peek 58 = .ok (.aload_n 0, 1) := dc_42 (byA eNcX4_peek (p := 58) (v := 42) (by decide +kernel))
theorem dX4_peek_59 : decode cX4_peek 59 = .ok (.getfield 9, 3) := dc_180 (byA eNcX4_peek (p := 59) (v := 180) (by decide +kernel)) (byA eNcX4_peek (p := 60) (v := 0) (by decide +kernel)) (byA eNcX4_peek (p := 61) (v := 9) (by decide +kernel)) rfl
theorem dX4_peek_62 : decode cX4_peek 62 = .ok (.getfield 22, 3) := dc_180 (byA eNcX4_peek (p := 62) (v := 180) (by decide +kernel)) (byA eNcX4_peek (p := 63) (v := 0) (by decide +kernel)) (byA eNcX4_peek (p := 64) (v := 22) (by decide +kernel)) rfl
theorem dX4_peek_65 : decode cX4_peek 65 = .ok (.if_icmp .ge 18, 3) := dc_162 (byA eNcX4_peek (p := 65) (v := 162) (by decide +kernel)) (byA eNcX4_peek (p := 66) (v := 0) (by decide +kernel)) (byA eNcX4_peek (p := 67) (v := 18) (by decide +kernel)) (by decide +kernel)
theorem dX4_peek_68 : decode cX4_peek 68 = .ok (.aload_n 0, 1) := dc_42 (byA eNcX4_peek (p := 68) (v := 42) (by decide +kernel))
theorem dX4_peek_69 : decode cX4_peek 69 = .ok (.getfield 9, 3) := dc_180 (byA eNcX4_peek (p := 69) (v := 180) (by decide +kernel)) (byA eNcX4_peek (p := 70) (v := 0) (by decide +kernel)) (byA eNcX4_peek (p := 71) (v := 9) (by decide +kernel)) rfl
theorem dX4_peek_72 : decode cX4_peek 72 = .ok (.getfield 27, 3) := dc_180 (byA eNcX4_peek (p := 72) (v := 180) (by decide +kernel)) (byA eNcX4_peek (p := 73) (v := 0) (by decide +kernel)) (byA eNcX4_peek (p := 74) (v := 27) (by decide +kernel)) rfl
theorem dX4_peek_75 : decode cX4_peek 75 = .ok (.aload_n 0, 1) := dc_42 (byA eNcX4_peek (p := 75) (v := 42) (by decide +kernel))
theorem dX4_peek_76 : decode cX4_peek 76 = .ok (.getfield 19, 3) := dc_180 (byA eNcX4_peek (p := 76) (v := 180) (by decide +kernel)) (byA eNcX4_peek (p := 77) (v := 0) (by decide +kernel)) (byA eNcX4_peek (p := 78) (v := 19) (by decide +kernel)) rfl
theorem dX4_peek_79 : decode cX4_peek 79 = .ok (.iaload, 1) := dc_46 (byA eNcX4_peek (p := 79) (v := 46) (by decide +kernel))
theorem dX4_peek_80 : decode cX4_peek 80 = .ok (.goto 4, 3) := dc_167 (byA eNcX4_peek (p := 80) (v := 167) (by decide +kernel)) (byA eNcX4_peek (p := 81) (v := 0) (by decide +kernel)) (byA eNcX4_peek (p := 82) (v := 4) (by decide +kernel)) (by decide +kernel)
theorem dX4_peek_83 : decode cX4_peek 83 = .ok (.iconst (-1), 1) := dc_2 (byA eNcX4_peek (p := 83) (v := 2) (by decide +kernel))
theorem dX4_peek_84 : decode cX4_peek 84 = .ok (.ireturn, 1) := dc_172 (byA eNcX4_peek (p := 84) (v := 172) (by decide +kernel))
def X4_peek_L10 (k54 : Mm → Rs) : Nat → Mm → Rs
  | 0, _ => none
  | n + 1, μ => mR μ 3 0 (17, 2) fun v2 => if (μ v2 1) ≤ (μ 3 1) then (k54 μ) else (mR μ 3 0 (17, 2) fun v5 => ldA μ (v5 + 1) (μ 3 1) fun v7 => if v7 = 32 then (sF μ 3 1 (iA (μ 3 1) 1) fun μ10 => X4_peek_L10 k54 n μ10) else (k54 μ))
def X4_peek_J54 (μ : Mm) : Rs := mR μ 3 0 (17, 2) fun v12 => if (μ v12 1) ≤ (μ 3 1) then (some ((-1), μ)) else (mR μ 3 0 (17, 2) fun v15 => ldA μ (v15 + 1) (μ 3 1) fun v17 => some (v17, μ))
def X4_peek (μ : Mm) : Rs := if (μ 3 2) = (-1) then (X4_peek_L10 (fun μ11 => X4_peek_J54 μ11) FU μ) else (some ((-1), μ))
set_option maxHeartbeats 4000000 in
set_option maxRecDepth 100000 in
theorem kX4_peek_L10 (d : Nat) (hd : 1 ≤ d) {k54 : Mm → Rs} {r : Int} {μ' : Mm} (hk_54 : ∀ (μ1 : Mm), k54 μ1 = some (r, μ') → VV d mX4_peek 54 [some (vR 3)] [] μ1 r μ') : ∀ (n : Nat) {μ : Mm}, X4_peek_L10 k54 n μ = some (r, μ') → VV d mX4_peek 10 [some (vR 3)] [] μ r μ' := by
  intro n
  induction n with
  | zero => intro μ h; rw [X4_peek_L10] at h; cases h
  | succ n ih =>
    intro μ h
    rw [X4_peek_L10] at h
    refine V_aload_n (q := 11) dX4_peek_10 rfl rfl rfl ?_
    refine V_getI (q := 14) fl_X4_19 rfl rfl rfl dX4_peek_11 rfl ?_
    refine V_aload_n (q := 15) dX4_peek_14 rfl rfl rfl ?_
    obtain ⟨hm3, h⟩ := mR_i h
    refine V_getM (q := 18) fl_X4_9 rfl rfl rfl dX4_peek_15 rfl ?_
    refine V_getI (q := 21) fl_X4_22 hm3 rfl rfl dX4_peek_18 rfl ?_
    refine V_icmpge (q := 54) (q2 := 24) dX4_peek_21 (by decide) rfl (fun hc4 => ?_) (fun hc4 => ?_)
    · have h := ifT hc4 h
      exact V_weak (hk_54 _ h) (sb_s rfl sb_0)
    · have h := ifF hc4 h
      refine V_aload_n (q := 25) dX4_peek_24 rfl rfl rfl ?_
      obtain ⟨hm6, h⟩ := mR_i h
      refine V_getM (q := 28) fl_X4_9 rfl rfl rfl dX4_peek_25 rfl ?_
      refine V_getO (q := 31) (t := _) fl_X4_27 hm6 rfl rfl rfl dX4_peek_28 rfl ?_
      refine V_aload_n (q := 32) dX4_peek_31 rfl rfl rfl ?_
      refine V_getI (q := 35) fl_X4_19 rfl rfl rfl dX4_peek_32 rfl ?_
      obtain ⟨hi8, h⟩ := ldA_i h
      refine V_iaload (q := 36) (kdo_7_0 hm6) hi8 dX4_peek_35 rfl ?_
      refine V_bipush (q := 38) dX4_peek_36 rfl rfl rfl ?_
      refine V_icmpne (q := 54) (q2 := 41) dX4_peek_38 (by decide) rfl (fun hc9 => ?_) (fun hc9 => ?_)
      · have h := ifF hc9 h
        exact V_weak (hk_54 _ h) (sb_s rfl sb_0)
      · have h := ifT hc9 h
        refine V_aload_n (q := 42) dX4_peek_41 rfl rfl rfl ?_
        refine V_dup (q := 43) dX4_peek_42 trivial rfl ?_
        refine V_getI (q := 46) fl_X4_19 rfl rfl rfl dX4_peek_43 rfl ?_
        refine V_iconst (q := 47) dX4_peek_46 rfl rfl ?_
        refine V_iadd (q := 48) dX4_peek_47 rfl ?_
        have h := sF_i h
        refine V_putI (q := 51) fl_X4_19 rfl rfl rfl dX4_peek_48 rfl ?_
        refine V_goto (q := 10) dX4_peek_51 (by decide) ?_
        exact V_weak (ih h) (sb_s rfl sb_0)
set_option maxHeartbeats 4000000 in
set_option maxRecDepth 100000 in
theorem kX4_peek_J54 (d : Nat) (hd : 1 ≤ d) {μ : Mm} {r : Int} {μ' : Mm} (h : X4_peek_J54 μ = some (r, μ')) : VV d mX4_peek 54 [some (vR 3)] [] μ r μ' := by
  unfold X4_peek_J54 at h
  refine V_aload_n (q := 55) dX4_peek_54 rfl rfl rfl ?_
  refine V_getI (q := 58) fl_X4_19 rfl rfl rfl dX4_peek_55 rfl ?_
  refine V_aload_n (q := 59) dX4_peek_58 rfl rfl rfl ?_
  obtain ⟨hm13, h⟩ := mR_i h
  refine V_getM (q := 62) fl_X4_9 rfl rfl rfl dX4_peek_59 rfl ?_
  refine V_getI (q := 65) fl_X4_22 hm13 rfl rfl dX4_peek_62 rfl ?_
  refine V_icmpge (q := 83) (q2 := 68) dX4_peek_65 (by decide) rfl (fun hc14 => ?_) (fun hc14 => ?_)
  · have h := ifT hc14 h
    refine V_iconst (q := 84) dX4_peek_83 rfl rfl ?_
    exact V_iret rfl h dX4_peek_84
  · have h := ifF hc14 h
    refine V_aload_n (q := 69) dX4_peek_68 rfl rfl rfl ?_
    obtain ⟨hm16, h⟩ := mR_i h
    refine V_getM (q := 72) fl_X4_9 rfl rfl rfl dX4_peek_69 rfl ?_
    refine V_getO (q := 75) (t := _) fl_X4_27 hm16 rfl rfl rfl dX4_peek_72 rfl ?_
    refine V_aload_n (q := 76) dX4_peek_75 rfl rfl rfl ?_
    refine V_getI (q := 79) fl_X4_19 rfl rfl rfl dX4_peek_76 rfl ?_
    obtain ⟨hi18, h⟩ := ldA_i h
    refine V_iaload (q := 80) (kdo_7_0 hm16) hi18 dX4_peek_79 rfl ?_
    refine V_goto (q := 84) dX4_peek_80 (by decide) ?_
    exact V_iret rfl h dX4_peek_84
set_option maxHeartbeats 4000000 in
set_option maxRecDepth 100000 in
theorem kX4_peek (d : Nat) (hd : 1 ≤ d) {μ : Mm} {r : Int} {μ' : Mm} (h : X4_peek μ = some (r, μ')) : CC d mX4_peek [vR 3] μ r μ' := by
  unfold X4_peek at h
  refine V_enter (by decide) (Nat.le_of_ble_eq_true rfl) ?_
  show VV d mX4_peek 0 [some (vR 3)] [] μ r μ'
  refine V_aload_n (q := 1) dX4_peek_0 rfl rfl rfl ?_
  refine V_getI (q := 4) fl_X4_15 rfl rfl rfl dX4_peek_1 rfl ?_
  refine V_iconst (q := 5) dX4_peek_4 rfl rfl ?_
  refine V_icmpeq (q := 10) (q2 := 8) dX4_peek_5 (by decide) rfl (fun hc1 => ?_) (fun hc1 => ?_)
  · have h := ifT hc1 h
    refine V_weak (kX4_peek_L10 d hd (fun μ11 h => ?_) FU h) (sb_s rfl sb_0)
    exact V_weak (kX4_peek_J54 d hd h) (sb_s rfl sb_0)
  · have h := ifF hc1 h
    refine V_iconst (q := 9) dX4_peek_8 rfl rfl ?_
    exact V_iret rfl h dX4_peek_9
abbrev mX0_cellOf : Mth := (yX0_cellOf, cX0_cellOf, 1, some .int)
set_option maxRecDepth 100000 in
theorem mi_X0_cellOf : Cond.static yX0_cellOf ∈ tG ∧ Cond.initialized yX0_cellOf.cls ∈ tG ∧ Cond.code yX0_cellOf cX0_cellOf 1 (some .int) ∈ tG ∧ (yX0_cellOf.cls ≠ "java/lang/invoke/MethodHandle" ∧ yX0_cellOf.cls ≠ "java/lang/invoke/VarHandle" ∧ (parseMethodDescriptor yX0_cellOf.desc).map (fun d => d.parameters.length) = some 1) ∧ 1 ≤ 60 := ⟨(tG_of (tb2 (List.mem_of_getElem? (i := 189) rfl)) (by decide +kernel)), (tG_of (tb1 (List.mem_of_getElem? (i := 5) rfl)) (by decide +kernel)), (tG_of (tb2 (List.mem_of_getElem? (i := 190) rfl)) (by decide +kernel)), ⟨by decide, by decide, by decide +kernel⟩, by decide⟩
set_option maxRecDepth 100000 in
theorem mv_X0_67 : mS RX0 67 mX0_cellOf 1 := ⟨(tG_of (tb2 (List.mem_of_getElem? (i := 188) rfl)) (by decide +kernel)), mi_X0_cellOf.1, (tG_of (tb1 (List.mem_of_getElem? (i := 5) rfl)) (by decide +kernel)), mi_X0_cellOf.2⟩
theorem dX0_cellOf_0 : decode cX0_cellOf 0 = .ok (.iload_n 0, 1) := dc_26 (byA eNcX0_cellOf (p := 0) (v := 26) (by decide +kernel))
theorem dX0_cellOf_1 : decode cX0_cellOf 1 = .ok (.lookupswitch 41 #[(35, 37), (42, 39), (46, 35)], 35) := by decide +kernel
theorem dX0_cellOf_36 : decode cX0_cellOf 36 = .ok (.iconst 0, 1) := dc_3 (byA eNcX0_cellOf (p := 36) (v := 3) (by decide +kernel))
theorem dX0_cellOf_37 : decode cX0_cellOf 37 = .ok (.ireturn, 1) := dc_172 (byA eNcX0_cellOf (p := 37) (v := 172) (by decide +kernel))
theorem dX0_cellOf_38 : decode cX0_cellOf 38 = .ok (.iconst 1, 1) := dc_4 (byA eNcX0_cellOf (p := 38) (v := 4) (by decide +kernel))
theorem dX0_cellOf_39 : decode cX0_cellOf 39 = .ok (.ireturn, 1) := dc_172 (byA eNcX0_cellOf (p := 39) (v := 172) (by decide +kernel))
theorem dX0_cellOf_40 : decode cX0_cellOf 40 = .ok (.iconst 2, 1) := dc_5 (byA eNcX0_cellOf (p := 40) (v := 5) (by decide +kernel))
theorem dX0_cellOf_41 : decode cX0_cellOf 41 = .ok (.ireturn, 1) := dc_172 (byA eNcX0_cellOf (p := 41) (v := 172) (by decide +kernel))
theorem dX0_cellOf_42 : decode cX0_cellOf 42 = .ok (.iload_n 0, 1) := dc_26 (byA eNcX0_cellOf (p := 42) (v := 26) (by decide +kernel))
theorem dX0_cellOf_43 : decode cX0_cellOf 43 = .ok (.bipush 65, 2) := dc_16 (byA eNcX0_cellOf (p := 43) (v := 16) (by decide +kernel)) (byA eNcX0_cellOf (p := 44) (v := 65) (by decide +kernel)) (by decide +kernel)
theorem dX0_cellOf_45 : decode cX0_cellOf 45 = .ok (.if_icmp .lt 18, 3) := dc_161 (byA eNcX0_cellOf (p := 45) (v := 161) (by decide +kernel)) (byA eNcX0_cellOf (p := 46) (v := 0) (by decide +kernel)) (byA eNcX0_cellOf (p := 47) (v := 18) (by decide +kernel)) (by decide +kernel)
theorem dX0_cellOf_48 : decode cX0_cellOf 48 = .ok (.iload_n 0, 1) := dc_26 (byA eNcX0_cellOf (p := 48) (v := 26) (by decide +kernel))
theorem dX0_cellOf_49 : decode cX0_cellOf 49 = .ok (.bipush 72, 2) := dc_16 (byA eNcX0_cellOf (p := 49) (v := 16) (by decide +kernel)) (byA eNcX0_cellOf (p := 50) (v := 72) (by decide +kernel)) (by decide +kernel)
theorem dX0_cellOf_51 : decode cX0_cellOf 51 = .ok (.if_icmp .gt 12, 3) := dc_163 (byA eNcX0_cellOf (p := 51) (v := 163) (by decide +kernel)) (byA eNcX0_cellOf (p := 52) (v := 0) (by decide +kernel)) (byA eNcX0_cellOf (p := 53) (v := 12) (by decide +kernel)) (by decide +kernel)
theorem dX0_cellOf_54 : decode cX0_cellOf 54 = .ok (.iconst 3, 1) := dc_6 (byA eNcX0_cellOf (p := 54) (v := 6) (by decide +kernel))
theorem dX0_cellOf_55 : decode cX0_cellOf 55 = .ok (.iload_n 0, 1) := dc_26 (byA eNcX0_cellOf (p := 55) (v := 26) (by decide +kernel))
theorem dX0_cellOf_56 : decode cX0_cellOf 56 = .ok (.iadd, 1) := dc_96 (byA eNcX0_cellOf (p := 56) (v := 96) (by decide +kernel))
theorem dX0_cellOf_57 : decode cX0_cellOf 57 = .ok (.bipush 65, 2) := dc_16 (byA eNcX0_cellOf (p := 57) (v := 16) (by decide +kernel)) (byA eNcX0_cellOf (p := 58) (v := 65) (by decide +kernel)) (by decide +kernel)
theorem dX0_cellOf_59 : decode cX0_cellOf 59 = .ok (.isub, 1) := dc_100 (byA eNcX0_cellOf (p := 59) (v := 100) (by decide +kernel))
theorem dX0_cellOf_60 : decode cX0_cellOf 60 = .ok (.goto 4, 3) := dc_167 (byA eNcX0_cellOf (p := 60) (v := 167) (by decide +kernel)) (byA eNcX0_cellOf (p := 61) (v := 0) (by decide +kernel)) (byA eNcX0_cellOf (p := 62) (v := 4) (by decide +kernel)) (by decide +kernel)
theorem dX0_cellOf_63 : decode cX0_cellOf 63 = .ok (.iconst (-1), 1) := dc_2 (byA eNcX0_cellOf (p := 63) (v := 2) (by decide +kernel))
theorem dX0_cellOf_64 : decode cX0_cellOf 64 = .ok (.ireturn, 1) := dc_172 (byA eNcX0_cellOf (p := 64) (v := 172) (by decide +kernel))
def X0_cellOf (l0 : Int) (μ : Mm) : Rs := if l0 = 35 then (some (1, μ)) else (if l0 = 42 then (some (2, μ)) else (if l0 = 46 then (some (0, μ)) else (if l0 < 65 then (some ((-1), μ)) else (if 72 < l0 then (some ((-1), μ)) else (some (iS (iA 3 l0) 65, μ))))))
set_option maxHeartbeats 4000000 in
set_option maxRecDepth 100000 in
theorem kX0_cellOf (d : Nat) (hd : 1 ≤ d) {l0 : Int} {μ : Mm} {r : Int} {μ' : Mm} (h : X0_cellOf l0 μ = some (r, μ')) : CC d mX0_cellOf [vI l0] μ r μ' := by
  unfold X0_cellOf at h
  refine V_enter (by decide) (Nat.le_of_ble_eq_true rfl) ?_
  show VV d mX0_cellOf 0 [some (vI l0)] [] μ r μ'
  refine V_iload_n (q := 1) dX0_cellOf_0 rfl rfl rfl ?_
  refine V_ls1 (q := 38) 35 dX0_cellOf_1 rfl rfl (by decide) (fun hc1 => ?_) (fun hc1 => ?_)
  · have h := ifT hc1 h
    refine V_iconst (q := 39) dX0_cellOf_38 rfl rfl ?_
    exact V_iret rfl h dX0_cellOf_39
  · have h := ifF hc1 h
    refine V_ls1 (q := 40) 42 dX0_cellOf_1 rfl rfl (by decide) (fun hc2 => ?_) (fun hc2 => ?_)
    · have h := ifT hc2 h
      refine V_iconst (q := 41) dX0_cellOf_40 rfl rfl ?_
      exact V_iret rfl h dX0_cellOf_41
    · have h := ifF hc2 h
      refine V_ls1 (q := 36) 46 dX0_cellOf_1 rfl rfl (by decide) (fun hc3 => ?_) (fun hc3 => ?_)
      · have h := ifT hc3 h
        refine V_iconst (q := 37) dX0_cellOf_36 rfl rfl ?_
        exact V_iret rfl h dX0_cellOf_37
      · have h := ifF hc3 h
        refine V_ls (q := 42) (off := 41) dX0_cellOf_1 rfl (by simp [Op.lookupswitch.offset, Ne.symm hc1, Ne.symm hc2, Ne.symm hc3]) (by decide) ?_
        refine V_iload_n (q := 43) dX0_cellOf_42 rfl rfl rfl ?_
        refine V_bipush (q := 45) dX0_cellOf_43 rfl rfl rfl ?_
        refine V_icmplt (q := 63) (q2 := 48) dX0_cellOf_45 (by decide) rfl (fun hc4 => ?_) (fun hc4 => ?_)
        · have h := ifT hc4 h
          refine V_iconst (q := 64) dX0_cellOf_63 rfl rfl ?_
          exact V_iret rfl h dX0_cellOf_64
        · have h := ifF hc4 h
          refine V_iload_n (q := 49) dX0_cellOf_48 rfl rfl rfl ?_
          refine V_bipush (q := 51) dX0_cellOf_49 rfl rfl rfl ?_
          refine V_icmpgt (q := 63) (q2 := 54) dX0_cellOf_51 (by decide) rfl (fun hc5 => ?_) (fun hc5 => ?_)
          · have h := ifT hc5 h
            refine V_iconst (q := 64) dX0_cellOf_63 rfl rfl ?_
            exact V_iret rfl h dX0_cellOf_64
          · have h := ifF hc5 h
            refine V_iconst (q := 55) dX0_cellOf_54 rfl rfl ?_
            refine V_iload_n (q := 56) dX0_cellOf_55 rfl rfl rfl ?_
            refine V_iadd (q := 57) dX0_cellOf_56 rfl ?_
            refine V_bipush (q := 59) dX0_cellOf_57 rfl rfl rfl ?_
            refine V_isub (q := 60) dX0_cellOf_59 rfl ?_
            refine V_goto (q := 64) dX0_cellOf_60 (by decide) ?_
            exact V_iret rfl h dX0_cellOf_64
abbrev mX0_placeOf : Mth := (yX0_placeOf, cX0_placeOf, 2, some .int)
set_option maxRecDepth 100000 in
theorem mi_X0_placeOf : Cond.instanceMethod yX0_placeOf ∈ tG ∧ Cond.selects yX0_placeOf.cls yX0_placeOf yX0_placeOf ∈ tG ∧ Cond.initialized yX0_placeOf.cls ∈ tG ∧ Cond.code yX0_placeOf cX0_placeOf 2 (some .int) ∈ tG ∧ (yX0_placeOf.cls ≠ "java/lang/invoke/MethodHandle" ∧ yX0_placeOf.cls ≠ "java/lang/invoke/VarHandle" ∧ (parseMethodDescriptor yX0_placeOf.desc).map (fun d => d.parameters.length) = some 1) ∧ 2 ≤ 60 := ⟨(tG_of (tb2 (List.mem_of_getElem? (i := 196) rfl)) (by decide +kernel)), (tG_of (tb2 (List.mem_of_getElem? (i := 197) rfl)) (by decide +kernel)), (tG_of (tb1 (List.mem_of_getElem? (i := 5) rfl)) (by decide +kernel)), (tG_of (tb2 (List.mem_of_getElem? (i := 198) rfl)) (by decide +kernel)), ⟨by decide, by decide, by decide +kernel⟩, by decide⟩
set_option maxRecDepth 100000 in
theorem mv_X10_168 : mV RX10 168 mX0_placeOf 1 := ⟨(tG_of (tb3 (List.mem_of_getElem? (i := 186) rfl)) (by decide +kernel)), mi_X0_placeOf⟩
set_option maxRecDepth 100000 in
theorem mv_X0_75 : mV RX0 75 mX0_placeOf 1 := ⟨(tG_of (tb2 (List.mem_of_getElem? (i := 195) rfl)) (by decide +kernel)), mi_X0_placeOf⟩
set_option maxRecDepth 100000 in
theorem mv_X1_55 : mV RX1 55 mX0_placeOf 1 := ⟨(tG_of (tb4 (List.mem_of_getElem? (i := 5) rfl)) (by decide +kernel)), mi_X0_placeOf⟩
theorem dX0_placeOf_0 : decode cX0_placeOf 0 = .ok (.iload_n 1, 1) := dc_27 (byA eNcX0_placeOf (p := 0) (v := 27) (by decide +kernel))
theorem dX0_placeOf_1 : decode cX0_placeOf 1 = .ok (.ifCond .lt 18, 3) := dc_155 (byA eNcX0_placeOf (p := 1) (v := 155) (by decide +kernel)) (byA eNcX0_placeOf (p := 2) (v := 0) (by decide +kernel)) (byA eNcX0_placeOf (p := 3) (v := 18) (by decide +kernel)) (by decide +kernel)
theorem dX0_placeOf_4 : decode cX0_placeOf 4 = .ok (.iload_n 1, 1) := dc_27 (byA eNcX0_placeOf (p := 4) (v := 27) (by decide +kernel))
theorem dX0_placeOf_5 : decode cX0_placeOf 5 = .ok (.bipush 8, 2) := dc_16 (byA eNcX0_placeOf (p := 5) (v := 16) (by decide +kernel)) (byA eNcX0_placeOf (p := 6) (v := 8) (by decide +kernel)) (by decide +kernel)
theorem dX0_placeOf_7 : decode cX0_placeOf 7 = .ok (.if_icmp .ge 12, 3) := dc_162 (byA eNcX0_placeOf (p := 7) (v := 162) (by decide +kernel)) (byA eNcX0_placeOf (p := 8) (v := 0) (by decide +kernel)) (byA eNcX0_placeOf (p := 9) (v := 12) (by decide +kernel)) (by decide +kernel)
theorem dX0_placeOf_10 : decode cX0_placeOf 10 = .ok (.aload_n 0, 1) := dc_42 (byA eNcX0_placeOf (p := 10) (v := 42) (by decide +kernel))
theorem dX0_placeOf_11 : decode cX0_placeOf 11 = .ok (.getfield 15, 3) := dc_180 (byA eNcX0_placeOf (p := 11) (v := 180) (by decide +kernel)) (byA eNcX0_placeOf (p := 12) (v := 0) (by decide +kernel)) (byA eNcX0_placeOf (p := 13) (v := 15) (by decide +kernel)) rfl
theorem dX0_placeOf_14 : decode cX0_placeOf 14 = .ok (.iload_n 1, 1) := dc_27 (byA eNcX0_placeOf (p := 14) (v := 27) (by decide +kernel))
theorem dX0_placeOf_15 : decode cX0_placeOf 15 = .ok (.iaload, 1) := dc_46 (byA eNcX0_placeOf (p := 15) (v := 46) (by decide +kernel))
theorem dX0_placeOf_16 : decode cX0_placeOf 16 = .ok (.goto 4, 3) := dc_167 (byA eNcX0_placeOf (p := 16) (v := 167) (by decide +kernel)) (byA eNcX0_placeOf (p := 17) (v := 0) (by decide +kernel)) (byA eNcX0_placeOf (p := 18) (v := 4) (by decide +kernel)) (by decide +kernel)
theorem dX0_placeOf_19 : decode cX0_placeOf 19 = .ok (.iconst (-1), 1) := dc_2 (byA eNcX0_placeOf (p := 19) (v := 2) (by decide +kernel))
theorem dX0_placeOf_20 : decode cX0_placeOf 20 = .ok (.ireturn, 1) := dc_172 (byA eNcX0_placeOf (p := 20) (v := 172) (by decide +kernel))
def X0_placeOf (l0 : Nat) (l1 : Int) (μ : Mm) : Rs := if l1 < 0 then (some ((-1), μ)) else (if 8 ≤ l1 then (some ((-1), μ)) else (ldA μ (l0 + 2) l1 fun v3 => some (v3, μ)))
set_option maxHeartbeats 4000000 in
set_option maxRecDepth 100000 in
theorem kX0_placeOf (d : Nat) (hd : 1 ≤ d) {l0 : Nat} {l1 : Int} (hk0 : kD l0 = (10, 9)) {μ : Mm} {r : Int} {μ' : Mm} (h : X0_placeOf l0 l1 μ = some (r, μ')) : CC d mX0_placeOf [vR l0, vI l1] μ r μ' := by
  unfold X0_placeOf at h
  refine V_enter (by decide) (Nat.le_of_ble_eq_true rfl) ?_
  show VV d mX0_placeOf 0 [some (vR l0), some (vI l1)] [] μ r μ'
  refine V_iload_n (q := 1) dX0_placeOf_0 rfl rfl rfl ?_
  refine V_iflt (q := 19) (q2 := 4) dX0_placeOf_1 (by decide) rfl (fun hc1 => ?_) (fun hc1 => ?_)
  · have h := ifT hc1 h
    refine V_iconst (q := 20) dX0_placeOf_19 rfl rfl ?_
    exact V_iret rfl h dX0_placeOf_20
  · have h := ifF hc1 h
    refine V_iload_n (q := 5) dX0_placeOf_4 rfl rfl rfl ?_
    refine V_bipush (q := 7) dX0_placeOf_5 rfl rfl rfl ?_
    refine V_icmpge (q := 19) (q2 := 10) dX0_placeOf_7 (by decide) rfl (fun hc2 => ?_) (fun hc2 => ?_)
    · have h := ifT hc2 h
      refine V_iconst (q := 20) dX0_placeOf_19 rfl rfl ?_
      exact V_iret rfl h dX0_placeOf_20
    · have h := ifF hc2 h
      refine V_aload_n (q := 11) dX0_placeOf_10 rfl rfl rfl ?_
      refine V_getO (q := 14) (t := _) fl_X0_15 hk0 rfl rfl rfl dX0_placeOf_11 rfl ?_
      refine V_iload_n (q := 15) dX0_placeOf_14 rfl rfl rfl ?_
      obtain ⟨hi4, h⟩ := ldA_i h
      refine V_iaload (q := 16) (kdo_0_1 hk0) hi4 dX0_placeOf_15 rfl ?_
      refine V_goto (q := 20) dX0_placeOf_16 (by decide) ?_
      exact V_iret rfl h dX0_placeOf_20
abbrev mX4_refuseAt : Mth := (yX4_refuseAt, cX4_refuseAt, 2, none)
set_option maxRecDepth 100000 in
theorem mi_X4_refuseAt : Cond.instanceMethod yX4_refuseAt ∈ tG ∧ Cond.selects yX4_refuseAt.cls yX4_refuseAt yX4_refuseAt ∈ tG ∧ Cond.initialized yX4_refuseAt.cls ∈ tG ∧ Cond.code yX4_refuseAt cX4_refuseAt 2 (none) ∈ tG ∧ (yX4_refuseAt.cls ≠ "java/lang/invoke/MethodHandle" ∧ yX4_refuseAt.cls ≠ "java/lang/invoke/VarHandle" ∧ (parseMethodDescriptor yX4_refuseAt.desc).map (fun d => d.parameters.length) = some 1) ∧ 2 ≤ 60 := ⟨(tG_of (tb2 (List.mem_of_getElem? (i := 200) rfl)) (by decide +kernel)), (tG_of (tb2 (List.mem_of_getElem? (i := 201) rfl)) (by decide +kernel)), (tG_of (tb1 (List.mem_of_getElem? (i := 3) rfl)) (by decide +kernel)), (tG_of (tb2 (List.mem_of_getElem? (i := 202) rfl)) (by decide +kernel)), ⟨by decide, by decide, by decide +kernel⟩, by decide⟩
set_option maxRecDepth 100000 in
theorem mv_X0_56 : mV RX0 56 mX4_refuseAt 1 := ⟨(tG_of (tb2 (List.mem_of_getElem? (i := 199) rfl)) (by decide +kernel)), mi_X4_refuseAt⟩
set_option maxRecDepth 100000 in
theorem mv_X2_105 : mV RX2 105 mX4_refuseAt 1 := ⟨(tG_of (tb3 (List.mem_of_getElem? (i := 33) rfl)) (by decide +kernel)), mi_X4_refuseAt⟩
set_option maxRecDepth 100000 in
theorem mv_X3_45 : mV RX3 45 mX4_refuseAt 1 := ⟨(tG_of (tb2 (List.mem_of_getElem? (i := 226) rfl)) (by decide +kernel)), mi_X4_refuseAt⟩
set_option maxRecDepth 100000 in
theorem mv_X4_35 : mV RX4 35 mX4_refuseAt 1 := ⟨(tG_of (tb2 (List.mem_of_getElem? (i := 216) rfl)) (by decide +kernel)), mi_X4_refuseAt⟩
theorem dX4_refuseAt_0 : decode cX4_refuseAt 0 = .ok (.aload_n 0, 1) := dc_42 (byA eNcX4_refuseAt (p := 0) (v := 42) (by decide +kernel))
theorem dX4_refuseAt_1 : decode cX4_refuseAt 1 = .ok (.getfield 15, 3) := dc_180 (byA eNcX4_refuseAt (p := 1) (v := 180) (by decide +kernel)) (byA eNcX4_refuseAt (p := 2) (v := 0) (by decide +kernel)) (byA eNcX4_refuseAt (p := 3) (v := 15) (by decide +kernel)) rfl
theorem dX4_refuseAt_4 : decode cX4_refuseAt 4 = .ok (.iconst (-1), 1) := dc_2 (byA eNcX4_refuseAt (p := 4) (v := 2) (by decide +kernel))
theorem dX4_refuseAt_5 : decode cX4_refuseAt 5 = .ok (.if_icmp .ne 8, 3) := dc_160 (byA eNcX4_refuseAt (p := 5) (v := 160) (by decide +kernel)) (byA eNcX4_refuseAt (p := 6) (v := 0) (by decide +kernel)) (byA eNcX4_refuseAt (p := 7) (v := 8) (by decide +kernel)) (by decide +kernel)
theorem dX4_refuseAt_8 : decode cX4_refuseAt 8 = .ok (.aload_n 0, 1) := dc_42 (byA eNcX4_refuseAt (p := 8) (v := 42) (by decide +kernel))
theorem dX4_refuseAt_9 : decode cX4_refuseAt 9 = .ok (.iload_n 1, 1) := dc_27 (byA eNcX4_refuseAt (p := 9) (v := 27) (by decide +kernel))
theorem dX4_refuseAt_10 : decode cX4_refuseAt 10 = .ok (.putfield 15, 3) := dc_181 (byA eNcX4_refuseAt (p := 10) (v := 181) (by decide +kernel)) (byA eNcX4_refuseAt (p := 11) (v := 0) (by decide +kernel)) (byA eNcX4_refuseAt (p := 12) (v := 15) (by decide +kernel)) rfl
theorem dX4_refuseAt_13 : decode cX4_refuseAt 13 = .ok (.return_, 1) := dc_177 (byA eNcX4_refuseAt (p := 13) (v := 177) (by decide +kernel))
def X4_refuseAt (l1 : Int) (μ : Mm) : Rs := if (μ 3 2) = (-1) then (sF μ 3 2 l1 fun μ2 => some (0, μ2)) else (some (0, μ))
set_option maxHeartbeats 4000000 in
set_option maxRecDepth 100000 in
theorem kX4_refuseAt (d : Nat) (hd : 1 ≤ d) {l1 : Int} {μ : Mm} {r : Int} {μ' : Mm} (h : X4_refuseAt l1 μ = some (r, μ')) : CC d mX4_refuseAt [vR 3, vI l1] μ r μ' := by
  unfold X4_refuseAt at h
  refine V_enter (by decide) (Nat.le_of_ble_eq_true rfl) ?_
  show VV d mX4_refuseAt 0 [some (vR 3), some (vI l1)] [] μ r μ'
  refine V_aload_n (q := 1) dX4_refuseAt_0 rfl rfl rfl ?_
  refine V_getI (q := 4) fl_X4_15 rfl rfl rfl dX4_refuseAt_1 rfl ?_
  refine V_iconst (q := 5) dX4_refuseAt_4 rfl rfl ?_
  refine V_icmpne (q := 13) (q2 := 8) dX4_refuseAt_5 (by decide) rfl (fun hc1 => ?_) (fun hc1 => ?_)
  · have h := ifF hc1 h
    exact V_vret rfl h dX4_refuseAt_13
  · have h := ifT hc1 h
    refine V_aload_n (q := 9) dX4_refuseAt_8 rfl rfl rfl ?_
    refine V_iload_n (q := 10) dX4_refuseAt_9 rfl rfl rfl ?_
    have h := sF_i h
    refine V_putI (q := 13) fl_X4_15 rfl rfl rfl dX4_refuseAt_10 rfl ?_
    exact V_vret rfl h dX4_refuseAt_13
abbrev mX4_pass : Mth := (yX4_pass, cX4_pass, 1, none)
set_option maxRecDepth 100000 in
theorem mi_X4_pass : Cond.instanceMethod yX4_pass ∈ tG ∧ Cond.selects yX4_pass.cls yX4_pass yX4_pass ∈ tG ∧ Cond.initialized yX4_pass.cls ∈ tG ∧ Cond.code yX4_pass cX4_pass 1 (none) ∈ tG ∧ (yX4_pass.cls ≠ "java/lang/invoke/MethodHandle" ∧ yX4_pass.cls ≠ "java/lang/invoke/VarHandle" ∧ (parseMethodDescriptor yX4_pass.desc).map (fun d => d.parameters.length) = some 0) ∧ 1 ≤ 60 := ⟨(tG_of (tb2 (List.mem_of_getElem? (i := 204) rfl)) (by decide +kernel)), (tG_of (tb2 (List.mem_of_getElem? (i := 205) rfl)) (by decide +kernel)), (tG_of (tb1 (List.mem_of_getElem? (i := 3) rfl)) (by decide +kernel)), (tG_of (tb2 (List.mem_of_getElem? (i := 206) rfl)) (by decide +kernel)), ⟨by decide, by decide, by decide +kernel⟩, by decide⟩
set_option maxRecDepth 100000 in
theorem mv_X0_78 : mV RX0 78 mX4_pass 0 := ⟨(tG_of (tb2 (List.mem_of_getElem? (i := 203) rfl)) (by decide +kernel)), mi_X4_pass⟩
set_option maxRecDepth 100000 in
theorem mv_X2_108 : mV RX2 108 mX4_pass 0 := ⟨(tG_of (tb3 (List.mem_of_getElem? (i := 28) rfl)) (by decide +kernel)), mi_X4_pass⟩
set_option maxRecDepth 100000 in
theorem mv_X3_49 : mV RX3 49 mX4_pass 0 := ⟨(tG_of (tb2 (List.mem_of_getElem? (i := 227) rfl)) (by decide +kernel)), mi_X4_pass⟩
theorem dX4_pass_0 : decode cX4_pass 0 = .ok (.aload_n 0, 1) := dc_42 (byA eNcX4_pass (p := 0) (v := 42) (by decide +kernel))
theorem dX4_pass_1 : decode cX4_pass 1 = .ok (.getfield 19, 3) := dc_180 (byA eNcX4_pass (p := 1) (v := 180) (by decide +kernel)) (byA eNcX4_pass (p := 2) (v := 0) (by decide +kernel)) (byA eNcX4_pass (p := 3) (v := 19) (by decide +kernel)) rfl
theorem dX4_pass_4 : decode cX4_pass 4 = .ok (.aload_n 0, 1) := dc_42 (byA eNcX4_pass (p := 4) (v := 42) (by decide +kernel))
theorem dX4_pass_5 : decode cX4_pass 5 = .ok (.getfield 9, 3) := dc_180 (byA eNcX4_pass (p := 5) (v := 180) (by decide +kernel)) (byA eNcX4_pass (p := 6) (v := 0) (by decide +kernel)) (byA eNcX4_pass (p := 7) (v := 9) (by decide +kernel)) rfl
theorem dX4_pass_8 : decode cX4_pass 8 = .ok (.getfield 22, 3) := dc_180 (byA eNcX4_pass (p := 8) (v := 180) (by decide +kernel)) (byA eNcX4_pass (p := 9) (v := 0) (by decide +kernel)) (byA eNcX4_pass (p := 10) (v := 22) (by decide +kernel)) rfl
theorem dX4_pass_11 : decode cX4_pass 11 = .ok (.if_icmp .ge 13, 3) := dc_162 (byA eNcX4_pass (p := 11) (v := 162) (by decide +kernel)) (byA eNcX4_pass (p := 12) (v := 0) (by decide +kernel)) (byA eNcX4_pass (p := 13) (v := 13) (by decide +kernel)) (by decide +kernel)
theorem dX4_pass_14 : decode cX4_pass 14 = .ok (.aload_n 0, 1) := dc_42 (byA eNcX4_pass (p := 14) (v := 42) (by decide +kernel))
theorem dX4_pass_15 : decode cX4_pass 15 = .ok (.dup, 1) := dc_89 (byA eNcX4_pass (p := 15) (v := 89) (by decide +kernel))
theorem dX4_pass_16 : decode cX4_pass 16 = .ok (.getfield 19, 3) := dc_180 (byA eNcX4_pass (p := 16) (v := 180) (by decide +kernel)) (byA eNcX4_pass (p := 17) (v := 0) (by decide +kernel)) (byA eNcX4_pass (p := 18) (v := 19) (by decide +kernel)) rfl
theorem dX4_pass_19 : decode cX4_pass 19 = .ok (.iconst 1, 1) := dc_4 (byA eNcX4_pass (p := 19) (v := 4) (by decide +kernel))
theorem dX4_pass_20 : decode cX4_pass 20 = .ok (.iadd, 1) := dc_96 (byA eNcX4_pass (p := 20) (v := 96) (by decide +kernel))
theorem dX4_pass_21 : decode cX4_pass 21 = .ok (.putfield 19, 3) := dc_181 (byA eNcX4_pass (p := 21) (v := 181) (by decide +kernel)) (byA eNcX4_pass (p := 22) (v := 0) (by decide +kernel)) (byA eNcX4_pass (p := 23) (v := 19) (by decide +kernel)) rfl
theorem dX4_pass_24 : decode cX4_pass 24 = .ok (.return_, 1) := dc_177 (byA eNcX4_pass (p := 24) (v := 177) (by decide +kernel))
def X4_pass (μ : Mm) : Rs := mR μ 3 0 (17, 2) fun v1 => if (μ v1 1) ≤ (μ 3 1) then (some (0, μ)) else (sF μ 3 1 (iA (μ 3 1) 1) fun μ4 => some (0, μ4))
set_option maxHeartbeats 4000000 in
set_option maxRecDepth 100000 in
theorem kX4_pass (d : Nat) (hd : 1 ≤ d) {μ : Mm} {r : Int} {μ' : Mm} (h : X4_pass μ = some (r, μ')) : CC d mX4_pass [vR 3] μ r μ' := by
  unfold X4_pass at h
  refine V_enter (by decide) (Nat.le_of_ble_eq_true rfl) ?_
  show VV d mX4_pass 0 [some (vR 3)] [] μ r μ'
  refine V_aload_n (q := 1) dX4_pass_0 rfl rfl rfl ?_
  refine V_getI (q := 4) fl_X4_19 rfl rfl rfl dX4_pass_1 rfl ?_
  refine V_aload_n (q := 5) dX4_pass_4 rfl rfl rfl ?_
  obtain ⟨hm2, h⟩ := mR_i h
  refine V_getM (q := 8) fl_X4_9 rfl rfl rfl dX4_pass_5 rfl ?_
  refine V_getI (q := 11) fl_X4_22 hm2 rfl rfl dX4_pass_8 rfl ?_
  refine V_icmpge (q := 24) (q2 := 14) dX4_pass_11 (by decide) rfl (fun hc3 => ?_) (fun hc3 => ?_)
  · have h := ifT hc3 h
    exact V_vret rfl h dX4_pass_24
  · have h := ifF hc3 h
    refine V_aload_n (q := 15) dX4_pass_14 rfl rfl rfl ?_
    refine V_dup (q := 16) dX4_pass_15 trivial rfl ?_
    refine V_getI (q := 19) fl_X4_19 rfl rfl rfl dX4_pass_16 rfl ?_
    refine V_iconst (q := 20) dX4_pass_19 rfl rfl ?_
    refine V_iadd (q := 21) dX4_pass_20 rfl ?_
    have h := sF_i h
    refine V_putI (q := 24) fl_X4_19 rfl rfl rfl dX4_pass_21 rfl ?_
    exact V_vret rfl h dX4_pass_24
abbrev mX0_put : Mth := (yX0_put, cX0_put, 6, none)
set_option maxRecDepth 100000 in
theorem mi_X0_put : Cond.instanceMethod yX0_put ∈ tG ∧ Cond.selects yX0_put.cls yX0_put yX0_put ∈ tG ∧ Cond.initialized yX0_put.cls ∈ tG ∧ Cond.code yX0_put cX0_put 6 (none) ∈ tG ∧ (yX0_put.cls ≠ "java/lang/invoke/MethodHandle" ∧ yX0_put.cls ≠ "java/lang/invoke/VarHandle" ∧ (parseMethodDescriptor yX0_put.desc).map (fun d => d.parameters.length) = some 3) ∧ 6 ≤ 60 := ⟨(tG_of (tb2 (List.mem_of_getElem? (i := 193) rfl)) (by decide +kernel)), (tG_of (List.mem_of_getElem? (i := 2) (by decide +kernel)) (by decide +kernel)), (tG_of (tb1 (List.mem_of_getElem? (i := 5) rfl)) (by decide +kernel)), (tG_of (tb2 (List.mem_of_getElem? (i := 194) rfl)) (by decide +kernel)), ⟨by decide, by decide, by decide +kernel⟩, by decide⟩
set_option maxRecDepth 100000 in
theorem mv_X0_71 : mV RX0 71 mX0_put 3 := ⟨(tG_of (tb2 (List.mem_of_getElem? (i := 191) rfl)) (by decide +kernel)), mi_X0_put⟩
theorem dX0_put_0 : decode cX0_put 0 = .ok (.iload_n 3, 1) := dc_29 (byA eNcX0_put (p := 0) (v := 29) (by decide +kernel))
theorem dX0_put_1 : decode cX0_put 1 = .ok (.iconst 3, 1) := dc_6 (byA eNcX0_put (p := 1) (v := 6) (by decide +kernel))
theorem dX0_put_2 : decode cX0_put 2 = .ok (.isub, 1) := dc_100 (byA eNcX0_put (p := 2) (v := 100) (by decide +kernel))
theorem dX0_put_3 : decode cX0_put 3 = .ok (.istore 4, 2) := dc_54 (byA eNcX0_put (p := 3) (v := 54) (by decide +kernel)) (byA eNcX0_put (p := 4) (v := 4) (by decide +kernel))
theorem dX0_put_5 : decode cX0_put 5 = .ok (.iload_n 3, 1) := dc_29 (byA eNcX0_put (p := 5) (v := 29) (by decide +kernel))
theorem dX0_put_6 : decode cX0_put 6 = .ok (.iconst 2, 1) := dc_5 (byA eNcX0_put (p := 6) (v := 5) (by decide +kernel))
theorem dX0_put_7 : decode cX0_put 7 = .ok (.if_icmp .ne 19, 3) := dc_160 (byA eNcX0_put (p := 7) (v := 160) (by decide +kernel)) (byA eNcX0_put (p := 8) (v := 0) (by decide +kernel)) (byA eNcX0_put (p := 9) (v := 19) (by decide +kernel)) (by decide +kernel)
theorem dX0_put_10 : decode cX0_put 10 = .ok (.aload_n 0, 1) := dc_42 (byA eNcX0_put (p := 10) (v := 42) (by decide +kernel))
theorem dX0_put_11 : decode cX0_put 11 = .ok (.getfield 24, 3) := dc_180 (byA eNcX0_put (p := 11) (v := 180) (by decide +kernel)) (byA eNcX0_put (p := 12) (v := 0) (by decide +kernel)) (byA eNcX0_put (p := 13) (v := 24) (by decide +kernel)) rfl
theorem dX0_put_14 : decode cX0_put 14 = .ok (.iconst (-1), 1) := dc_2 (byA eNcX0_put (p := 14) (v := 2) (by decide +kernel))
theorem dX0_put_15 : decode cX0_put 15 = .ok (.if_icmp .eq 7, 3) := dc_159 (byA eNcX0_put (p := 15) (v := 159) (by decide +kernel)) (byA eNcX0_put (p := 16) (v := 0) (by decide +kernel)) (byA eNcX0_put (p := 17) (v := 7) (by decide +kernel)) (by decide +kernel)
theorem dX0_put_18 : decode cX0_put 18 = .ok (.iconst 1, 1) := dc_4 (byA eNcX0_put (p := 18) (v := 4) (by decide +kernel))
theorem dX0_put_19 : decode cX0_put 19 = .ok (.goto 22, 3) := dc_167 (byA eNcX0_put (p := 19) (v := 167) (by decide +kernel)) (byA eNcX0_put (p := 20) (v := 0) (by decide +kernel)) (byA eNcX0_put (p := 21) (v := 22) (by decide +kernel)) (by decide +kernel)
theorem dX0_put_22 : decode cX0_put 22 = .ok (.iconst 0, 1) := dc_3 (byA eNcX0_put (p := 22) (v := 3) (by decide +kernel))
theorem dX0_put_23 : decode cX0_put 23 = .ok (.goto 18, 3) := dc_167 (byA eNcX0_put (p := 23) (v := 167) (by decide +kernel)) (byA eNcX0_put (p := 24) (v := 0) (by decide +kernel)) (byA eNcX0_put (p := 25) (v := 18) (by decide +kernel)) (by decide +kernel)
theorem dX0_put_26 : decode cX0_put 26 = .ok (.aload_n 0, 1) := dc_42 (byA eNcX0_put (p := 26) (v := 42) (by decide +kernel))
theorem dX0_put_27 : decode cX0_put 27 = .ok (.iload 4, 2) := dc_21 (byA eNcX0_put (p := 27) (v := 21) (by decide +kernel)) (byA eNcX0_put (p := 28) (v := 4) (by decide +kernel))
theorem dX0_put_29 : decode cX0_put 29 = .ok (.invokevirtual 75, 3) := dc_182 (byA eNcX0_put (p := 29) (v := 182) (by decide +kernel)) (byA eNcX0_put (p := 30) (v := 0) (by decide +kernel)) (byA eNcX0_put (p := 31) (v := 75) (by decide +kernel)) rfl
theorem dX0_put_32 : decode cX0_put 32 = .ok (.iconst (-1), 1) := dc_2 (byA eNcX0_put (p := 32) (v := 2) (by decide +kernel))
theorem dX0_put_33 : decode cX0_put 33 = .ok (.if_icmp .eq 7, 3) := dc_159 (byA eNcX0_put (p := 33) (v := 159) (by decide +kernel)) (byA eNcX0_put (p := 34) (v := 0) (by decide +kernel)) (byA eNcX0_put (p := 35) (v := 7) (by decide +kernel)) (by decide +kernel)
theorem dX0_put_36 : decode cX0_put 36 = .ok (.iconst 1, 1) := dc_4 (byA eNcX0_put (p := 36) (v := 4) (by decide +kernel))
theorem dX0_put_37 : decode cX0_put 37 = .ok (.goto 4, 3) := dc_167 (byA eNcX0_put (p := 37) (v := 167) (by decide +kernel)) (byA eNcX0_put (p := 38) (v := 0) (by decide +kernel)) (byA eNcX0_put (p := 39) (v := 4) (by decide +kernel)) (by decide +kernel)
theorem dX0_put_40 : decode cX0_put 40 = .ok (.iconst 0, 1) := dc_3 (byA eNcX0_put (p := 40) (v := 3) (by decide +kernel))
theorem dX0_put_41 : decode cX0_put 41 = .ok (.istore 5, 2) := dc_54 (byA eNcX0_put (p := 41) (v := 54) (by decide +kernel)) (byA eNcX0_put (p := 42) (v := 5) (by decide +kernel))
theorem dX0_put_43 : decode cX0_put 43 = .ok (.iload 5, 2) := dc_21 (byA eNcX0_put (p := 43) (v := 21) (by decide +kernel)) (byA eNcX0_put (p := 44) (v := 5) (by decide +kernel))
theorem dX0_put_45 : decode cX0_put 45 = .ok (.ifCond .eq 12, 3) := dc_153 (byA eNcX0_put (p := 45) (v := 153) (by decide +kernel)) (byA eNcX0_put (p := 46) (v := 0) (by decide +kernel)) (byA eNcX0_put (p := 47) (v := 12) (by decide +kernel)) (by decide +kernel)
theorem dX0_put_48 : decode cX0_put 48 = .ok (.aload_n 1, 1) := dc_43 (byA eNcX0_put (p := 48) (v := 43) (by decide +kernel))
theorem dX0_put_49 : decode cX0_put 49 = .ok (.aload_n 1, 1) := dc_43 (byA eNcX0_put (p := 49) (v := 43) (by decide +kernel))
theorem dX0_put_50 : decode cX0_put 50 = .ok (.getfield 53, 3) := dc_180 (byA eNcX0_put (p := 50) (v := 180) (by decide +kernel)) (byA eNcX0_put (p := 51) (v := 0) (by decide +kernel)) (byA eNcX0_put (p := 52) (v := 53) (by decide +kernel)) rfl
theorem dX0_put_53 : decode cX0_put 53 = .ok (.invokevirtual 56, 3) := dc_182 (byA eNcX0_put (p := 53) (v := 182) (by decide +kernel)) (byA eNcX0_put (p := 54) (v := 0) (by decide +kernel)) (byA eNcX0_put (p := 55) (v := 56) (by decide +kernel)) rfl
theorem dX0_put_56 : decode cX0_put 56 = .ok (.return_, 1) := dc_177 (byA eNcX0_put (p := 56) (v := 177) (by decide +kernel))
theorem dX0_put_57 : decode cX0_put 57 = .ok (.aload_n 1, 1) := dc_43 (byA eNcX0_put (p := 57) (v := 43) (by decide +kernel))
theorem dX0_put_58 : decode cX0_put 58 = .ok (.invokevirtual 78, 3) := dc_182 (byA eNcX0_put (p := 58) (v := 182) (by decide +kernel)) (byA eNcX0_put (p := 59) (v := 0) (by decide +kernel)) (byA eNcX0_put (p := 60) (v := 78) (by decide +kernel)) rfl
theorem dX0_put_61 : decode cX0_put 61 = .ok (.aload_n 0, 1) := dc_42 (byA eNcX0_put (p := 61) (v := 42) (by decide +kernel))
theorem dX0_put_62 : decode cX0_put 62 = .ok (.getfield 9, 3) := dc_180 (byA eNcX0_put (p := 62) (v := 180) (by decide +kernel)) (byA eNcX0_put (p := 63) (v := 0) (by decide +kernel)) (byA eNcX0_put (p := 64) (v := 9) (by decide +kernel)) rfl
theorem dX0_put_65 : decode cX0_put 65 = .ok (.iload_n 2, 1) := dc_28 (byA eNcX0_put (p := 65) (v := 28) (by decide +kernel))
theorem dX0_put_66 : decode cX0_put 66 = .ok (.iload_n 3, 1) := dc_29 (byA eNcX0_put (p := 66) (v := 29) (by decide +kernel))
theorem dX0_put_67 : decode cX0_put 67 = .ok (.iastore, 1) := dc_79 (byA eNcX0_put (p := 67) (v := 79) (by decide +kernel))
theorem dX0_put_68 : decode cX0_put 68 = .ok (.iload_n 3, 1) := dc_29 (byA eNcX0_put (p := 68) (v := 29) (by decide +kernel))
theorem dX0_put_69 : decode cX0_put 69 = .ok (.iconst 2, 1) := dc_5 (byA eNcX0_put (p := 69) (v := 5) (by decide +kernel))
theorem dX0_put_70 : decode cX0_put 70 = .ok (.if_icmp .ne 11, 3) := dc_160 (byA eNcX0_put (p := 70) (v := 160) (by decide +kernel)) (byA eNcX0_put (p := 71) (v := 0) (by decide +kernel)) (byA eNcX0_put (p := 72) (v := 11) (by decide +kernel)) (by decide +kernel)
theorem dX0_put_73 : decode cX0_put 73 = .ok (.aload_n 0, 1) := dc_42 (byA eNcX0_put (p := 73) (v := 42) (by decide +kernel))
theorem dX0_put_74 : decode cX0_put 74 = .ok (.iload_n 2, 1) := dc_28 (byA eNcX0_put (p := 74) (v := 28) (by decide +kernel))
theorem dX0_put_75 : decode cX0_put 75 = .ok (.putfield 24, 3) := dc_181 (byA eNcX0_put (p := 75) (v := 181) (by decide +kernel)) (byA eNcX0_put (p := 76) (v := 0) (by decide +kernel)) (byA eNcX0_put (p := 77) (v := 24) (by decide +kernel)) rfl
theorem dX0_put_78 : decode cX0_put 78 = .ok (.goto 44, 3) := dc_167 (byA eNcX0_put (p := 78) (v := 167) (by decide +kernel)) (byA eNcX0_put (p := 79) (v := 0) (by decide +kernel)) (byA eNcX0_put (p := 80) (v := 44) (by decide +kernel)) (by decide +kernel)
theorem dX0_put_81 : decode cX0_put 81 = .ok (.iload_n 3, 1) := dc_29 (byA eNcX0_put (p := 81) (v := 29) (by decide +kernel))
theorem dX0_put_82 : decode cX0_put 82 = .ok (.iconst 1, 1) := dc_4 (byA eNcX0_put (p := 82) (v := 4) (by decide +kernel))
theorem dX0_put_83 : decode cX0_put 83 = .ok (.if_icmp .ne 16, 3) := dc_160 (byA eNcX0_put (p := 83) (v := 160) (by decide +kernel)) (byA eNcX0_put (p := 84) (v := 0) (by decide +kernel)) (byA eNcX0_put (p := 85) (v := 16) (by decide +kernel)) (by decide +kernel)
theorem dX0_put_86 : decode cX0_put 86 = .ok (.aload_n 0, 1) := dc_42 (byA eNcX0_put (p := 86) (v := 42) (by decide +kernel))
theorem dX0_put_87 : decode cX0_put 87 = .ok (.dup, 1) := dc_89 (byA eNcX0_put (p := 87) (v := 89) (by decide +kernel))
theorem dX0_put_88 : decode cX0_put 88 = .ok (.getfield 34, 3) := dc_180 (byA eNcX0_put (p := 88) (v := 180) (by decide +kernel)) (byA eNcX0_put (p := 89) (v := 0) (by decide +kernel)) (byA eNcX0_put (p := 90) (v := 34) (by decide +kernel)) rfl
theorem dX0_put_91 : decode cX0_put 91 = .ok (.iconst 1, 1) := dc_4 (byA eNcX0_put (p := 91) (v := 4) (by decide +kernel))
theorem dX0_put_92 : decode cX0_put 92 = .ok (.iadd, 1) := dc_96 (byA eNcX0_put (p := 92) (v := 96) (by decide +kernel))
theorem dX0_put_93 : decode cX0_put 93 = .ok (.putfield 34, 3) := dc_181 (byA eNcX0_put (p := 93) (v := 181) (by decide +kernel)) (byA eNcX0_put (p := 94) (v := 0) (by decide +kernel)) (byA eNcX0_put (p := 95) (v := 34) (by decide +kernel)) rfl
theorem dX0_put_96 : decode cX0_put 96 = .ok (.goto 26, 3) := dc_167 (byA eNcX0_put (p := 96) (v := 167) (by decide +kernel)) (byA eNcX0_put (p := 97) (v := 0) (by decide +kernel)) (byA eNcX0_put (p := 98) (v := 26) (by decide +kernel)) (by decide +kernel)
theorem dX0_put_99 : decode cX0_put 99 = .ok (.iload 4, 2) := dc_21 (byA eNcX0_put (p := 99) (v := 21) (by decide +kernel)) (byA eNcX0_put (p := 100) (v := 4) (by decide +kernel))
theorem dX0_put_101 : decode cX0_put 101 = .ok (.ifCond .lt 21, 3) := dc_155 (byA eNcX0_put (p := 101) (v := 155) (by decide +kernel)) (byA eNcX0_put (p := 102) (v := 0) (by decide +kernel)) (byA eNcX0_put (p := 103) (v := 21) (by decide +kernel)) (by decide +kernel)
theorem dX0_put_104 : decode cX0_put 104 = .ok (.aload_n 0, 1) := dc_42 (byA eNcX0_put (p := 104) (v := 42) (by decide +kernel))
theorem dX0_put_105 : decode cX0_put 105 = .ok (.getfield 15, 3) := dc_180 (byA eNcX0_put (p := 105) (v := 180) (by decide +kernel)) (byA eNcX0_put (p := 106) (v := 0) (by decide +kernel)) (byA eNcX0_put (p := 107) (v := 15) (by decide +kernel)) rfl
theorem dX0_put_108 : decode cX0_put 108 = .ok (.iload 4, 2) := dc_21 (byA eNcX0_put (p := 108) (v := 21) (by decide +kernel)) (byA eNcX0_put (p := 109) (v := 4) (by decide +kernel))
theorem dX0_put_110 : decode cX0_put 110 = .ok (.iload_n 2, 1) := dc_28 (byA eNcX0_put (p := 110) (v := 28) (by decide +kernel))
theorem dX0_put_111 : decode cX0_put 111 = .ok (.iastore, 1) := dc_79 (byA eNcX0_put (p := 111) (v := 79) (by decide +kernel))
theorem dX0_put_112 : decode cX0_put 112 = .ok (.aload_n 0, 1) := dc_42 (byA eNcX0_put (p := 112) (v := 42) (by decide +kernel))
theorem dX0_put_113 : decode cX0_put 113 = .ok (.dup, 1) := dc_89 (byA eNcX0_put (p := 113) (v := 89) (by decide +kernel))
theorem dX0_put_114 : decode cX0_put 114 = .ok (.getfield 31, 3) := dc_180 (byA eNcX0_put (p := 114) (v := 180) (by decide +kernel)) (byA eNcX0_put (p := 115) (v := 0) (by decide +kernel)) (byA eNcX0_put (p := 116) (v := 31) (by decide +kernel)) rfl
theorem dX0_put_117 : decode cX0_put 117 = .ok (.iconst 1, 1) := dc_4 (byA eNcX0_put (p := 117) (v := 4) (by decide +kernel))
theorem dX0_put_118 : decode cX0_put 118 = .ok (.iadd, 1) := dc_96 (byA eNcX0_put (p := 118) (v := 96) (by decide +kernel))
theorem dX0_put_119 : decode cX0_put 119 = .ok (.putfield 31, 3) := dc_181 (byA eNcX0_put (p := 119) (v := 181) (by decide +kernel)) (byA eNcX0_put (p := 120) (v := 0) (by decide +kernel)) (byA eNcX0_put (p := 121) (v := 31) (by decide +kernel)) rfl
theorem dX0_put_122 : decode cX0_put 122 = .ok (.return_, 1) := dc_177 (byA eNcX0_put (p := 122) (v := 177) (by decide +kernel))
def X0_put_J41 (l0 : Nat) (l2 : Int) (l3 : Int) (l4 : Int) (s0 : Int) (μ : Mm) : Rs := if s0 = 0 then (bd (X4_pass μ) fun v7 μ8 => stA μ8 (l0 + 1) l2 l3 fun μ10 => if l3 = 2 then (sF μ10 l0 3 l2 fun μ19 => some (0, μ19)) else (if l3 = 1 then (sF μ10 l0 6 (iA (μ10 l0 6) 1) fun μ18 => some (0, μ18)) else (if l4 < 0 then (some (0, μ10)) else (stA μ10 (l0 + 2) l4 l2 fun μ15 => sF μ15 l0 5 (iA (μ15 l0 5) 1) fun μ17 => some (0, μ17))))) else (bd (X4_refuseAt (μ 3 1) μ) fun v20 μ21 => some (0, μ21))
def X0_put (l0 : Nat) (l2 : Int) (l3 : Int) (μ : Mm) : Rs := if l3 = 2 then (if (μ l0 3) = (-1) then (X0_put_J41 l0 l2 l3 (iS l3 3) 0 μ) else (X0_put_J41 l0 l2 l3 (iS l3 3) 1 μ)) else (bd (X0_placeOf l0 (iS l3 3) μ) fun v2 μ3 => if v2 = (-1) then (X0_put_J41 l0 l2 l3 (iS l3 3) 0 μ3) else (X0_put_J41 l0 l2 l3 (iS l3 3) 1 μ3))
set_option maxHeartbeats 4000000 in
set_option maxRecDepth 100000 in
theorem kX0_put_J41 (d : Nat) (hd : 2 ≤ d) {l0 : Nat} {l2 : Int} {l3 : Int} {l4 : Int} {s0 : Int} (hk0 : kD l0 = (10, 9)) {μ : Mm} {r : Int} {μ' : Mm} (h : X0_put_J41 l0 l2 l3 l4 s0 μ = some (r, μ')) : VV d mX0_put 41 [some (vR l0), some (vR 3), some (vI l2), some (vI l3), some (vI l4), none] [vI s0] μ r μ' := by
  unfold X0_put_J41 at h
  refine V_istore (q := 43) dX0_put_41 (Nat.le_of_ble_eq_true rfl) trivial rfl ?_
  refine V_iload (q := 45) dX0_put_43 rfl rfl ?_
  refine V_ifeq (q := 57) (q2 := 48) dX0_put_45 (by decide) rfl (fun hc6 => ?_) (fun hc6 => ?_)
  · have h := ifT hc6 h
    refine V_aload_n (q := 58) dX0_put_57 rfl rfl rfl ?_
    obtain ⟨v7, μ8, hc9, h⟩ := bd_i h
    refine V_cV0 (q := 61) (kX4_pass (d - 1) (by omega) hc9) (by omega) mv_X0_78 rfl rfl rfl rfl rfl rfl dX0_put_58 rfl ?_
    refine V_aload_n (q := 62) dX0_put_61 rfl rfl rfl ?_
    refine V_getO (q := 65) (t := _) fl_X0_9 hk0 rfl rfl rfl dX0_put_62 rfl ?_
    refine V_iload_n (q := 66) dX0_put_65 rfl rfl rfl ?_
    refine V_iload_n (q := 67) dX0_put_66 rfl rfl rfl ?_
    obtain ⟨hi11, h⟩ := stA_i h
    refine V_iastore (q := 68) (kdo_0_0 hk0) hi11 dX0_put_67 rfl ?_
    refine V_iload_n (q := 69) dX0_put_68 rfl rfl rfl ?_
    refine V_iconst (q := 70) dX0_put_69 rfl rfl ?_
    refine V_icmpne (q := 81) (q2 := 73) dX0_put_70 (by decide) rfl (fun hc12 => ?_) (fun hc12 => ?_)
    · have h := ifF hc12 h
      refine V_iload_n (q := 82) dX0_put_81 rfl rfl rfl ?_
      refine V_iconst (q := 83) dX0_put_82 rfl rfl ?_
      refine V_icmpne (q := 99) (q2 := 86) dX0_put_83 (by decide) rfl (fun hc13 => ?_) (fun hc13 => ?_)
      · have h := ifF hc13 h
        refine V_iload (q := 101) dX0_put_99 rfl rfl ?_
        refine V_iflt (q := 122) (q2 := 104) dX0_put_101 (by decide) rfl (fun hc14 => ?_) (fun hc14 => ?_)
        · have h := ifT hc14 h
          exact V_vret rfl h dX0_put_122
        · have h := ifF hc14 h
          refine V_aload_n (q := 105) dX0_put_104 rfl rfl rfl ?_
          refine V_getO (q := 108) (t := _) fl_X0_15 hk0 rfl rfl rfl dX0_put_105 rfl ?_
          refine V_iload (q := 110) dX0_put_108 rfl rfl ?_
          refine V_iload_n (q := 111) dX0_put_110 rfl rfl rfl ?_
          obtain ⟨hi16, h⟩ := stA_i h
          refine V_iastore (q := 112) (kdo_0_1 hk0) hi16 dX0_put_111 rfl ?_
          refine V_aload_n (q := 113) dX0_put_112 rfl rfl rfl ?_
          refine V_dup (q := 114) dX0_put_113 trivial rfl ?_
          refine V_getI (q := 117) fl_X0_31 hk0 rfl rfl dX0_put_114 rfl ?_
          refine V_iconst (q := 118) dX0_put_117 rfl rfl ?_
          refine V_iadd (q := 119) dX0_put_118 rfl ?_
          have h := sF_i h
          refine V_putI (q := 122) fl_X0_31 hk0 rfl rfl dX0_put_119 rfl ?_
          exact V_vret rfl h dX0_put_122
      · have h := ifT hc13 h
        refine V_aload_n (q := 87) dX0_put_86 rfl rfl rfl ?_
        refine V_dup (q := 88) dX0_put_87 trivial rfl ?_
        refine V_getI (q := 91) fl_X0_34 hk0 rfl rfl dX0_put_88 rfl ?_
        refine V_iconst (q := 92) dX0_put_91 rfl rfl ?_
        refine V_iadd (q := 93) dX0_put_92 rfl ?_
        have h := sF_i h
        refine V_putI (q := 96) fl_X0_34 hk0 rfl rfl dX0_put_93 rfl ?_
        refine V_goto (q := 122) dX0_put_96 (by decide) ?_
        exact V_vret rfl h dX0_put_122
    · have h := ifT hc12 h
      refine V_aload_n (q := 74) dX0_put_73 rfl rfl rfl ?_
      refine V_iload_n (q := 75) dX0_put_74 rfl rfl rfl ?_
      have h := sF_i h
      refine V_putI (q := 78) fl_X0_24 hk0 rfl rfl dX0_put_75 rfl ?_
      refine V_goto (q := 122) dX0_put_78 (by decide) ?_
      exact V_vret rfl h dX0_put_122
  · have h := ifF hc6 h
    refine V_aload_n (q := 49) dX0_put_48 rfl rfl rfl ?_
    refine V_aload_n (q := 50) dX0_put_49 rfl rfl rfl ?_
    refine V_getI (q := 53) fl_X0_53 rfl rfl rfl dX0_put_50 rfl ?_
    obtain ⟨v20, μ21, hc22, h⟩ := bd_i h
    refine V_cV0 (q := 56) (kX4_refuseAt (d - 1) (by omega) hc22) (by omega) mv_X0_56 rfl rfl rfl rfl rfl rfl dX0_put_53 rfl ?_
    exact V_vret rfl h dX0_put_56
set_option maxHeartbeats 4000000 in
set_option maxRecDepth 100000 in
theorem kX0_put (d : Nat) (hd : 2 ≤ d) {l0 : Nat} {l2 : Int} {l3 : Int} (hk0 : kD l0 = (10, 9)) {μ : Mm} {r : Int} {μ' : Mm} (h : X0_put l0 l2 l3 μ = some (r, μ')) : CC d mX0_put [vR l0, vR 3, vI l2, vI l3] μ r μ' := by
  unfold X0_put at h
  refine V_enter (by decide) (Nat.le_of_ble_eq_true rfl) ?_
  show VV d mX0_put 0 [some (vR l0), some (vR 3), some (vI l2), some (vI l3), none, none] [] μ r μ'
  refine V_iload_n (q := 1) dX0_put_0 rfl rfl rfl ?_
  refine V_iconst (q := 2) dX0_put_1 rfl rfl ?_
  refine V_isub (q := 3) dX0_put_2 rfl ?_
  refine V_istore (q := 5) dX0_put_3 (Nat.le_of_ble_eq_true rfl) trivial rfl ?_
  refine V_iload_n (q := 6) dX0_put_5 rfl rfl rfl ?_
  refine V_iconst (q := 7) dX0_put_6 rfl rfl ?_
  refine V_icmpne (q := 26) (q2 := 10) dX0_put_7 (by decide) rfl (fun hc1 => ?_) (fun hc1 => ?_)
  · have h := ifF hc1 h
    refine V_aload_n (q := 27) dX0_put_26 rfl rfl rfl ?_
    refine V_iload (q := 29) dX0_put_27 rfl rfl ?_
    obtain ⟨v2, μ3, hc4, h⟩ := bd_i h
    refine V_cV1 (q := 32) (v := vI v2) (kX0_placeOf (d - 1) (by omega) hk0 hc4) (by omega) mv_X0_75 hk0 rfl rfl rfl rfl rfl dX0_put_29 rfl ?_
    refine V_iconst (q := 33) dX0_put_32 rfl rfl ?_
    refine V_icmpeq (q := 40) (q2 := 36) dX0_put_33 (by decide) rfl (fun hc5 => ?_) (fun hc5 => ?_)
    · have h := ifT hc5 h
      refine V_iconst (q := 41) dX0_put_40 rfl rfl ?_
      exact V_weak (kX0_put_J41 d hd hk0 h) (sb_s rfl (sb_s rfl (sb_s rfl (sb_s rfl (sb_s rfl (sb_n sb_0))))))
    · have h := ifF hc5 h
      refine V_iconst (q := 37) dX0_put_36 rfl rfl ?_
      refine V_goto (q := 41) dX0_put_37 (by decide) ?_
      exact V_weak (kX0_put_J41 d hd hk0 h) (sb_s rfl (sb_s rfl (sb_s rfl (sb_s rfl (sb_s rfl (sb_n sb_0))))))
  · have h := ifT hc1 h
    refine V_aload_n (q := 11) dX0_put_10 rfl rfl rfl ?_
    refine V_getI (q := 14) fl_X0_24 hk0 rfl rfl dX0_put_11 rfl ?_
    refine V_iconst (q := 15) dX0_put_14 rfl rfl ?_
    refine V_icmpeq (q := 22) (q2 := 18) dX0_put_15 (by decide) rfl (fun hc23 => ?_) (fun hc23 => ?_)
    · have h := ifT hc23 h
      refine V_iconst (q := 23) dX0_put_22 rfl rfl ?_
      refine V_goto (q := 41) dX0_put_23 (by decide) ?_
      exact V_weak (kX0_put_J41 d hd hk0 h) (sb_s rfl (sb_s rfl (sb_s rfl (sb_s rfl (sb_s rfl (sb_n sb_0))))))
    · have h := ifF hc23 h
      refine V_iconst (q := 19) dX0_put_18 rfl rfl ?_
      refine V_goto (q := 41) dX0_put_19 (by decide) ?_
      exact V_weak (kX0_put_J41 d hd hk0 h) (sb_s rfl (sb_s rfl (sb_s rfl (sb_s rfl (sb_s rfl (sb_n sb_0))))))
abbrev mX0_readRow : Mth := (yX0_readRow, cX0_readRow, 6, none)
set_option maxRecDepth 100000 in
theorem mi_X0_readRow : Cond.instanceMethod yX0_readRow ∈ tG ∧ Cond.selects yX0_readRow.cls yX0_readRow yX0_readRow ∈ tG ∧ Cond.initialized yX0_readRow.cls ∈ tG ∧ Cond.code yX0_readRow cX0_readRow 6 (none) ∈ tG ∧ (yX0_readRow.cls ≠ "java/lang/invoke/MethodHandle" ∧ yX0_readRow.cls ≠ "java/lang/invoke/VarHandle" ∧ (parseMethodDescriptor yX0_readRow.desc).map (fun d => d.parameters.length) = some 2) ∧ 6 ≤ 60 := ⟨(tG_of (tb2 (List.mem_of_getElem? (i := 182) rfl)) (by decide +kernel)), (tG_of (List.mem_of_getElem? (i := 1) (by decide +kernel)) (by decide +kernel)), (tG_of (tb1 (List.mem_of_getElem? (i := 5) rfl)) (by decide +kernel)), (tG_of (tb2 (List.mem_of_getElem? (i := 183) rfl)) (by decide +kernel)), ⟨by decide, by decide, by decide +kernel⟩, by decide⟩
set_option maxRecDepth 100000 in
theorem mv_X0_40 : mV RX0 40 mX0_readRow 2 := ⟨(tG_of (tb2 (List.mem_of_getElem? (i := 180) rfl)) (by decide +kernel)), mi_X0_readRow⟩
theorem dX0_readRow_0 : decode cX0_readRow 0 = .ok (.iload_n 2, 1) := dc_28 (byA eNcX0_readRow (p := 0) (v := 28) (by decide +kernel))
theorem dX0_readRow_1 : decode cX0_readRow 1 = .ok (.ifCond .ne 8, 3) := dc_154 (byA eNcX0_readRow (p := 1) (v := 154) (by decide +kernel)) (byA eNcX0_readRow (p := 2) (v := 0) (by decide +kernel)) (byA eNcX0_readRow (p := 3) (v := 8) (by decide +kernel)) (by decide +kernel)
theorem dX0_readRow_4 : decode cX0_readRow 4 = .ok (.bipush 9, 2) := dc_16 (byA eNcX0_readRow (p := 4) (v := 16) (by decide +kernel)) (byA eNcX0_readRow (p := 5) (v := 9) (by decide +kernel)) (by decide +kernel)
theorem dX0_readRow_6 : decode cX0_readRow 6 = .ok (.goto 7, 3) := dc_167 (byA eNcX0_readRow (p := 6) (v := 167) (by decide +kernel)) (byA eNcX0_readRow (p := 7) (v := 0) (by decide +kernel)) (byA eNcX0_readRow (p := 8) (v := 7) (by decide +kernel)) (by decide +kernel)
theorem dX0_readRow_9 : decode cX0_readRow 9 = .ok (.aload_n 0, 1) := dc_42 (byA eNcX0_readRow (p := 9) (v := 42) (by decide +kernel))
theorem dX0_readRow_10 : decode cX0_readRow 10 = .ok (.getfield 28, 3) := dc_180 (byA eNcX0_readRow (p := 10) (v := 180) (by decide +kernel)) (byA eNcX0_readRow (p := 11) (v := 0) (by decide +kernel)) (byA eNcX0_readRow (p := 12) (v := 28) (by decide +kernel)) rfl
theorem dX0_readRow_13 : decode cX0_readRow 13 = .ok (.istore_n 3, 1) := dc_62 (byA eNcX0_readRow (p := 13) (v := 62) (by decide +kernel))
theorem dX0_readRow_14 : decode cX0_readRow 14 = .ok (.iconst 0, 1) := dc_3 (byA eNcX0_readRow (p := 14) (v := 3) (by decide +kernel))
theorem dX0_readRow_15 : decode cX0_readRow 15 = .ok (.istore 4, 2) := dc_54 (byA eNcX0_readRow (p := 15) (v := 54) (by decide +kernel)) (byA eNcX0_readRow (p := 16) (v := 4) (by decide +kernel))
theorem dX0_readRow_17 : decode cX0_readRow 17 = .ok (.iload 4, 2) := dc_21 (byA eNcX0_readRow (p := 17) (v := 21) (by decide +kernel)) (byA eNcX0_readRow (p := 18) (v := 4) (by decide +kernel))
theorem dX0_readRow_19 : decode cX0_readRow 19 = .ok (.iload_n 3, 1) := dc_29 (byA eNcX0_readRow (p := 19) (v := 29) (by decide +kernel))
theorem dX0_readRow_20 : decode cX0_readRow 20 = .ok (.if_icmp .ge 41, 3) := dc_162 (byA eNcX0_readRow (p := 20) (v := 162) (by decide +kernel)) (byA eNcX0_readRow (p := 21) (v := 0) (by decide +kernel)) (byA eNcX0_readRow (p := 22) (v := 41) (by decide +kernel)) (by decide +kernel)
theorem dX0_readRow_23 : decode cX0_readRow 23 = .ok (.aload_n 1, 1) := dc_43 (byA eNcX0_readRow (p := 23) (v := 43) (by decide +kernel))
theorem dX0_readRow_24 : decode cX0_readRow 24 = .ok (.invokevirtual 63, 3) := dc_182 (byA eNcX0_readRow (p := 24) (v := 182) (by decide +kernel)) (byA eNcX0_readRow (p := 25) (v := 0) (by decide +kernel)) (byA eNcX0_readRow (p := 26) (v := 63) (by decide +kernel)) rfl
theorem dX0_readRow_27 : decode cX0_readRow 27 = .ok (.invokestatic 67, 3) := dc_184 (byA eNcX0_readRow (p := 27) (v := 184) (by decide +kernel)) (byA eNcX0_readRow (p := 28) (v := 0) (by decide +kernel)) (byA eNcX0_readRow (p := 29) (v := 67) (by decide +kernel)) rfl
theorem dX0_readRow_30 : decode cX0_readRow 30 = .ok (.istore 5, 2) := dc_54 (byA eNcX0_readRow (p := 30) (v := 54) (by decide +kernel)) (byA eNcX0_readRow (p := 31) (v := 5) (by decide +kernel))
theorem dX0_readRow_32 : decode cX0_readRow 32 = .ok (.iload 5, 2) := dc_21 (byA eNcX0_readRow (p := 32) (v := 21) (by decide +kernel)) (byA eNcX0_readRow (p := 33) (v := 5) (by decide +kernel))
theorem dX0_readRow_34 : decode cX0_readRow 34 = .ok (.iconst (-1), 1) := dc_2 (byA eNcX0_readRow (p := 34) (v := 2) (by decide +kernel))
theorem dX0_readRow_35 : decode cX0_readRow 35 = .ok (.if_icmp .ne 6, 3) := dc_160 (byA eNcX0_readRow (p := 35) (v := 160) (by decide +kernel)) (byA eNcX0_readRow (p := 36) (v := 0) (by decide +kernel)) (byA eNcX0_readRow (p := 37) (v := 6) (by decide +kernel)) (by decide +kernel)
theorem dX0_readRow_38 : decode cX0_readRow 38 = .ok (.goto 23, 3) := dc_167 (byA eNcX0_readRow (p := 38) (v := 167) (by decide +kernel)) (byA eNcX0_readRow (p := 39) (v := 0) (by decide +kernel)) (byA eNcX0_readRow (p := 40) (v := 23) (by decide +kernel)) (by decide +kernel)
theorem dX0_readRow_41 : decode cX0_readRow 41 = .ok (.aload_n 0, 1) := dc_42 (byA eNcX0_readRow (p := 41) (v := 42) (by decide +kernel))
theorem dX0_readRow_42 : decode cX0_readRow 42 = .ok (.aload_n 1, 1) := dc_43 (byA eNcX0_readRow (p := 42) (v := 43) (by decide +kernel))
theorem dX0_readRow_43 : decode cX0_readRow 43 = .ok (.bipush 10, 2) := dc_16 (byA eNcX0_readRow (p := 43) (v := 16) (by decide +kernel)) (byA eNcX0_readRow (p := 44) (v := 10) (by decide +kernel)) (by decide +kernel)
theorem dX0_readRow_45 : decode cX0_readRow 45 = .ok (.iload_n 2, 1) := dc_28 (byA eNcX0_readRow (p := 45) (v := 28) (by decide +kernel))
theorem dX0_readRow_46 : decode cX0_readRow 46 = .ok (.imul, 1) := dc_104 (byA eNcX0_readRow (p := 46) (v := 104) (by decide +kernel))
theorem dX0_readRow_47 : decode cX0_readRow 47 = .ok (.iload 4, 2) := dc_21 (byA eNcX0_readRow (p := 47) (v := 21) (by decide +kernel)) (byA eNcX0_readRow (p := 48) (v := 4) (by decide +kernel))
theorem dX0_readRow_49 : decode cX0_readRow 49 = .ok (.iadd, 1) := dc_96 (byA eNcX0_readRow (p := 49) (v := 96) (by decide +kernel))
theorem dX0_readRow_50 : decode cX0_readRow 50 = .ok (.iload 5, 2) := dc_21 (byA eNcX0_readRow (p := 50) (v := 21) (by decide +kernel)) (byA eNcX0_readRow (p := 51) (v := 5) (by decide +kernel))
theorem dX0_readRow_52 : decode cX0_readRow 52 = .ok (.invokevirtual 71, 3) := dc_182 (byA eNcX0_readRow (p := 52) (v := 182) (by decide +kernel)) (byA eNcX0_readRow (p := 53) (v := 0) (by decide +kernel)) (byA eNcX0_readRow (p := 54) (v := 71) (by decide +kernel)) rfl
theorem dX0_readRow_55 : decode cX0_readRow 55 = .ok (.iinc 4 1, 3) := dc_132 (byA eNcX0_readRow (p := 55) (v := 132) (by decide +kernel)) (byA eNcX0_readRow (p := 56) (v := 4) (by decide +kernel)) (byA eNcX0_readRow (p := 57) (v := 1) (by decide +kernel)) (by decide +kernel)
theorem dX0_readRow_58 : decode cX0_readRow 58 = .ok (.goto (-41), 3) := dc_167 (byA eNcX0_readRow (p := 58) (v := 167) (by decide +kernel)) (byA eNcX0_readRow (p := 59) (v := 255) (by decide +kernel)) (byA eNcX0_readRow (p := 60) (v := 215) (by decide +kernel)) (by decide +kernel)
theorem dX0_readRow_61 : decode cX0_readRow 61 = .ok (.iload_n 2, 1) := dc_28 (byA eNcX0_readRow (p := 61) (v := 28) (by decide +kernel))
theorem dX0_readRow_62 : decode cX0_readRow 62 = .ok (.ifCond .ne 9, 3) := dc_154 (byA eNcX0_readRow (p := 62) (v := 154) (by decide +kernel)) (byA eNcX0_readRow (p := 63) (v := 0) (by decide +kernel)) (byA eNcX0_readRow (p := 64) (v := 9) (by decide +kernel)) (by decide +kernel)
theorem dX0_readRow_65 : decode cX0_readRow 65 = .ok (.aload_n 0, 1) := dc_42 (byA eNcX0_readRow (p := 65) (v := 42) (by decide +kernel))
theorem dX0_readRow_66 : decode cX0_readRow 66 = .ok (.iload 4, 2) := dc_21 (byA eNcX0_readRow (p := 66) (v := 21) (by decide +kernel)) (byA eNcX0_readRow (p := 67) (v := 4) (by decide +kernel))
theorem dX0_readRow_68 : decode cX0_readRow 68 = .ok (.putfield 28, 3) := dc_181 (byA eNcX0_readRow (p := 68) (v := 181) (by decide +kernel)) (byA eNcX0_readRow (p := 69) (v := 0) (by decide +kernel)) (byA eNcX0_readRow (p := 70) (v := 28) (by decide +kernel)) rfl
theorem dX0_readRow_71 : decode cX0_readRow 71 = .ok (.iload 4, 2) := dc_21 (byA eNcX0_readRow (p := 71) (v := 21) (by decide +kernel)) (byA eNcX0_readRow (p := 72) (v := 4) (by decide +kernel))
theorem dX0_readRow_73 : decode cX0_readRow 73 = .ok (.iconst 2, 1) := dc_5 (byA eNcX0_readRow (p := 73) (v := 5) (by decide +kernel))
theorem dX0_readRow_74 : decode cX0_readRow 74 = .ok (.if_icmp .lt 12, 3) := dc_161 (byA eNcX0_readRow (p := 74) (v := 161) (by decide +kernel)) (byA eNcX0_readRow (p := 75) (v := 0) (by decide +kernel)) (byA eNcX0_readRow (p := 76) (v := 12) (by decide +kernel)) (by decide +kernel)
theorem dX0_readRow_77 : decode cX0_readRow 77 = .ok (.iload 4, 2) := dc_21 (byA eNcX0_readRow (p := 77) (v := 21) (by decide +kernel)) (byA eNcX0_readRow (p := 78) (v := 4) (by decide +kernel))
theorem dX0_readRow_79 : decode cX0_readRow 79 = .ok (.aload_n 0, 1) := dc_42 (byA eNcX0_readRow (p := 79) (v := 42) (by decide +kernel))
theorem dX0_readRow_80 : decode cX0_readRow 80 = .ok (.getfield 28, 3) := dc_180 (byA eNcX0_readRow (p := 80) (v := 180) (by decide +kernel)) (byA eNcX0_readRow (p := 81) (v := 0) (by decide +kernel)) (byA eNcX0_readRow (p := 82) (v := 28) (by decide +kernel)) rfl
theorem dX0_readRow_83 : decode cX0_readRow 83 = .ok (.if_icmp .ge 11, 3) := dc_162 (byA eNcX0_readRow (p := 83) (v := 162) (by decide +kernel)) (byA eNcX0_readRow (p := 84) (v := 0) (by decide +kernel)) (byA eNcX0_readRow (p := 85) (v := 11) (by decide +kernel)) (by decide +kernel)
theorem dX0_readRow_86 : decode cX0_readRow 86 = .ok (.aload_n 1, 1) := dc_43 (byA eNcX0_readRow (p := 86) (v := 43) (by decide +kernel))
theorem dX0_readRow_87 : decode cX0_readRow 87 = .ok (.aload_n 1, 1) := dc_43 (byA eNcX0_readRow (p := 87) (v := 43) (by decide +kernel))
theorem dX0_readRow_88 : decode cX0_readRow 88 = .ok (.getfield 53, 3) := dc_180 (byA eNcX0_readRow (p := 88) (v := 180) (by decide +kernel)) (byA eNcX0_readRow (p := 89) (v := 0) (by decide +kernel)) (byA eNcX0_readRow (p := 90) (v := 53) (by decide +kernel)) rfl
theorem dX0_readRow_91 : decode cX0_readRow 91 = .ok (.invokevirtual 56, 3) := dc_182 (byA eNcX0_readRow (p := 91) (v := 182) (by decide +kernel)) (byA eNcX0_readRow (p := 92) (v := 0) (by decide +kernel)) (byA eNcX0_readRow (p := 93) (v := 56) (by decide +kernel)) rfl
theorem dX0_readRow_94 : decode cX0_readRow 94 = .ok (.return_, 1) := dc_177 (byA eNcX0_readRow (p := 94) (v := 177) (by decide +kernel))
def X0_readRow_L17 (l0 : Nat) (l2 : Int) (l3 : Int) (k61 : Int → Mm → Rs) (k38 : Int → Mm → Rs) : Nat → Int → Mm → Rs
  | 0, _, _ => none
  | n + 1, l4, μ => if l3 ≤ l4 then (k61 l4 μ) else (bd (X4_peek μ) fun v3 μ4 => bd (X0_cellOf v3 μ4) fun v6 μ7 => if v6 = (-1) then (k38 l4 μ7) else (bd (X0_put l0 (iA (iM 10 l2) l4) v6 μ7) fun v10 μ11 => X0_readRow_L17 l0 l2 l3 k61 k38 n (iA l4 1) μ11))
def X0_readRow_J71 (l0 : Nat) (l4 : Int) (μ : Mm) : Rs := if l4 < 2 then (bd (X4_refuseAt (μ 3 1) μ) fun v17 μ18 => some (0, μ18)) else (if (μ l0 4) ≤ l4 then (some (0, μ)) else (bd (X4_refuseAt (μ 3 1) μ) fun v21 μ22 => some (0, μ22)))
def X0_readRow_J61 (l0 : Nat) (l2 : Int) (l4 : Int) (μ : Mm) : Rs := if l2 = 0 then (sF μ l0 4 l4 fun μ24 => X0_readRow_J71 l0 l4 μ24) else (X0_readRow_J71 l0 l4 μ)
def X0_readRow_J13 (l0 : Nat) (l2 : Int) (s0 : Int) (μ : Mm) : Rs := X0_readRow_L17 l0 l2 s0 (fun v13 μ14 => X0_readRow_J61 l0 l2 v13 μ14) (fun v25 μ26 => X0_readRow_J61 l0 l2 v25 μ26) FU 0 μ
def X0_readRow (l0 : Nat) (l2 : Int) (μ : Mm) : Rs := if l2 = 0 then (X0_readRow_J13 l0 l2 9 μ) else (X0_readRow_J13 l0 l2 (μ l0 4) μ)
set_option maxHeartbeats 4000000 in
set_option maxRecDepth 100000 in
theorem kX0_readRow_L17 (d : Nat) (hd : 3 ≤ d) {l0 : Nat} {l2 : Int} {l3 : Int} (hk0 : kD l0 = (10, 9)) {k61 : Int → Mm → Rs} {k38 : Int → Mm → Rs} {r : Int} {μ' : Mm} (hk_61 : ∀ (v4 : Int) (μ1 : Mm), k61 v4 μ1 = some (r, μ') → VV d mX0_readRow 61 [some (vR l0), some (vR 3), some (vI l2), none, some (vI v4), none] [] μ1 r μ') (hk_38 : ∀ (v4 : Int) (μ1 : Mm), k38 v4 μ1 = some (r, μ') → VV d mX0_readRow 38 [some (vR l0), some (vR 3), some (vI l2), none, some (vI v4), none] [] μ1 r μ') : ∀ (n : Nat) {l4 : Int} {μ : Mm}, X0_readRow_L17 l0 l2 l3 k61 k38 n l4 μ = some (r, μ') → VV d mX0_readRow 17 [some (vR l0), some (vR 3), some (vI l2), some (vI l3), some (vI l4), none] [] μ r μ' := by
  intro n
  induction n with
  | zero => intro l4 μ h; rw [X0_readRow_L17] at h; cases h
  | succ n ih =>
    intro l4 μ h
    rw [X0_readRow_L17] at h
    refine V_iload (q := 19) dX0_readRow_17 rfl rfl ?_
    refine V_iload_n (q := 20) dX0_readRow_19 rfl rfl rfl ?_
    refine V_icmpge (q := 61) (q2 := 23) dX0_readRow_20 (by decide) rfl (fun hc2 => ?_) (fun hc2 => ?_)
    · have h := ifT hc2 h
      exact V_weak (hk_61 _ _ h) (sb_s rfl (sb_s rfl (sb_s rfl (sb_n (sb_s rfl (sb_n sb_0))))))
    · have h := ifF hc2 h
      refine V_aload_n (q := 24) dX0_readRow_23 rfl rfl rfl ?_
      obtain ⟨v3, μ4, hc5, h⟩ := bd_i h
      refine V_cV1 (q := 27) (v := vI v3) (kX4_peek (d - 1) (by omega) hc5) (by omega) mv_X0_63 rfl rfl rfl rfl rfl rfl dX0_readRow_24 rfl ?_
      obtain ⟨v6, μ7, hc8, h⟩ := bd_i h
      refine V_cS1 (q := 30) (v := vI v6) (kX0_cellOf (d - 1) (by omega) hc8) (by omega) mv_X0_67 rfl rfl rfl rfl dX0_readRow_27 rfl ?_
      refine V_istore (q := 32) dX0_readRow_30 (Nat.le_of_ble_eq_true rfl) trivial rfl ?_
      refine V_iload (q := 34) dX0_readRow_32 rfl rfl ?_
      refine V_iconst (q := 35) dX0_readRow_34 rfl rfl ?_
      refine V_icmpne (q := 41) (q2 := 38) dX0_readRow_35 (by decide) rfl (fun hc9 => ?_) (fun hc9 => ?_)
      · have h := ifF hc9 h
        refine V_aload_n (q := 42) dX0_readRow_41 rfl rfl rfl ?_
        refine V_aload_n (q := 43) dX0_readRow_42 rfl rfl rfl ?_
        refine V_bipush (q := 45) dX0_readRow_43 rfl rfl rfl ?_
        refine V_iload_n (q := 46) dX0_readRow_45 rfl rfl rfl ?_
        refine V_imul (q := 47) dX0_readRow_46 rfl ?_
        refine V_iload (q := 49) dX0_readRow_47 rfl rfl ?_
        refine V_iadd (q := 50) dX0_readRow_49 rfl ?_
        refine V_iload (q := 52) dX0_readRow_50 rfl rfl ?_
        obtain ⟨v10, μ11, hc12, h⟩ := bd_i h
        refine V_cV0 (q := 55) (kX0_put (d - 1) (by omega) hk0 hc12) (by omega) mv_X0_71 hk0 rfl rfl rfl rfl rfl dX0_readRow_52 rfl ?_
        refine V_iinc (q := 58) dX0_readRow_55 rfl (Nat.le_of_ble_eq_true rfl) trivial rfl ?_
        refine V_goto (q := 17) dX0_readRow_58 (by decide) ?_
        exact V_weak (ih h) (sb_s rfl (sb_s rfl (sb_s rfl (sb_s rfl (sb_s rfl (sb_n sb_0))))))
      · have h := ifT hc9 h
        exact V_weak (hk_38 _ _ h) (sb_s rfl (sb_s rfl (sb_s rfl (sb_n (sb_s rfl (sb_n sb_0))))))
set_option maxHeartbeats 4000000 in
set_option maxRecDepth 100000 in
theorem kX0_readRow_J71 (d : Nat) (hd : 3 ≤ d) {l0 : Nat} {l4 : Int} (hk0 : kD l0 = (10, 9)) {μ : Mm} {r : Int} {μ' : Mm} (h : X0_readRow_J71 l0 l4 μ = some (r, μ')) : VV d mX0_readRow 71 [some (vR l0), some (vR 3), none, none, some (vI l4), none] [] μ r μ' := by
  unfold X0_readRow_J71 at h
  refine V_iload (q := 73) dX0_readRow_71 rfl rfl ?_
  refine V_iconst (q := 74) dX0_readRow_73 rfl rfl ?_
  refine V_icmplt (q := 86) (q2 := 77) dX0_readRow_74 (by decide) rfl (fun hc16 => ?_) (fun hc16 => ?_)
  · have h := ifT hc16 h
    refine V_aload_n (q := 87) dX0_readRow_86 rfl rfl rfl ?_
    refine V_aload_n (q := 88) dX0_readRow_87 rfl rfl rfl ?_
    refine V_getI (q := 91) fl_X0_53 rfl rfl rfl dX0_readRow_88 rfl ?_
    obtain ⟨v17, μ18, hc19, h⟩ := bd_i h
    refine V_cV0 (q := 94) (kX4_refuseAt (d - 1) (by omega) hc19) (by omega) mv_X0_56 rfl rfl rfl rfl rfl rfl dX0_readRow_91 rfl ?_
    exact V_vret rfl h dX0_readRow_94
  · have h := ifF hc16 h
    refine V_iload (q := 79) dX0_readRow_77 rfl rfl ?_
    refine V_aload_n (q := 80) dX0_readRow_79 rfl rfl rfl ?_
    refine V_getI (q := 83) fl_X0_28 hk0 rfl rfl dX0_readRow_80 rfl ?_
    refine V_icmpge (q := 94) (q2 := 86) dX0_readRow_83 (by decide) rfl (fun hc20 => ?_) (fun hc20 => ?_)
    · have h := ifT hc20 h
      exact V_vret rfl h dX0_readRow_94
    · have h := ifF hc20 h
      refine V_aload_n (q := 87) dX0_readRow_86 rfl rfl rfl ?_
      refine V_aload_n (q := 88) dX0_readRow_87 rfl rfl rfl ?_
      refine V_getI (q := 91) fl_X0_53 rfl rfl rfl dX0_readRow_88 rfl ?_
      obtain ⟨v21, μ22, hc23, h⟩ := bd_i h
      refine V_cV0 (q := 94) (kX4_refuseAt (d - 1) (by omega) hc23) (by omega) mv_X0_56 rfl rfl rfl rfl rfl rfl dX0_readRow_91 rfl ?_
      exact V_vret rfl h dX0_readRow_94
set_option maxHeartbeats 4000000 in
set_option maxRecDepth 100000 in
theorem kX0_readRow_J61 (d : Nat) (hd : 3 ≤ d) {l0 : Nat} {l2 : Int} {l4 : Int} (hk0 : kD l0 = (10, 9)) {μ : Mm} {r : Int} {μ' : Mm} (h : X0_readRow_J61 l0 l2 l4 μ = some (r, μ')) : VV d mX0_readRow 61 [some (vR l0), some (vR 3), some (vI l2), none, some (vI l4), none] [] μ r μ' := by
  unfold X0_readRow_J61 at h
  refine V_iload_n (q := 62) dX0_readRow_61 rfl rfl rfl ?_
  refine V_ifne (q := 71) (q2 := 65) dX0_readRow_62 (by decide) rfl (fun hc15 => ?_) (fun hc15 => ?_)
  · have h := ifF hc15 h
    exact V_weak (kX0_readRow_J71 d hd hk0 h) (sb_s rfl (sb_s rfl (sb_n (sb_n (sb_s rfl (sb_n sb_0))))))
  · have h := ifT hc15 h
    refine V_aload_n (q := 66) dX0_readRow_65 rfl rfl rfl ?_
    refine V_iload (q := 68) dX0_readRow_66 rfl rfl ?_
    have h := sF_i h
    refine V_putI (q := 71) fl_X0_28 hk0 rfl rfl dX0_readRow_68 rfl ?_
    exact V_weak (kX0_readRow_J71 d hd hk0 h) (sb_s rfl (sb_s rfl (sb_n (sb_n (sb_s rfl (sb_n sb_0))))))
set_option maxHeartbeats 4000000 in
set_option maxRecDepth 100000 in
theorem kX0_readRow_J13 (d : Nat) (hd : 3 ≤ d) {l0 : Nat} {l2 : Int} {s0 : Int} (hk0 : kD l0 = (10, 9)) {μ : Mm} {r : Int} {μ' : Mm} (h : X0_readRow_J13 l0 l2 s0 μ = some (r, μ')) : VV d mX0_readRow 13 [some (vR l0), some (vR 3), some (vI l2), none, none, none] [vI s0] μ r μ' := by
  unfold X0_readRow_J13 at h
  refine V_istore_n (q := 14) dX0_readRow_13 rfl (Nat.le_of_ble_eq_true rfl) trivial rfl ?_
  refine V_iconst (q := 15) dX0_readRow_14 rfl rfl ?_
  refine V_istore (q := 17) dX0_readRow_15 (Nat.le_of_ble_eq_true rfl) trivial rfl ?_
  refine V_weak (kX0_readRow_L17 d hd hk0 (fun v13 μ14 h => ?_) (fun v25 μ26 h => ?_) FU h) (sb_s rfl (sb_s rfl (sb_s rfl (sb_s rfl (sb_s rfl (sb_n sb_0))))))
  · exact V_weak (kX0_readRow_J61 d hd hk0 h) (sb_s rfl (sb_s rfl (sb_s rfl (sb_n (sb_s rfl (sb_n sb_0))))))
  · refine V_goto (q := 61) dX0_readRow_38 (by decide) ?_
    exact V_weak (kX0_readRow_J61 d hd hk0 h) (sb_s rfl (sb_s rfl (sb_s rfl (sb_n (sb_s rfl (sb_n sb_0))))))
set_option maxHeartbeats 4000000 in
set_option maxRecDepth 100000 in
theorem kX0_readRow (d : Nat) (hd : 3 ≤ d) {l0 : Nat} {l2 : Int} (hk0 : kD l0 = (10, 9)) {μ : Mm} {r : Int} {μ' : Mm} (h : X0_readRow l0 l2 μ = some (r, μ')) : CC d mX0_readRow [vR l0, vR 3, vI l2] μ r μ' := by
  unfold X0_readRow at h
  refine V_enter (by decide) (Nat.le_of_ble_eq_true rfl) ?_
  show VV d mX0_readRow 0 [some (vR l0), some (vR 3), some (vI l2), none, none, none] [] μ r μ'
  refine V_iload_n (q := 1) dX0_readRow_0 rfl rfl rfl ?_
  refine V_ifne (q := 9) (q2 := 4) dX0_readRow_1 (by decide) rfl (fun hc1 => ?_) (fun hc1 => ?_)
  · have h := ifF hc1 h
    refine V_aload_n (q := 10) dX0_readRow_9 rfl rfl rfl ?_
    refine V_getI (q := 13) fl_X0_28 hk0 rfl rfl dX0_readRow_10 rfl ?_
    exact V_weak (kX0_readRow_J13 d hd hk0 h) (sb_s rfl (sb_s rfl (sb_s rfl (sb_n (sb_n (sb_n sb_0))))))
  · have h := ifT hc1 h
    refine V_bipush (q := 6) dX0_readRow_4 rfl rfl rfl ?_
    refine V_goto (q := 13) dX0_readRow_6 (by decide) ?_
    exact V_weak (kX0_readRow_J13 d hd hk0 h) (sb_s rfl (sb_s rfl (sb_s rfl (sb_n (sb_n (sb_n sb_0))))))
abbrev mX4_take : Mth := (yX4_take, cX4_take, 2, some .boolean)
set_option maxRecDepth 100000 in
theorem mi_X4_take : Cond.instanceMethod yX4_take ∈ tG ∧ Cond.selects yX4_take.cls yX4_take yX4_take ∈ tG ∧ Cond.initialized yX4_take.cls ∈ tG ∧ Cond.code yX4_take cX4_take 2 (some .boolean) ∈ tG ∧ (yX4_take.cls ≠ "java/lang/invoke/MethodHandle" ∧ yX4_take.cls ≠ "java/lang/invoke/VarHandle" ∧ (parseMethodDescriptor yX4_take.desc).map (fun d => d.parameters.length) = some 1) ∧ 2 ≤ 60 := ⟨(tG_of (tb2 (List.mem_of_getElem? (i := 208) rfl)) (by decide +kernel)), (tG_of (tb2 (List.mem_of_getElem? (i := 209) rfl)) (by decide +kernel)), (tG_of (tb1 (List.mem_of_getElem? (i := 3) rfl)) (by decide +kernel)), (tG_of (tb2 (List.mem_of_getElem? (i := 210) rfl)) (by decide +kernel)), ⟨by decide, by decide, by decide +kernel⟩, by decide⟩
set_option maxRecDepth 100000 in
theorem mv_X0_44 : mV RX0 44 mX4_take 1 := ⟨(tG_of (tb2 (List.mem_of_getElem? (i := 207) rfl)) (by decide +kernel)), mi_X4_take⟩
set_option maxRecDepth 100000 in
theorem mv_X2_81 : mV RX2 81 mX4_take 1 := ⟨(tG_of (tb3 (List.mem_of_getElem? (i := 34) rfl)) (by decide +kernel)), mi_X4_take⟩
set_option maxRecDepth 100000 in
theorem mv_X3_26 : mV RX3 26 mX4_take 1 := ⟨(tG_of (tb2 (List.mem_of_getElem? (i := 235) rfl)) (by decide +kernel)), mi_X4_take⟩
theorem dX4_take_0 : decode cX4_take 0 = .ok (.aload_n 0, 1) := dc_42 (byA eNcX4_take (p := 0) (v := 42) (by decide +kernel))
theorem dX4_take_1 : decode cX4_take 1 = .ok (.invokevirtual 31, 3) := dc_182 (byA eNcX4_take (p := 1) (v := 182) (by decide +kernel)) (byA eNcX4_take (p := 2) (v := 0) (by decide +kernel)) (byA eNcX4_take (p := 3) (v := 31) (by decide +kernel)) rfl
theorem dX4_take_4 : decode cX4_take 4 = .ok (.iload_n 1, 1) := dc_27 (byA eNcX4_take (p := 4) (v := 27) (by decide +kernel))
theorem dX4_take_5 : decode cX4_take 5 = .ok (.if_icmp .eq 5, 3) := dc_159 (byA eNcX4_take (p := 5) (v := 159) (by decide +kernel)) (byA eNcX4_take (p := 6) (v := 0) (by decide +kernel)) (byA eNcX4_take (p := 7) (v := 5) (by decide +kernel)) (by decide +kernel)
theorem dX4_take_8 : decode cX4_take 8 = .ok (.iconst 0, 1) := dc_3 (byA eNcX4_take (p := 8) (v := 3) (by decide +kernel))
theorem dX4_take_9 : decode cX4_take 9 = .ok (.ireturn, 1) := dc_172 (byA eNcX4_take (p := 9) (v := 172) (by decide +kernel))
theorem dX4_take_10 : decode cX4_take 10 = .ok (.aload_n 0, 1) := dc_42 (byA eNcX4_take (p := 10) (v := 42) (by decide +kernel))
theorem dX4_take_11 : decode cX4_take 11 = .ok (.dup, 1) := dc_89 (byA eNcX4_take (p := 11) (v := 89) (by decide +kernel))
theorem dX4_take_12 : decode cX4_take 12 = .ok (.getfield 19, 3) := dc_180 (byA eNcX4_take (p := 12) (v := 180) (by decide +kernel)) (byA eNcX4_take (p := 13) (v := 0) (by decide +kernel)) (byA eNcX4_take (p := 14) (v := 19) (by decide +kernel)) rfl
theorem dX4_take_15 : decode cX4_take 15 = .ok (.iconst 1, 1) := dc_4 (byA eNcX4_take (p := 15) (v := 4) (by decide +kernel))
theorem dX4_take_16 : decode cX4_take 16 = .ok (.iadd, 1) := dc_96 (byA eNcX4_take (p := 16) (v := 96) (by decide +kernel))
theorem dX4_take_17 : decode cX4_take 17 = .ok (.putfield 19, 3) := dc_181 (byA eNcX4_take (p := 17) (v := 181) (by decide +kernel)) (byA eNcX4_take (p := 18) (v := 0) (by decide +kernel)) (byA eNcX4_take (p := 19) (v := 19) (by decide +kernel)) rfl
theorem dX4_take_20 : decode cX4_take 20 = .ok (.iconst 1, 1) := dc_4 (byA eNcX4_take (p := 20) (v := 4) (by decide +kernel))
theorem dX4_take_21 : decode cX4_take 21 = .ok (.ireturn, 1) := dc_172 (byA eNcX4_take (p := 21) (v := 172) (by decide +kernel))
def X4_take (l1 : Int) (μ : Mm) : Rs := bd (X4_peek μ) fun v1 μ2 => if v1 = l1 then (sF μ2 3 1 (iA (μ2 3 1) 1) fun μ5 => some (1, μ5)) else (some (0, μ2))
set_option maxHeartbeats 4000000 in
set_option maxRecDepth 100000 in
theorem kX4_take (d : Nat) (hd : 2 ≤ d) {l1 : Int} {μ : Mm} {r : Int} {μ' : Mm} (h : X4_take l1 μ = some (r, μ')) : CC d mX4_take [vR 3, vI l1] μ r μ' := by
  unfold X4_take at h
  refine V_enter (by decide) (Nat.le_of_ble_eq_true rfl) ?_
  show VV d mX4_take 0 [some (vR 3), some (vI l1)] [] μ r μ'
  refine V_aload_n (q := 1) dX4_take_0 rfl rfl rfl ?_
  obtain ⟨v1, μ2, hc3, h⟩ := bd_i h
  refine V_cV1 (q := 4) (v := vI v1) (kX4_peek (d - 1) (by omega) hc3) (by omega) mv_X4_31 rfl rfl rfl rfl rfl rfl dX4_take_1 rfl ?_
  refine V_iload_n (q := 5) dX4_take_4 rfl rfl rfl ?_
  refine V_icmpeq (q := 10) (q2 := 8) dX4_take_5 (by decide) rfl (fun hc4 => ?_) (fun hc4 => ?_)
  · have h := ifT hc4 h
    refine V_aload_n (q := 11) dX4_take_10 rfl rfl rfl ?_
    refine V_dup (q := 12) dX4_take_11 trivial rfl ?_
    refine V_getI (q := 15) fl_X4_19 rfl rfl rfl dX4_take_12 rfl ?_
    refine V_iconst (q := 16) dX4_take_15 rfl rfl ?_
    refine V_iadd (q := 17) dX4_take_16 rfl ?_
    have h := sF_i h
    refine V_putI (q := 20) fl_X4_19 rfl rfl rfl dX4_take_17 rfl ?_
    refine V_iconst (q := 21) dX4_take_20 rfl rfl ?_
    exact V_zret rfl (Or.inr rfl) h dX4_take_21
  · have h := ifF hc4 h
    refine V_iconst (q := 9) dX4_take_8 rfl rfl ?_
    exact V_zret rfl (Or.inl rfl) h dX4_take_9
abbrev mX4_needEnd : Mth := (yX4_needEnd, cX4_needEnd, 1, none)
set_option maxRecDepth 100000 in
theorem mi_X4_needEnd : Cond.instanceMethod yX4_needEnd ∈ tG ∧ Cond.selects yX4_needEnd.cls yX4_needEnd yX4_needEnd ∈ tG ∧ Cond.initialized yX4_needEnd.cls ∈ tG ∧ Cond.code yX4_needEnd cX4_needEnd 1 (none) ∈ tG ∧ (yX4_needEnd.cls ≠ "java/lang/invoke/MethodHandle" ∧ yX4_needEnd.cls ≠ "java/lang/invoke/VarHandle" ∧ (parseMethodDescriptor yX4_needEnd.desc).map (fun d => d.parameters.length) = some 0) ∧ 1 ≤ 60 := ⟨(tG_of (tb2 (List.mem_of_getElem? (i := 213) rfl)) (by decide +kernel)), (tG_of (tb2 (List.mem_of_getElem? (i := 214) rfl)) (by decide +kernel)), (tG_of (tb1 (List.mem_of_getElem? (i := 3) rfl)) (by decide +kernel)), (tG_of (tb2 (List.mem_of_getElem? (i := 215) rfl)) (by decide +kernel)), ⟨by decide, by decide, by decide +kernel⟩, by decide⟩
set_option maxRecDepth 100000 in
theorem mv_X0_50 : mV RX0 50 mX4_needEnd 0 := ⟨(tG_of (tb2 (List.mem_of_getElem? (i := 212) rfl)) (by decide +kernel)), mi_X4_needEnd⟩
set_option maxRecDepth 100000 in
theorem mv_X2_84 : mV RX2 84 mX4_needEnd 0 := ⟨(tG_of (tb3 (List.mem_of_getElem? (i := 73) rfl)) (by decide +kernel)), mi_X4_needEnd⟩
set_option maxRecDepth 100000 in
theorem mv_X3_32 : mV RX3 32 mX4_needEnd 0 := ⟨(tG_of (tb2 (List.mem_of_getElem? (i := 236) rfl)) (by decide +kernel)), mi_X4_needEnd⟩
theorem dX4_needEnd_0 : decode cX4_needEnd 0 = .ok (.aload_n 0, 1) := dc_42 (byA eNcX4_needEnd (p := 0) (v := 42) (by decide +kernel))
theorem dX4_needEnd_1 : decode cX4_needEnd 1 = .ok (.invokevirtual 31, 3) := dc_182 (byA eNcX4_needEnd (p := 1) (v := 182) (by decide +kernel)) (byA eNcX4_needEnd (p := 2) (v := 0) (by decide +kernel)) (byA eNcX4_needEnd (p := 3) (v := 31) (by decide +kernel)) rfl
theorem dX4_needEnd_4 : decode cX4_needEnd 4 = .ok (.iconst (-1), 1) := dc_2 (byA eNcX4_needEnd (p := 4) (v := 2) (by decide +kernel))
theorem dX4_needEnd_5 : decode cX4_needEnd 5 = .ok (.if_icmp .eq 11, 3) := dc_159 (byA eNcX4_needEnd (p := 5) (v := 159) (by decide +kernel)) (byA eNcX4_needEnd (p := 6) (v := 0) (by decide +kernel)) (byA eNcX4_needEnd (p := 7) (v := 11) (by decide +kernel)) (by decide +kernel)
theorem dX4_needEnd_8 : decode cX4_needEnd 8 = .ok (.aload_n 0, 1) := dc_42 (byA eNcX4_needEnd (p := 8) (v := 42) (by decide +kernel))
theorem dX4_needEnd_9 : decode cX4_needEnd 9 = .ok (.aload_n 0, 1) := dc_42 (byA eNcX4_needEnd (p := 9) (v := 42) (by decide +kernel))
theorem dX4_needEnd_10 : decode cX4_needEnd 10 = .ok (.getfield 19, 3) := dc_180 (byA eNcX4_needEnd (p := 10) (v := 180) (by decide +kernel)) (byA eNcX4_needEnd (p := 11) (v := 0) (by decide +kernel)) (byA eNcX4_needEnd (p := 12) (v := 19) (by decide +kernel)) rfl
theorem dX4_needEnd_13 : decode cX4_needEnd 13 = .ok (.invokevirtual 35, 3) := dc_182 (byA eNcX4_needEnd (p := 13) (v := 182) (by decide +kernel)) (byA eNcX4_needEnd (p := 14) (v := 0) (by decide +kernel)) (byA eNcX4_needEnd (p := 15) (v := 35) (by decide +kernel)) rfl
theorem dX4_needEnd_16 : decode cX4_needEnd 16 = .ok (.return_, 1) := dc_177 (byA eNcX4_needEnd (p := 16) (v := 177) (by decide +kernel))
def X4_needEnd (μ : Mm) : Rs := bd (X4_peek μ) fun v1 μ2 => if v1 = (-1) then (some (0, μ2)) else (bd (X4_refuseAt (μ2 3 1) μ2) fun v5 μ6 => some (0, μ6))
set_option maxHeartbeats 4000000 in
set_option maxRecDepth 100000 in
theorem kX4_needEnd (d : Nat) (hd : 2 ≤ d) {μ : Mm} {r : Int} {μ' : Mm} (h : X4_needEnd μ = some (r, μ')) : CC d mX4_needEnd [vR 3] μ r μ' := by
  unfold X4_needEnd at h
  refine V_enter (by decide) (Nat.le_of_ble_eq_true rfl) ?_
  show VV d mX4_needEnd 0 [some (vR 3)] [] μ r μ'
  refine V_aload_n (q := 1) dX4_needEnd_0 rfl rfl rfl ?_
  obtain ⟨v1, μ2, hc3, h⟩ := bd_i h
  refine V_cV1 (q := 4) (v := vI v1) (kX4_peek (d - 1) (by omega) hc3) (by omega) mv_X4_31 rfl rfl rfl rfl rfl rfl dX4_needEnd_1 rfl ?_
  refine V_iconst (q := 5) dX4_needEnd_4 rfl rfl ?_
  refine V_icmpeq (q := 16) (q2 := 8) dX4_needEnd_5 (by decide) rfl (fun hc4 => ?_) (fun hc4 => ?_)
  · have h := ifT hc4 h
    exact V_vret rfl h dX4_needEnd_16
  · have h := ifF hc4 h
    refine V_aload_n (q := 9) dX4_needEnd_8 rfl rfl rfl ?_
    refine V_aload_n (q := 10) dX4_needEnd_9 rfl rfl rfl ?_
    refine V_getI (q := 13) fl_X4_19 rfl rfl rfl dX4_needEnd_10 rfl ?_
    obtain ⟨v5, μ6, hc7, h⟩ := bd_i h
    refine V_cV0 (q := 16) (kX4_refuseAt (d - 1) (by omega) hc7) (by omega) mv_X4_35 rfl rfl rfl rfl rfl rfl dX4_needEnd_13 rfl ?_
    exact V_vret rfl h dX4_needEnd_16
abbrev mX0_read : Mth := (yX0_read, cX0_read, 3, some .int)
set_option maxRecDepth 100000 in
theorem mi_X0_read : Cond.instanceMethod yX0_read ∈ tG ∧ Cond.selects yX0_read.cls yX0_read yX0_read ∈ tG ∧ Cond.initialized yX0_read.cls ∈ tG ∧ Cond.code yX0_read cX0_read 3 (some .int) ∈ tG ∧ (yX0_read.cls ≠ "java/lang/invoke/MethodHandle" ∧ yX0_read.cls ≠ "java/lang/invoke/VarHandle" ∧ (parseMethodDescriptor yX0_read.desc).map (fun d => d.parameters.length) = some 1) ∧ 3 ≤ 60 := ⟨(tG_of (tb2 (List.mem_of_getElem? (i := 177) rfl)) (by decide +kernel)), (tG_of (tb2 (List.mem_of_getElem? (i := 178) rfl)) (by decide +kernel)), (tG_of (tb1 (List.mem_of_getElem? (i := 5) rfl)) (by decide +kernel)), (tG_of (tb2 (List.mem_of_getElem? (i := 179) rfl)) (by decide +kernel)), ⟨by decide, by decide, by decide +kernel⟩, by decide⟩
set_option maxRecDepth 100000 in
theorem mv_X10_142 : mV RX10 142 mX0_read 1 := ⟨(tG_of (tb2 (List.mem_of_getElem? (i := 176) rfl)) (by decide +kernel)), mi_X0_read⟩
theorem dX0_read_0 : decode cX0_read 0 = .ok (.aload_n 0, 1) := dc_42 (byA eNcX0_read (p := 0) (v := 42) (by decide +kernel))
theorem dX0_read_1 : decode cX0_read 1 = .ok (.invokevirtual 21, 3) := dc_182 (byA eNcX0_read (p := 1) (v := 182) (by decide +kernel)) (byA eNcX0_read (p := 2) (v := 0) (by decide +kernel)) (byA eNcX0_read (p := 3) (v := 21) (by decide +kernel)) rfl
theorem dX0_read_4 : decode cX0_read 4 = .ok (.aload_n 0, 1) := dc_42 (byA eNcX0_read (p := 4) (v := 42) (by decide +kernel))
theorem dX0_read_5 : decode cX0_read 5 = .ok (.aload_n 1, 1) := dc_43 (byA eNcX0_read (p := 5) (v := 43) (by decide +kernel))
theorem dX0_read_6 : decode cX0_read 6 = .ok (.iconst 0, 1) := dc_3 (byA eNcX0_read (p := 6) (v := 3) (by decide +kernel))
theorem dX0_read_7 : decode cX0_read 7 = .ok (.invokevirtual 40, 3) := dc_182 (byA eNcX0_read (p := 7) (v := 182) (by decide +kernel)) (byA eNcX0_read (p := 8) (v := 0) (by decide +kernel)) (byA eNcX0_read (p := 9) (v := 40) (by decide +kernel)) rfl
theorem dX0_read_10 : decode cX0_read 10 = .ok (.iconst 1, 1) := dc_4 (byA eNcX0_read (p := 10) (v := 4) (by decide +kernel))
theorem dX0_read_11 : decode cX0_read 11 = .ok (.istore_n 2, 1) := dc_61 (byA eNcX0_read (p := 11) (v := 61) (by decide +kernel))
theorem dX0_read_12 : decode cX0_read 12 = .ok (.iload_n 2, 1) := dc_28 (byA eNcX0_read (p := 12) (v := 28) (by decide +kernel))
theorem dX0_read_13 : decode cX0_read 13 = .ok (.bipush 6, 2) := dc_16 (byA eNcX0_read (p := 13) (v := 16) (by decide +kernel)) (byA eNcX0_read (p := 14) (v := 6) (by decide +kernel)) (by decide +kernel)
theorem dX0_read_15 : decode cX0_read 15 = .ok (.if_icmp .ge 24, 3) := dc_162 (byA eNcX0_read (p := 15) (v := 162) (by decide +kernel)) (byA eNcX0_read (p := 16) (v := 0) (by decide +kernel)) (byA eNcX0_read (p := 17) (v := 24) (by decide +kernel)) (by decide +kernel)
theorem dX0_read_18 : decode cX0_read 18 = .ok (.aload_n 1, 1) := dc_43 (byA eNcX0_read (p := 18) (v := 43) (by decide +kernel))
theorem dX0_read_19 : decode cX0_read 19 = .ok (.bipush 47, 2) := dc_16 (byA eNcX0_read (p := 19) (v := 16) (by decide +kernel)) (byA eNcX0_read (p := 20) (v := 47) (by decide +kernel)) (by decide +kernel)
theorem dX0_read_21 : decode cX0_read 21 = .ok (.invokevirtual 44, 3) := dc_182 (byA eNcX0_read (p := 21) (v := 182) (by decide +kernel)) (byA eNcX0_read (p := 22) (v := 0) (by decide +kernel)) (byA eNcX0_read (p := 23) (v := 44) (by decide +kernel)) rfl
theorem dX0_read_24 : decode cX0_read 24 = .ok (.ifCond .eq 15, 3) := dc_153 (byA eNcX0_read (p := 24) (v := 153) (by decide +kernel)) (byA eNcX0_read (p := 25) (v := 0) (by decide +kernel)) (byA eNcX0_read (p := 26) (v := 15) (by decide +kernel)) (by decide +kernel)
theorem dX0_read_27 : decode cX0_read 27 = .ok (.aload_n 0, 1) := dc_42 (byA eNcX0_read (p := 27) (v := 42) (by decide +kernel))
theorem dX0_read_28 : decode cX0_read 28 = .ok (.aload_n 1, 1) := dc_43 (byA eNcX0_read (p := 28) (v := 43) (by decide +kernel))
theorem dX0_read_29 : decode cX0_read 29 = .ok (.iload_n 2, 1) := dc_28 (byA eNcX0_read (p := 29) (v := 28) (by decide +kernel))
theorem dX0_read_30 : decode cX0_read 30 = .ok (.invokevirtual 40, 3) := dc_182 (byA eNcX0_read (p := 30) (v := 182) (by decide +kernel)) (byA eNcX0_read (p := 31) (v := 0) (by decide +kernel)) (byA eNcX0_read (p := 32) (v := 40) (by decide +kernel)) rfl
theorem dX0_read_33 : decode cX0_read 33 = .ok (.iinc 2 1, 3) := dc_132 (byA eNcX0_read (p := 33) (v := 132) (by decide +kernel)) (byA eNcX0_read (p := 34) (v := 2) (by decide +kernel)) (byA eNcX0_read (p := 35) (v := 1) (by decide +kernel)) (by decide +kernel)
theorem dX0_read_36 : decode cX0_read 36 = .ok (.goto (-24), 3) := dc_167 (byA eNcX0_read (p := 36) (v := 167) (by decide +kernel)) (byA eNcX0_read (p := 37) (v := 255) (by decide +kernel)) (byA eNcX0_read (p := 38) (v := 232) (by decide +kernel)) (by decide +kernel)
theorem dX0_read_39 : decode cX0_read 39 = .ok (.aload_n 1, 1) := dc_43 (byA eNcX0_read (p := 39) (v := 43) (by decide +kernel))
theorem dX0_read_40 : decode cX0_read 40 = .ok (.invokevirtual 50, 3) := dc_182 (byA eNcX0_read (p := 40) (v := 182) (by decide +kernel)) (byA eNcX0_read (p := 41) (v := 0) (by decide +kernel)) (byA eNcX0_read (p := 42) (v := 50) (by decide +kernel)) rfl
theorem dX0_read_43 : decode cX0_read 43 = .ok (.aload_n 0, 1) := dc_42 (byA eNcX0_read (p := 43) (v := 42) (by decide +kernel))
theorem dX0_read_44 : decode cX0_read 44 = .ok (.getfield 24, 3) := dc_180 (byA eNcX0_read (p := 44) (v := 180) (by decide +kernel)) (byA eNcX0_read (p := 45) (v := 0) (by decide +kernel)) (byA eNcX0_read (p := 46) (v := 24) (by decide +kernel)) rfl
theorem dX0_read_47 : decode cX0_read 47 = .ok (.iconst (-1), 1) := dc_2 (byA eNcX0_read (p := 47) (v := 2) (by decide +kernel))
theorem dX0_read_48 : decode cX0_read 48 = .ok (.if_icmp .eq 10, 3) := dc_159 (byA eNcX0_read (p := 48) (v := 159) (by decide +kernel)) (byA eNcX0_read (p := 49) (v := 0) (by decide +kernel)) (byA eNcX0_read (p := 50) (v := 10) (by decide +kernel)) (by decide +kernel)
theorem dX0_read_51 : decode cX0_read 51 = .ok (.aload_n 0, 1) := dc_42 (byA eNcX0_read (p := 51) (v := 42) (by decide +kernel))
theorem dX0_read_52 : decode cX0_read 52 = .ok (.getfield 31, 3) := dc_180 (byA eNcX0_read (p := 52) (v := 180) (by decide +kernel)) (byA eNcX0_read (p := 53) (v := 0) (by decide +kernel)) (byA eNcX0_read (p := 54) (v := 31) (by decide +kernel)) rfl
theorem dX0_read_55 : decode cX0_read 55 = .ok (.ifCond .ne 11, 3) := dc_154 (byA eNcX0_read (p := 55) (v := 154) (by decide +kernel)) (byA eNcX0_read (p := 56) (v := 0) (by decide +kernel)) (byA eNcX0_read (p := 57) (v := 11) (by decide +kernel)) (by decide +kernel)
theorem dX0_read_58 : decode cX0_read 58 = .ok (.aload_n 1, 1) := dc_43 (byA eNcX0_read (p := 58) (v := 43) (by decide +kernel))
theorem dX0_read_59 : decode cX0_read 59 = .ok (.aload_n 1, 1) := dc_43 (byA eNcX0_read (p := 59) (v := 43) (by decide +kernel))
theorem dX0_read_60 : decode cX0_read 60 = .ok (.getfield 53, 3) := dc_180 (byA eNcX0_read (p := 60) (v := 180) (by decide +kernel)) (byA eNcX0_read (p := 61) (v := 0) (by decide +kernel)) (byA eNcX0_read (p := 62) (v := 53) (by decide +kernel)) rfl
theorem dX0_read_63 : decode cX0_read 63 = .ok (.invokevirtual 56, 3) := dc_182 (byA eNcX0_read (p := 63) (v := 182) (by decide +kernel)) (byA eNcX0_read (p := 64) (v := 0) (by decide +kernel)) (byA eNcX0_read (p := 65) (v := 56) (by decide +kernel)) rfl
theorem dX0_read_66 : decode cX0_read 66 = .ok (.aload_n 1, 1) := dc_43 (byA eNcX0_read (p := 66) (v := 43) (by decide +kernel))
theorem dX0_read_67 : decode cX0_read 67 = .ok (.getfield 60, 3) := dc_180 (byA eNcX0_read (p := 67) (v := 180) (by decide +kernel)) (byA eNcX0_read (p := 68) (v := 0) (by decide +kernel)) (byA eNcX0_read (p := 69) (v := 60) (by decide +kernel)) rfl
theorem dX0_read_70 : decode cX0_read 70 = .ok (.ireturn, 1) := dc_172 (byA eNcX0_read (p := 70) (v := 172) (by decide +kernel))
def X0_read_L12 (l0 : Nat) (k39 : Mm → Rs) : Nat → Int → Mm → Rs
  | 0, _, _ => none
  | n + 1, l2, μ => if 6 ≤ l2 then (k39 μ) else (bd (X4_take 47 μ) fun v8 μ9 => if v8 = 0 then (k39 μ9) else (bd (X0_readRow l0 l2 μ9) fun v12 μ13 => X0_read_L12 l0 k39 n (iA l2 1) μ13))
def X0_read_J39 (l0 : Nat) (μ : Mm) : Rs := bd (X4_needEnd μ) fun v16 μ17 => if (μ17 l0 3) = (-1) then (bd (X4_refuseAt (μ17 3 1) μ17) fun v20 μ21 => some (μ21 3 2, μ21)) else (if (μ17 l0 5) = 0 then (bd (X4_refuseAt (μ17 3 1) μ17) fun v24 μ25 => some (μ25 3 2, μ25)) else (some (μ17 3 2, μ17)))
def X0_read (l0 : Nat) (μ : Mm) : Rs := bd (X0_clear l0 μ) fun v1 μ2 => bd (X0_readRow l0 0 μ2) fun v4 μ5 => X0_read_L12 l0 (fun μ15 => X0_read_J39 l0 μ15) FU 1 μ5
set_option maxHeartbeats 4000000 in
set_option maxRecDepth 100000 in
theorem kX0_read_L12 (d : Nat) (hd : 4 ≤ d) {l0 : Nat} (hk0 : kD l0 = (10, 9)) {k39 : Mm → Rs} {r : Int} {μ' : Mm} (hk_39 : ∀ (μ1 : Mm), k39 μ1 = some (r, μ') → VV d mX0_read 39 [some (vR l0), some (vR 3), none] [] μ1 r μ') : ∀ (n : Nat) {l2 : Int} {μ : Mm}, X0_read_L12 l0 k39 n l2 μ = some (r, μ') → VV d mX0_read 12 [some (vR l0), some (vR 3), some (vI l2)] [] μ r μ' := by
  intro n
  induction n with
  | zero => intro l2 μ h; rw [X0_read_L12] at h; cases h
  | succ n ih =>
    intro l2 μ h
    rw [X0_read_L12] at h
    refine V_iload_n (q := 13) dX0_read_12 rfl rfl rfl ?_
    refine V_bipush (q := 15) dX0_read_13 rfl rfl rfl ?_
    refine V_icmpge (q := 39) (q2 := 18) dX0_read_15 (by decide) rfl (fun hc7 => ?_) (fun hc7 => ?_)
    · have h := ifT hc7 h
      exact V_weak (hk_39 _ h) (sb_s rfl (sb_s rfl (sb_n sb_0)))
    · have h := ifF hc7 h
      refine V_aload_n (q := 19) dX0_read_18 rfl rfl rfl ?_
      refine V_bipush (q := 21) dX0_read_19 rfl rfl rfl ?_
      obtain ⟨v8, μ9, hc10, h⟩ := bd_i h
      refine V_cV1 (q := 24) (v := vI v8) (kX4_take (d - 1) (by omega) hc10) (by omega) mv_X0_44 rfl rfl rfl rfl rfl rfl dX0_read_21 rfl ?_
      refine V_ifeq (q := 39) (q2 := 27) dX0_read_24 (by decide) rfl (fun hc11 => ?_) (fun hc11 => ?_)
      · have h := ifT hc11 h
        exact V_weak (hk_39 _ h) (sb_s rfl (sb_s rfl (sb_n sb_0)))
      · have h := ifF hc11 h
        refine V_aload_n (q := 28) dX0_read_27 rfl rfl rfl ?_
        refine V_aload_n (q := 29) dX0_read_28 rfl rfl rfl ?_
        refine V_iload_n (q := 30) dX0_read_29 rfl rfl rfl ?_
        obtain ⟨v12, μ13, hc14, h⟩ := bd_i h
        refine V_cV0 (q := 33) (kX0_readRow (d - 1) (by omega) hk0 hc14) (by omega) mv_X0_40 hk0 rfl rfl rfl rfl rfl dX0_read_30 rfl ?_
        refine V_iinc (q := 36) dX0_read_33 rfl (Nat.le_of_ble_eq_true rfl) trivial rfl ?_
        refine V_goto (q := 12) dX0_read_36 (by decide) ?_
        exact V_weak (ih h) (sb_s rfl (sb_s rfl (sb_s rfl sb_0)))
set_option maxHeartbeats 4000000 in
set_option maxRecDepth 100000 in
theorem kX0_read_J39 (d : Nat) (hd : 4 ≤ d) {l0 : Nat} (hk0 : kD l0 = (10, 9)) {μ : Mm} {r : Int} {μ' : Mm} (h : X0_read_J39 l0 μ = some (r, μ')) : VV d mX0_read 39 [some (vR l0), some (vR 3), none] [] μ r μ' := by
  unfold X0_read_J39 at h
  refine V_aload_n (q := 40) dX0_read_39 rfl rfl rfl ?_
  obtain ⟨v16, μ17, hc18, h⟩ := bd_i h
  refine V_cV0 (q := 43) (kX4_needEnd (d - 1) (by omega) hc18) (by omega) mv_X0_50 rfl rfl rfl rfl rfl rfl dX0_read_40 rfl ?_
  refine V_aload_n (q := 44) dX0_read_43 rfl rfl rfl ?_
  refine V_getI (q := 47) fl_X0_24 hk0 rfl rfl dX0_read_44 rfl ?_
  refine V_iconst (q := 48) dX0_read_47 rfl rfl ?_
  refine V_icmpeq (q := 58) (q2 := 51) dX0_read_48 (by decide) rfl (fun hc19 => ?_) (fun hc19 => ?_)
  · have h := ifT hc19 h
    refine V_aload_n (q := 59) dX0_read_58 rfl rfl rfl ?_
    refine V_aload_n (q := 60) dX0_read_59 rfl rfl rfl ?_
    refine V_getI (q := 63) fl_X0_53 rfl rfl rfl dX0_read_60 rfl ?_
    obtain ⟨v20, μ21, hc22, h⟩ := bd_i h
    refine V_cV0 (q := 66) (kX4_refuseAt (d - 1) (by omega) hc22) (by omega) mv_X0_56 rfl rfl rfl rfl rfl rfl dX0_read_63 rfl ?_
    refine V_aload_n (q := 67) dX0_read_66 rfl rfl rfl ?_
    refine V_getI (q := 70) fl_X0_60 rfl rfl rfl dX0_read_67 rfl ?_
    exact V_iret rfl h dX0_read_70
  · have h := ifF hc19 h
    refine V_aload_n (q := 52) dX0_read_51 rfl rfl rfl ?_
    refine V_getI (q := 55) fl_X0_31 hk0 rfl rfl dX0_read_52 rfl ?_
    refine V_ifne (q := 66) (q2 := 58) dX0_read_55 (by decide) rfl (fun hc23 => ?_) (fun hc23 => ?_)
    · have h := ifF hc23 h
      refine V_aload_n (q := 67) dX0_read_66 rfl rfl rfl ?_
      refine V_getI (q := 70) fl_X0_60 rfl rfl rfl dX0_read_67 rfl ?_
      exact V_iret rfl h dX0_read_70
    · have h := ifT hc23 h
      refine V_aload_n (q := 59) dX0_read_58 rfl rfl rfl ?_
      refine V_aload_n (q := 60) dX0_read_59 rfl rfl rfl ?_
      refine V_getI (q := 63) fl_X0_53 rfl rfl rfl dX0_read_60 rfl ?_
      obtain ⟨v24, μ25, hc26, h⟩ := bd_i h
      refine V_cV0 (q := 66) (kX4_refuseAt (d - 1) (by omega) hc26) (by omega) mv_X0_56 rfl rfl rfl rfl rfl rfl dX0_read_63 rfl ?_
      refine V_aload_n (q := 67) dX0_read_66 rfl rfl rfl ?_
      refine V_getI (q := 70) fl_X0_60 rfl rfl rfl dX0_read_67 rfl ?_
      exact V_iret rfl h dX0_read_70
set_option maxHeartbeats 4000000 in
set_option maxRecDepth 100000 in
theorem kX0_read (d : Nat) (hd : 4 ≤ d) {l0 : Nat} (hk0 : kD l0 = (10, 9)) {μ : Mm} {r : Int} {μ' : Mm} (h : X0_read l0 μ = some (r, μ')) : CC d mX0_read [vR l0, vR 3] μ r μ' := by
  unfold X0_read at h
  refine V_enter (by decide) (Nat.le_of_ble_eq_true rfl) ?_
  show VV d mX0_read 0 [some (vR l0), some (vR 3), none] [] μ r μ'
  refine V_aload_n (q := 1) dX0_read_0 rfl rfl rfl ?_
  obtain ⟨v1, μ2, hc3, h⟩ := bd_i h
  refine V_cV0 (q := 4) (kX0_clear (d - 1) (by omega) hk0 hc3) (by omega) mv_X0_21 hk0 rfl rfl rfl rfl rfl dX0_read_1 rfl ?_
  refine V_aload_n (q := 5) dX0_read_4 rfl rfl rfl ?_
  refine V_aload_n (q := 6) dX0_read_5 rfl rfl rfl ?_
  refine V_iconst (q := 7) dX0_read_6 rfl rfl ?_
  obtain ⟨v4, μ5, hc6, h⟩ := bd_i h
  refine V_cV0 (q := 10) (kX0_readRow (d - 1) (by omega) hk0 hc6) (by omega) mv_X0_40 hk0 rfl rfl rfl rfl rfl dX0_read_7 rfl ?_
  refine V_iconst (q := 11) dX0_read_10 rfl rfl ?_
  refine V_istore_n (q := 12) dX0_read_11 rfl (Nat.le_of_ble_eq_true rfl) trivial rfl ?_
  refine V_weak (kX0_read_L12 d hd hk0 (fun μ15 h => ?_) FU h) (sb_s rfl (sb_s rfl (sb_s rfl sb_0)))
  exact V_weak (kX0_read_J39 d hd hk0 h) (sb_s rfl (sb_s rfl (sb_n sb_0)))
abbrev mX0_copy : Mth := (yX0_copy, cX0_copy, 2, none)
set_option maxRecDepth 100000 in
theorem mi_X0_copy : Cond.instanceMethod yX0_copy ∈ tG ∧ Cond.selects yX0_copy.cls yX0_copy yX0_copy ∈ tG ∧ Cond.initialized yX0_copy.cls ∈ tG ∧ Cond.code yX0_copy cX0_copy 2 (none) ∈ tG ∧ (yX0_copy.cls ≠ "java/lang/invoke/MethodHandle" ∧ yX0_copy.cls ≠ "java/lang/invoke/VarHandle" ∧ (parseMethodDescriptor yX0_copy.desc).map (fun d => d.parameters.length) = some 1) ∧ 2 ≤ 60 := ⟨(tG_of (tb3 (List.mem_of_getElem? (i := 174) rfl)) (by decide +kernel)), (tG_of (tb3 (List.mem_of_getElem? (i := 175) rfl)) (by decide +kernel)), (tG_of (tb1 (List.mem_of_getElem? (i := 5) rfl)) (by decide +kernel)), (tG_of (tb3 (List.mem_of_getElem? (i := 176) rfl)) (by decide +kernel)), ⟨by decide, by decide, by decide +kernel⟩, by decide⟩
set_option maxRecDepth 100000 in
theorem mv_X10_208 : mV RX10 208 mX0_copy 1 := ⟨(tG_of (tb3 (List.mem_of_getElem? (i := 173) rfl)) (by decide +kernel)), mi_X0_copy⟩
theorem dX0_copy_0 : decode cX0_copy 0 = .ok (.aload_n 1, 1) := dc_43 (byA eNcX0_copy (p := 0) (v := 43) (by decide +kernel))
theorem dX0_copy_1 : decode cX0_copy 1 = .ok (.getfield 9, 3) := dc_180 (byA eNcX0_copy (p := 1) (v := 180) (by decide +kernel)) (byA eNcX0_copy (p := 2) (v := 0) (by decide +kernel)) (byA eNcX0_copy (p := 3) (v := 9) (by decide +kernel)) rfl
theorem dX0_copy_4 : decode cX0_copy 4 = .ok (.iconst 0, 1) := dc_3 (byA eNcX0_copy (p := 4) (v := 3) (by decide +kernel))
theorem dX0_copy_5 : decode cX0_copy 5 = .ok (.aload_n 0, 1) := dc_42 (byA eNcX0_copy (p := 5) (v := 42) (by decide +kernel))
theorem dX0_copy_6 : decode cX0_copy 6 = .ok (.getfield 9, 3) := dc_180 (byA eNcX0_copy (p := 6) (v := 180) (by decide +kernel)) (byA eNcX0_copy (p := 7) (v := 0) (by decide +kernel)) (byA eNcX0_copy (p := 8) (v := 9) (by decide +kernel)) rfl
theorem dX0_copy_9 : decode cX0_copy 9 = .ok (.iconst 0, 1) := dc_3 (byA eNcX0_copy (p := 9) (v := 3) (by decide +kernel))
theorem dX0_copy_10 : decode cX0_copy 10 = .ok (.bipush 60, 2) := dc_16 (byA eNcX0_copy (p := 10) (v := 16) (by decide +kernel)) (byA eNcX0_copy (p := 11) (v := 60) (by decide +kernel)) (by decide +kernel)
theorem dX0_copy_12 : decode cX0_copy 12 = .ok (.invokestatic 81, 3) := dc_184 (byA eNcX0_copy (p := 12) (v := 184) (by decide +kernel)) (byA eNcX0_copy (p := 13) (v := 0) (by decide +kernel)) (byA eNcX0_copy (p := 14) (v := 81) (by decide +kernel)) rfl
theorem dX0_copy_15 : decode cX0_copy 15 = .ok (.aload_n 1, 1) := dc_43 (byA eNcX0_copy (p := 15) (v := 43) (by decide +kernel))
theorem dX0_copy_16 : decode cX0_copy 16 = .ok (.getfield 15, 3) := dc_180 (byA eNcX0_copy (p := 16) (v := 180) (by decide +kernel)) (byA eNcX0_copy (p := 17) (v := 0) (by decide +kernel)) (byA eNcX0_copy (p := 18) (v := 15) (by decide +kernel)) rfl
theorem dX0_copy_19 : decode cX0_copy 19 = .ok (.iconst 0, 1) := dc_3 (byA eNcX0_copy (p := 19) (v := 3) (by decide +kernel))
theorem dX0_copy_20 : decode cX0_copy 20 = .ok (.aload_n 0, 1) := dc_42 (byA eNcX0_copy (p := 20) (v := 42) (by decide +kernel))
theorem dX0_copy_21 : decode cX0_copy 21 = .ok (.getfield 15, 3) := dc_180 (byA eNcX0_copy (p := 21) (v := 180) (by decide +kernel)) (byA eNcX0_copy (p := 22) (v := 0) (by decide +kernel)) (byA eNcX0_copy (p := 23) (v := 15) (by decide +kernel)) rfl
theorem dX0_copy_24 : decode cX0_copy 24 = .ok (.iconst 0, 1) := dc_3 (byA eNcX0_copy (p := 24) (v := 3) (by decide +kernel))
theorem dX0_copy_25 : decode cX0_copy 25 = .ok (.bipush 8, 2) := dc_16 (byA eNcX0_copy (p := 25) (v := 16) (by decide +kernel)) (byA eNcX0_copy (p := 26) (v := 8) (by decide +kernel)) (by decide +kernel)
theorem dX0_copy_27 : decode cX0_copy 27 = .ok (.invokestatic 81, 3) := dc_184 (byA eNcX0_copy (p := 27) (v := 184) (by decide +kernel)) (byA eNcX0_copy (p := 28) (v := 0) (by decide +kernel)) (byA eNcX0_copy (p := 29) (v := 81) (by decide +kernel)) rfl
theorem dX0_copy_30 : decode cX0_copy 30 = .ok (.aload_n 1, 1) := dc_43 (byA eNcX0_copy (p := 30) (v := 43) (by decide +kernel))
theorem dX0_copy_31 : decode cX0_copy 31 = .ok (.getfield 18, 3) := dc_180 (byA eNcX0_copy (p := 31) (v := 180) (by decide +kernel)) (byA eNcX0_copy (p := 32) (v := 0) (by decide +kernel)) (byA eNcX0_copy (p := 33) (v := 18) (by decide +kernel)) rfl
theorem dX0_copy_34 : decode cX0_copy 34 = .ok (.iconst 0, 1) := dc_3 (byA eNcX0_copy (p := 34) (v := 3) (by decide +kernel))
theorem dX0_copy_35 : decode cX0_copy 35 = .ok (.aload_n 0, 1) := dc_42 (byA eNcX0_copy (p := 35) (v := 42) (by decide +kernel))
theorem dX0_copy_36 : decode cX0_copy 36 = .ok (.getfield 18, 3) := dc_180 (byA eNcX0_copy (p := 36) (v := 180) (by decide +kernel)) (byA eNcX0_copy (p := 37) (v := 0) (by decide +kernel)) (byA eNcX0_copy (p := 38) (v := 18) (by decide +kernel)) rfl
theorem dX0_copy_39 : decode cX0_copy 39 = .ok (.iconst 0, 1) := dc_3 (byA eNcX0_copy (p := 39) (v := 3) (by decide +kernel))
theorem dX0_copy_40 : decode cX0_copy 40 = .ok (.bipush 8, 2) := dc_16 (byA eNcX0_copy (p := 40) (v := 16) (by decide +kernel)) (byA eNcX0_copy (p := 41) (v := 8) (by decide +kernel)) (by decide +kernel)
theorem dX0_copy_42 : decode cX0_copy 42 = .ok (.invokestatic 81, 3) := dc_184 (byA eNcX0_copy (p := 42) (v := 184) (by decide +kernel)) (byA eNcX0_copy (p := 43) (v := 0) (by decide +kernel)) (byA eNcX0_copy (p := 44) (v := 81) (by decide +kernel)) rfl
theorem dX0_copy_45 : decode cX0_copy 45 = .ok (.aload_n 0, 1) := dc_42 (byA eNcX0_copy (p := 45) (v := 42) (by decide +kernel))
theorem dX0_copy_46 : decode cX0_copy 46 = .ok (.aload_n 1, 1) := dc_43 (byA eNcX0_copy (p := 46) (v := 43) (by decide +kernel))
theorem dX0_copy_47 : decode cX0_copy 47 = .ok (.getfield 24, 3) := dc_180 (byA eNcX0_copy (p := 47) (v := 180) (by decide +kernel)) (byA eNcX0_copy (p := 48) (v := 0) (by decide +kernel)) (byA eNcX0_copy (p := 49) (v := 24) (by decide +kernel)) rfl
theorem dX0_copy_50 : decode cX0_copy 50 = .ok (.putfield 24, 3) := dc_181 (byA eNcX0_copy (p := 50) (v := 181) (by decide +kernel)) (byA eNcX0_copy (p := 51) (v := 0) (by decide +kernel)) (byA eNcX0_copy (p := 52) (v := 24) (by decide +kernel)) rfl
theorem dX0_copy_53 : decode cX0_copy 53 = .ok (.aload_n 0, 1) := dc_42 (byA eNcX0_copy (p := 53) (v := 42) (by decide +kernel))
theorem dX0_copy_54 : decode cX0_copy 54 = .ok (.aload_n 1, 1) := dc_43 (byA eNcX0_copy (p := 54) (v := 43) (by decide +kernel))
theorem dX0_copy_55 : decode cX0_copy 55 = .ok (.getfield 28, 3) := dc_180 (byA eNcX0_copy (p := 55) (v := 180) (by decide +kernel)) (byA eNcX0_copy (p := 56) (v := 0) (by decide +kernel)) (byA eNcX0_copy (p := 57) (v := 28) (by decide +kernel)) rfl
theorem dX0_copy_58 : decode cX0_copy 58 = .ok (.putfield 28, 3) := dc_181 (byA eNcX0_copy (p := 58) (v := 181) (by decide +kernel)) (byA eNcX0_copy (p := 59) (v := 0) (by decide +kernel)) (byA eNcX0_copy (p := 60) (v := 28) (by decide +kernel)) rfl
theorem dX0_copy_61 : decode cX0_copy 61 = .ok (.aload_n 0, 1) := dc_42 (byA eNcX0_copy (p := 61) (v := 42) (by decide +kernel))
theorem dX0_copy_62 : decode cX0_copy 62 = .ok (.aload_n 1, 1) := dc_43 (byA eNcX0_copy (p := 62) (v := 43) (by decide +kernel))
theorem dX0_copy_63 : decode cX0_copy 63 = .ok (.getfield 31, 3) := dc_180 (byA eNcX0_copy (p := 63) (v := 180) (by decide +kernel)) (byA eNcX0_copy (p := 64) (v := 0) (by decide +kernel)) (byA eNcX0_copy (p := 65) (v := 31) (by decide +kernel)) rfl
theorem dX0_copy_66 : decode cX0_copy 66 = .ok (.putfield 31, 3) := dc_181 (byA eNcX0_copy (p := 66) (v := 181) (by decide +kernel)) (byA eNcX0_copy (p := 67) (v := 0) (by decide +kernel)) (byA eNcX0_copy (p := 68) (v := 31) (by decide +kernel)) rfl
theorem dX0_copy_69 : decode cX0_copy 69 = .ok (.aload_n 0, 1) := dc_42 (byA eNcX0_copy (p := 69) (v := 42) (by decide +kernel))
theorem dX0_copy_70 : decode cX0_copy 70 = .ok (.aload_n 1, 1) := dc_43 (byA eNcX0_copy (p := 70) (v := 43) (by decide +kernel))
theorem dX0_copy_71 : decode cX0_copy 71 = .ok (.getfield 34, 3) := dc_180 (byA eNcX0_copy (p := 71) (v := 180) (by decide +kernel)) (byA eNcX0_copy (p := 72) (v := 0) (by decide +kernel)) (byA eNcX0_copy (p := 73) (v := 34) (by decide +kernel)) rfl
theorem dX0_copy_74 : decode cX0_copy 74 = .ok (.putfield 34, 3) := dc_181 (byA eNcX0_copy (p := 74) (v := 181) (by decide +kernel)) (byA eNcX0_copy (p := 75) (v := 0) (by decide +kernel)) (byA eNcX0_copy (p := 76) (v := 34) (by decide +kernel)) rfl
theorem dX0_copy_77 : decode cX0_copy 77 = .ok (.aload_n 0, 1) := dc_42 (byA eNcX0_copy (p := 77) (v := 42) (by decide +kernel))
theorem dX0_copy_78 : decode cX0_copy 78 = .ok (.aload_n 1, 1) := dc_43 (byA eNcX0_copy (p := 78) (v := 43) (by decide +kernel))
theorem dX0_copy_79 : decode cX0_copy 79 = .ok (.getfield 37, 3) := dc_180 (byA eNcX0_copy (p := 79) (v := 180) (by decide +kernel)) (byA eNcX0_copy (p := 80) (v := 0) (by decide +kernel)) (byA eNcX0_copy (p := 81) (v := 37) (by decide +kernel)) rfl
theorem dX0_copy_82 : decode cX0_copy 82 = .ok (.putfield 37, 3) := dc_181 (byA eNcX0_copy (p := 82) (v := 181) (by decide +kernel)) (byA eNcX0_copy (p := 83) (v := 0) (by decide +kernel)) (byA eNcX0_copy (p := 84) (v := 37) (by decide +kernel)) rfl
theorem dX0_copy_85 : decode cX0_copy 85 = .ok (.aload_n 0, 1) := dc_42 (byA eNcX0_copy (p := 85) (v := 42) (by decide +kernel))
theorem dX0_copy_86 : decode cX0_copy 86 = .ok (.aload_n 1, 1) := dc_43 (byA eNcX0_copy (p := 86) (v := 43) (by decide +kernel))
theorem dX0_copy_87 : decode cX0_copy 87 = .ok (.getfield 87, 3) := dc_180 (byA eNcX0_copy (p := 87) (v := 180) (by decide +kernel)) (byA eNcX0_copy (p := 88) (v := 0) (by decide +kernel)) (byA eNcX0_copy (p := 89) (v := 87) (by decide +kernel)) rfl
theorem dX0_copy_90 : decode cX0_copy 90 = .ok (.putfield 87, 3) := dc_181 (byA eNcX0_copy (p := 90) (v := 181) (by decide +kernel)) (byA eNcX0_copy (p := 91) (v := 0) (by decide +kernel)) (byA eNcX0_copy (p := 92) (v := 87) (by decide +kernel)) rfl
theorem dX0_copy_93 : decode cX0_copy 93 = .ok (.return_, 1) := dc_177 (byA eNcX0_copy (p := 93) (v := 177) (by decide +kernel))
def X0_copy (l0 : Nat) (l1 : Nat) (μ : Mm) : Rs := cpA μ (l1 + 1) (l0 + 1) 60 fun μ1 => cpA μ1 (l1 + 2) (l0 + 2) 8 fun μ3 => cpA μ3 (l1 + 3) (l0 + 3) 8 fun μ5 => sF μ5 l0 3 (μ5 l1 3) fun μ7 => sF μ7 l0 4 (μ7 l1 4) fun μ8 => sF μ8 l0 5 (μ8 l1 5) fun μ9 => sF μ9 l0 6 (μ9 l1 6) fun μ10 => sF μ10 l0 7 (μ10 l1 7) fun μ11 => sF μ11 l0 8 (μ11 l1 8) fun μ12 => some (0, μ12)
set_option maxHeartbeats 4000000 in
set_option maxRecDepth 100000 in
theorem kX0_copy (d : Nat) (hd : 1 ≤ d) {l0 : Nat} {l1 : Nat} (hk0 : kD l0 = (10, 9)) (hk1 : kD l1 = (10, 9)) {μ : Mm} {r : Int} {μ' : Mm} (h : X0_copy l0 l1 μ = some (r, μ')) : CC d mX0_copy [vR l0, vR l1] μ r μ' := by
  unfold X0_copy at h
  refine V_enter (by decide) (Nat.le_of_ble_eq_true rfl) ?_
  show VV d mX0_copy 0 [some (vR l0), some (vR l1)] [] μ r μ'
  refine V_aload_n (q := 1) dX0_copy_0 rfl rfl rfl ?_
  refine V_getO (q := 4) (t := _) fl_X0_9 hk1 rfl rfl rfl dX0_copy_1 rfl ?_
  refine V_iconst (q := 5) dX0_copy_4 rfl rfl ?_
  refine V_aload_n (q := 6) dX0_copy_5 rfl rfl rfl ?_
  refine V_getO (q := 9) (t := _) fl_X0_9 hk0 rfl rfl rfl dX0_copy_6 rfl ?_
  refine V_iconst (q := 10) dX0_copy_9 rfl rfl ?_
  refine V_bipush (q := 12) dX0_copy_10 rfl rfl rfl ?_
  obtain ⟨hn2, h⟩ := cpA_i h
  refine V_copy (q := 15) mc_X0_81 (by omega) (kdo_0_0 hk1) (kdo_0_0 hk0) hn2 rfl dX0_copy_12 rfl ?_
  refine V_aload_n (q := 16) dX0_copy_15 rfl rfl rfl ?_
  refine V_getO (q := 19) (t := _) fl_X0_15 hk1 rfl rfl rfl dX0_copy_16 rfl ?_
  refine V_iconst (q := 20) dX0_copy_19 rfl rfl ?_
  refine V_aload_n (q := 21) dX0_copy_20 rfl rfl rfl ?_
  refine V_getO (q := 24) (t := _) fl_X0_15 hk0 rfl rfl rfl dX0_copy_21 rfl ?_
  refine V_iconst (q := 25) dX0_copy_24 rfl rfl ?_
  refine V_bipush (q := 27) dX0_copy_25 rfl rfl rfl ?_
  obtain ⟨hn4, h⟩ := cpA_i h
  refine V_copy (q := 30) mc_X0_81 (by omega) (kdo_0_1 hk1) (kdo_0_1 hk0) hn4 rfl dX0_copy_27 rfl ?_
  refine V_aload_n (q := 31) dX0_copy_30 rfl rfl rfl ?_
  refine V_getO (q := 34) (t := _) fl_X0_18 hk1 rfl rfl rfl dX0_copy_31 rfl ?_
  refine V_iconst (q := 35) dX0_copy_34 rfl rfl ?_
  refine V_aload_n (q := 36) dX0_copy_35 rfl rfl rfl ?_
  refine V_getO (q := 39) (t := _) fl_X0_18 hk0 rfl rfl rfl dX0_copy_36 rfl ?_
  refine V_iconst (q := 40) dX0_copy_39 rfl rfl ?_
  refine V_bipush (q := 42) dX0_copy_40 rfl rfl rfl ?_
  obtain ⟨hn6, h⟩ := cpA_i h
  refine V_copy (q := 45) mc_X0_81 (by omega) (kdo_0_2 hk1) (kdo_0_2 hk0) hn6 rfl dX0_copy_42 rfl ?_
  refine V_aload_n (q := 46) dX0_copy_45 rfl rfl rfl ?_
  refine V_aload_n (q := 47) dX0_copy_46 rfl rfl rfl ?_
  refine V_getI (q := 50) fl_X0_24 hk1 rfl rfl dX0_copy_47 rfl ?_
  have h := sF_i h
  refine V_putI (q := 53) fl_X0_24 hk0 rfl rfl dX0_copy_50 rfl ?_
  refine V_aload_n (q := 54) dX0_copy_53 rfl rfl rfl ?_
  refine V_aload_n (q := 55) dX0_copy_54 rfl rfl rfl ?_
  refine V_getI (q := 58) fl_X0_28 hk1 rfl rfl dX0_copy_55 rfl ?_
  have h := sF_i h
  refine V_putI (q := 61) fl_X0_28 hk0 rfl rfl dX0_copy_58 rfl ?_
  refine V_aload_n (q := 62) dX0_copy_61 rfl rfl rfl ?_
  refine V_aload_n (q := 63) dX0_copy_62 rfl rfl rfl ?_
  refine V_getI (q := 66) fl_X0_31 hk1 rfl rfl dX0_copy_63 rfl ?_
  have h := sF_i h
  refine V_putI (q := 69) fl_X0_31 hk0 rfl rfl dX0_copy_66 rfl ?_
  refine V_aload_n (q := 70) dX0_copy_69 rfl rfl rfl ?_
  refine V_aload_n (q := 71) dX0_copy_70 rfl rfl rfl ?_
  refine V_getI (q := 74) fl_X0_34 hk1 rfl rfl dX0_copy_71 rfl ?_
  have h := sF_i h
  refine V_putI (q := 77) fl_X0_34 hk0 rfl rfl dX0_copy_74 rfl ?_
  refine V_aload_n (q := 78) dX0_copy_77 rfl rfl rfl ?_
  refine V_aload_n (q := 79) dX0_copy_78 rfl rfl rfl ?_
  refine V_getI (q := 82) fl_X0_37 hk1 rfl rfl dX0_copy_79 rfl ?_
  have h := sF_i h
  refine V_putI (q := 85) fl_X0_37 hk0 rfl rfl dX0_copy_82 rfl ?_
  refine V_aload_n (q := 86) dX0_copy_85 rfl rfl rfl ?_
  refine V_aload_n (q := 87) dX0_copy_86 rfl rfl rfl ?_
  refine V_getI (q := 90) fl_X0_87 hk1 rfl rfl dX0_copy_87 rfl ?_
  have h := sF_i h
  refine V_putI (q := 93) fl_X0_87 hk0 rfl rfl dX0_copy_90 rfl ?_
  exact V_vret rfl h dX0_copy_93
abbrev mX0_windOf : Mth := (yX0_windOf, cX0_windOf, 2, some .int)
set_option maxRecDepth 100000 in
theorem mi_X0_windOf : Cond.instanceMethod yX0_windOf ∈ tG ∧ Cond.selects yX0_windOf.cls yX0_windOf yX0_windOf ∈ tG ∧ Cond.initialized yX0_windOf.cls ∈ tG ∧ Cond.code yX0_windOf cX0_windOf 2 (some .int) ∈ tG ∧ (yX0_windOf.cls ≠ "java/lang/invoke/MethodHandle" ∧ yX0_windOf.cls ≠ "java/lang/invoke/VarHandle" ∧ (parseMethodDescriptor yX0_windOf.desc).map (fun d => d.parameters.length) = some 1) ∧ 2 ≤ 60 := ⟨(tG_of (tb3 (List.mem_of_getElem? (i := 237) rfl)) (by decide +kernel)), (tG_of (tb3 (List.mem_of_getElem? (i := 238) rfl)) (by decide +kernel)), (tG_of (tb1 (List.mem_of_getElem? (i := 5) rfl)) (by decide +kernel)), (tG_of (tb3 (List.mem_of_getElem? (i := 239) rfl)) (by decide +kernel)), ⟨by decide, by decide, by decide +kernel⟩, by decide⟩
set_option maxRecDepth 100000 in
theorem mv_X0_94 : mV RX0 94 mX0_windOf 1 := ⟨(tG_of (tb4 (List.mem_of_getElem? (i := 165) rfl)) (by decide +kernel)), mi_X0_windOf⟩
set_option maxRecDepth 100000 in
theorem mv_X1_38 : mV RX1 38 mX0_windOf 1 := ⟨(tG_of (tb3 (List.mem_of_getElem? (i := 236) rfl)) (by decide +kernel)), mi_X0_windOf⟩
theorem dX0_windOf_0 : decode cX0_windOf 0 = .ok (.iload_n 1, 1) := dc_27 (byA eNcX0_windOf (p := 0) (v := 27) (by decide +kernel))
theorem dX0_windOf_1 : decode cX0_windOf 1 = .ok (.ifCond .lt 18, 3) := dc_155 (byA eNcX0_windOf (p := 1) (v := 155) (by decide +kernel)) (byA eNcX0_windOf (p := 2) (v := 0) (by decide +kernel)) (byA eNcX0_windOf (p := 3) (v := 18) (by decide +kernel)) (by decide +kernel)
theorem dX0_windOf_4 : decode cX0_windOf 4 = .ok (.iload_n 1, 1) := dc_27 (byA eNcX0_windOf (p := 4) (v := 27) (by decide +kernel))
theorem dX0_windOf_5 : decode cX0_windOf 5 = .ok (.bipush 8, 2) := dc_16 (byA eNcX0_windOf (p := 5) (v := 16) (by decide +kernel)) (byA eNcX0_windOf (p := 6) (v := 8) (by decide +kernel)) (by decide +kernel)
theorem dX0_windOf_7 : decode cX0_windOf 7 = .ok (.if_icmp .ge 12, 3) := dc_162 (byA eNcX0_windOf (p := 7) (v := 162) (by decide +kernel)) (byA eNcX0_windOf (p := 8) (v := 0) (by decide +kernel)) (byA eNcX0_windOf (p := 9) (v := 12) (by decide +kernel)) (by decide +kernel)
theorem dX0_windOf_10 : decode cX0_windOf 10 = .ok (.aload_n 0, 1) := dc_42 (byA eNcX0_windOf (p := 10) (v := 42) (by decide +kernel))
theorem dX0_windOf_11 : decode cX0_windOf 11 = .ok (.getfield 18, 3) := dc_180 (byA eNcX0_windOf (p := 11) (v := 180) (by decide +kernel)) (byA eNcX0_windOf (p := 12) (v := 0) (by decide +kernel)) (byA eNcX0_windOf (p := 13) (v := 18) (by decide +kernel)) rfl
theorem dX0_windOf_14 : decode cX0_windOf 14 = .ok (.iload_n 1, 1) := dc_27 (byA eNcX0_windOf (p := 14) (v := 27) (by decide +kernel))
theorem dX0_windOf_15 : decode cX0_windOf 15 = .ok (.iaload, 1) := dc_46 (byA eNcX0_windOf (p := 15) (v := 46) (by decide +kernel))
theorem dX0_windOf_16 : decode cX0_windOf 16 = .ok (.goto 4, 3) := dc_167 (byA eNcX0_windOf (p := 16) (v := 167) (by decide +kernel)) (byA eNcX0_windOf (p := 17) (v := 0) (by decide +kernel)) (byA eNcX0_windOf (p := 18) (v := 4) (by decide +kernel)) (by decide +kernel)
theorem dX0_windOf_19 : decode cX0_windOf 19 = .ok (.iconst 3, 1) := dc_6 (byA eNcX0_windOf (p := 19) (v := 6) (by decide +kernel))
theorem dX0_windOf_20 : decode cX0_windOf 20 = .ok (.ireturn, 1) := dc_172 (byA eNcX0_windOf (p := 20) (v := 172) (by decide +kernel))
def X0_windOf (l0 : Nat) (l1 : Int) (μ : Mm) : Rs := if l1 < 0 then (some (3, μ)) else (if 8 ≤ l1 then (some (3, μ)) else (ldA μ (l0 + 3) l1 fun v3 => some (v3, μ)))
set_option maxHeartbeats 4000000 in
set_option maxRecDepth 100000 in
theorem kX0_windOf (d : Nat) (hd : 1 ≤ d) {l0 : Nat} {l1 : Int} (hk0 : kD l0 = (10, 9)) {μ : Mm} {r : Int} {μ' : Mm} (h : X0_windOf l0 l1 μ = some (r, μ')) : CC d mX0_windOf [vR l0, vI l1] μ r μ' := by
  unfold X0_windOf at h
  refine V_enter (by decide) (Nat.le_of_ble_eq_true rfl) ?_
  show VV d mX0_windOf 0 [some (vR l0), some (vI l1)] [] μ r μ'
  refine V_iload_n (q := 1) dX0_windOf_0 rfl rfl rfl ?_
  refine V_iflt (q := 19) (q2 := 4) dX0_windOf_1 (by decide) rfl (fun hc1 => ?_) (fun hc1 => ?_)
  · have h := ifT hc1 h
    refine V_iconst (q := 20) dX0_windOf_19 rfl rfl ?_
    exact V_iret rfl h dX0_windOf_20
  · have h := ifF hc1 h
    refine V_iload_n (q := 5) dX0_windOf_4 rfl rfl rfl ?_
    refine V_bipush (q := 7) dX0_windOf_5 rfl rfl rfl ?_
    refine V_icmpge (q := 19) (q2 := 10) dX0_windOf_7 (by decide) rfl (fun hc2 => ?_) (fun hc2 => ?_)
    · have h := ifT hc2 h
      refine V_iconst (q := 20) dX0_windOf_19 rfl rfl ?_
      exact V_iret rfl h dX0_windOf_20
    · have h := ifF hc2 h
      refine V_aload_n (q := 11) dX0_windOf_10 rfl rfl rfl ?_
      refine V_getO (q := 14) (t := _) fl_X0_18 hk0 rfl rfl rfl dX0_windOf_11 rfl ?_
      refine V_iload_n (q := 15) dX0_windOf_14 rfl rfl rfl ?_
      obtain ⟨hi4, h⟩ := ldA_i h
      refine V_iaload (q := 16) (kdo_0_2 hk0) hi4 dX0_windOf_15 rfl ?_
      refine V_goto (q := 20) dX0_windOf_16 (by decide) ?_
      exact V_iret rfl h dX0_windOf_20
abbrev mX0_cellAt : Mth := (yX0_cellAt, cX0_cellAt, 2, some .int)
set_option maxRecDepth 100000 in
theorem mi_X0_cellAt : Cond.instanceMethod yX0_cellAt ∈ tG ∧ Cond.selects yX0_cellAt.cls yX0_cellAt yX0_cellAt ∈ tG ∧ Cond.initialized yX0_cellAt.cls ∈ tG ∧ Cond.code yX0_cellAt cX0_cellAt 2 (some .int) ∈ tG ∧ (yX0_cellAt.cls ≠ "java/lang/invoke/MethodHandle" ∧ yX0_cellAt.cls ≠ "java/lang/invoke/VarHandle" ∧ (parseMethodDescriptor yX0_cellAt.desc).map (fun d => d.parameters.length) = some 1) ∧ 2 ≤ 60 := ⟨(tG_of (tb3 (List.mem_of_getElem? (i := 103) rfl)) (by decide +kernel)), (tG_of (tb3 (List.mem_of_getElem? (i := 104) rfl)) (by decide +kernel)), (tG_of (tb1 (List.mem_of_getElem? (i := 5) rfl)) (by decide +kernel)), (tG_of (tb3 (List.mem_of_getElem? (i := 105) rfl)) (by decide +kernel)), ⟨by decide, by decide, by decide +kernel⟩, by decide⟩
set_option maxRecDepth 100000 in
theorem mv_X10_178 : mV RX10 178 mX0_cellAt 1 := ⟨(tG_of (tb3 (List.mem_of_getElem? (i := 102) rfl)) (by decide +kernel)), mi_X0_cellAt⟩
set_option maxRecDepth 100000 in
theorem mv_X0_101 : mV RX0 101 mX0_cellAt 1 := ⟨(tG_of (tb3 (List.mem_of_getElem? (i := 167) rfl)) (by decide +kernel)), mi_X0_cellAt⟩
theorem dX0_cellAt_0 : decode cX0_cellAt 0 = .ok (.iload_n 1, 1) := dc_27 (byA eNcX0_cellAt (p := 0) (v := 27) (by decide +kernel))
theorem dX0_cellAt_1 : decode cX0_cellAt 1 = .ok (.ifCond .lt 18, 3) := dc_155 (byA eNcX0_cellAt (p := 1) (v := 155) (by decide +kernel)) (byA eNcX0_cellAt (p := 2) (v := 0) (by decide +kernel)) (byA eNcX0_cellAt (p := 3) (v := 18) (by decide +kernel)) (by decide +kernel)
theorem dX0_cellAt_4 : decode cX0_cellAt 4 = .ok (.iload_n 1, 1) := dc_27 (byA eNcX0_cellAt (p := 4) (v := 27) (by decide +kernel))
theorem dX0_cellAt_5 : decode cX0_cellAt 5 = .ok (.bipush 60, 2) := dc_16 (byA eNcX0_cellAt (p := 5) (v := 16) (by decide +kernel)) (byA eNcX0_cellAt (p := 6) (v := 60) (by decide +kernel)) (by decide +kernel)
theorem dX0_cellAt_7 : decode cX0_cellAt 7 = .ok (.if_icmp .ge 12, 3) := dc_162 (byA eNcX0_cellAt (p := 7) (v := 162) (by decide +kernel)) (byA eNcX0_cellAt (p := 8) (v := 0) (by decide +kernel)) (byA eNcX0_cellAt (p := 9) (v := 12) (by decide +kernel)) (by decide +kernel)
theorem dX0_cellAt_10 : decode cX0_cellAt 10 = .ok (.aload_n 0, 1) := dc_42 (byA eNcX0_cellAt (p := 10) (v := 42) (by decide +kernel))
theorem dX0_cellAt_11 : decode cX0_cellAt 11 = .ok (.getfield 9, 3) := dc_180 (byA eNcX0_cellAt (p := 11) (v := 180) (by decide +kernel)) (byA eNcX0_cellAt (p := 12) (v := 0) (by decide +kernel)) (byA eNcX0_cellAt (p := 13) (v := 9) (by decide +kernel)) rfl
theorem dX0_cellAt_14 : decode cX0_cellAt 14 = .ok (.iload_n 1, 1) := dc_27 (byA eNcX0_cellAt (p := 14) (v := 27) (by decide +kernel))
theorem dX0_cellAt_15 : decode cX0_cellAt 15 = .ok (.iaload, 1) := dc_46 (byA eNcX0_cellAt (p := 15) (v := 46) (by decide +kernel))
theorem dX0_cellAt_16 : decode cX0_cellAt 16 = .ok (.goto 4, 3) := dc_167 (byA eNcX0_cellAt (p := 16) (v := 167) (by decide +kernel)) (byA eNcX0_cellAt (p := 17) (v := 0) (by decide +kernel)) (byA eNcX0_cellAt (p := 18) (v := 4) (by decide +kernel)) (by decide +kernel)
theorem dX0_cellAt_19 : decode cX0_cellAt 19 = .ok (.iconst (-1), 1) := dc_2 (byA eNcX0_cellAt (p := 19) (v := 2) (by decide +kernel))
theorem dX0_cellAt_20 : decode cX0_cellAt 20 = .ok (.ireturn, 1) := dc_172 (byA eNcX0_cellAt (p := 20) (v := 172) (by decide +kernel))
def X0_cellAt (l0 : Nat) (l1 : Int) (μ : Mm) : Rs := if l1 < 0 then (some ((-1), μ)) else (if 60 ≤ l1 then (some ((-1), μ)) else (ldA μ (l0 + 1) l1 fun v3 => some (v3, μ)))
set_option maxHeartbeats 4000000 in
set_option maxRecDepth 100000 in
theorem kX0_cellAt (d : Nat) (hd : 1 ≤ d) {l0 : Nat} {l1 : Int} (hk0 : kD l0 = (10, 9)) {μ : Mm} {r : Int} {μ' : Mm} (h : X0_cellAt l0 l1 μ = some (r, μ')) : CC d mX0_cellAt [vR l0, vI l1] μ r μ' := by
  unfold X0_cellAt at h
  refine V_enter (by decide) (Nat.le_of_ble_eq_true rfl) ?_
  show VV d mX0_cellAt 0 [some (vR l0), some (vI l1)] [] μ r μ'
  refine V_iload_n (q := 1) dX0_cellAt_0 rfl rfl rfl ?_
  refine V_iflt (q := 19) (q2 := 4) dX0_cellAt_1 (by decide) rfl (fun hc1 => ?_) (fun hc1 => ?_)
  · have h := ifT hc1 h
    refine V_iconst (q := 20) dX0_cellAt_19 rfl rfl ?_
    exact V_iret rfl h dX0_cellAt_20
  · have h := ifF hc1 h
    refine V_iload_n (q := 5) dX0_cellAt_4 rfl rfl rfl ?_
    refine V_bipush (q := 7) dX0_cellAt_5 rfl rfl rfl ?_
    refine V_icmpge (q := 19) (q2 := 10) dX0_cellAt_7 (by decide) rfl (fun hc2 => ?_) (fun hc2 => ?_)
    · have h := ifT hc2 h
      refine V_iconst (q := 20) dX0_cellAt_19 rfl rfl ?_
      exact V_iret rfl h dX0_cellAt_20
    · have h := ifF hc2 h
      refine V_aload_n (q := 11) dX0_cellAt_10 rfl rfl rfl ?_
      refine V_getO (q := 14) (t := _) fl_X0_9 hk0 rfl rfl rfl dX0_cellAt_11 rfl ?_
      refine V_iload_n (q := 15) dX0_cellAt_14 rfl rfl rfl ?_
      obtain ⟨hi4, h⟩ := ldA_i h
      refine V_iaload (q := 16) (kdo_0_0 hk0) hi4 dX0_cellAt_15 rfl ?_
      refine V_goto (q := 20) dX0_cellAt_16 (by decide) ?_
      exact V_iret rfl h dX0_cellAt_20
abbrev mX0_isOpen : Mth := (yX0_isOpen, cX0_isOpen, 2, some .boolean)
set_option maxRecDepth 100000 in
theorem mi_X0_isOpen : Cond.instanceMethod yX0_isOpen ∈ tG ∧ Cond.selects yX0_isOpen.cls yX0_isOpen yX0_isOpen ∈ tG ∧ Cond.initialized yX0_isOpen.cls ∈ tG ∧ Cond.code yX0_isOpen cX0_isOpen 2 (some .boolean) ∈ tG ∧ (yX0_isOpen.cls ≠ "java/lang/invoke/MethodHandle" ∧ yX0_isOpen.cls ≠ "java/lang/invoke/VarHandle" ∧ (parseMethodDescriptor yX0_isOpen.desc).map (fun d => d.parameters.length) = some 1) ∧ 2 ≤ 60 := ⟨(tG_of (tb3 (List.mem_of_getElem? (i := 119) rfl)) (by decide +kernel)), (tG_of (tb3 (List.mem_of_getElem? (i := 120) rfl)) (by decide +kernel)), (tG_of (tb1 (List.mem_of_getElem? (i := 5) rfl)) (by decide +kernel)), (tG_of (tb3 (List.mem_of_getElem? (i := 121) rfl)) (by decide +kernel)), ⟨by decide, by decide, by decide +kernel⟩, by decide⟩
set_option maxRecDepth 100000 in
theorem mv_X10_217 : mV RX10 217 mX0_isOpen 1 := ⟨(tG_of (tb3 (List.mem_of_getElem? (i := 191) rfl)) (by decide +kernel)), mi_X0_isOpen⟩
set_option maxRecDepth 100000 in
theorem mv_X9_30 : mV RX9 30 mX0_isOpen 1 := ⟨(tG_of (tb3 (List.mem_of_getElem? (i := 118) rfl)) (by decide +kernel)), mi_X0_isOpen⟩
theorem dX0_isOpen_0 : decode cX0_isOpen 0 = .ok (.iload_n 1, 1) := dc_27 (byA eNcX0_isOpen (p := 0) (v := 27) (by decide +kernel))
theorem dX0_isOpen_1 : decode cX0_isOpen 1 = .ok (.ifCond .lt 33, 3) := dc_155 (byA eNcX0_isOpen (p := 1) (v := 155) (by decide +kernel)) (byA eNcX0_isOpen (p := 2) (v := 0) (by decide +kernel)) (byA eNcX0_isOpen (p := 3) (v := 33) (by decide +kernel)) (by decide +kernel)
theorem dX0_isOpen_4 : decode cX0_isOpen 4 = .ok (.iload_n 1, 1) := dc_27 (byA eNcX0_isOpen (p := 4) (v := 27) (by decide +kernel))
theorem dX0_isOpen_5 : decode cX0_isOpen 5 = .ok (.bipush 60, 2) := dc_16 (byA eNcX0_isOpen (p := 5) (v := 16) (by decide +kernel)) (byA eNcX0_isOpen (p := 6) (v := 60) (by decide +kernel)) (by decide +kernel)
theorem dX0_isOpen_7 : decode cX0_isOpen 7 = .ok (.if_icmp .ge 27, 3) := dc_162 (byA eNcX0_isOpen (p := 7) (v := 162) (by decide +kernel)) (byA eNcX0_isOpen (p := 8) (v := 0) (by decide +kernel)) (byA eNcX0_isOpen (p := 9) (v := 27) (by decide +kernel)) (by decide +kernel)
theorem dX0_isOpen_10 : decode cX0_isOpen 10 = .ok (.aload_n 0, 1) := dc_42 (byA eNcX0_isOpen (p := 10) (v := 42) (by decide +kernel))
theorem dX0_isOpen_11 : decode cX0_isOpen 11 = .ok (.getfield 9, 3) := dc_180 (byA eNcX0_isOpen (p := 11) (v := 180) (by decide +kernel)) (byA eNcX0_isOpen (p := 12) (v := 0) (by decide +kernel)) (byA eNcX0_isOpen (p := 13) (v := 9) (by decide +kernel)) rfl
theorem dX0_isOpen_14 : decode cX0_isOpen 14 = .ok (.iload_n 1, 1) := dc_27 (byA eNcX0_isOpen (p := 14) (v := 27) (by decide +kernel))
theorem dX0_isOpen_15 : decode cX0_isOpen 15 = .ok (.iaload, 1) := dc_46 (byA eNcX0_isOpen (p := 15) (v := 46) (by decide +kernel))
theorem dX0_isOpen_16 : decode cX0_isOpen 16 = .ok (.iconst (-1), 1) := dc_2 (byA eNcX0_isOpen (p := 16) (v := 2) (by decide +kernel))
theorem dX0_isOpen_17 : decode cX0_isOpen 17 = .ok (.if_icmp .eq 17, 3) := dc_159 (byA eNcX0_isOpen (p := 17) (v := 159) (by decide +kernel)) (byA eNcX0_isOpen (p := 18) (v := 0) (by decide +kernel)) (byA eNcX0_isOpen (p := 19) (v := 17) (by decide +kernel)) (by decide +kernel)
theorem dX0_isOpen_20 : decode cX0_isOpen 20 = .ok (.aload_n 0, 1) := dc_42 (byA eNcX0_isOpen (p := 20) (v := 42) (by decide +kernel))
theorem dX0_isOpen_21 : decode cX0_isOpen 21 = .ok (.getfield 9, 3) := dc_180 (byA eNcX0_isOpen (p := 21) (v := 180) (by decide +kernel)) (byA eNcX0_isOpen (p := 22) (v := 0) (by decide +kernel)) (byA eNcX0_isOpen (p := 23) (v := 9) (by decide +kernel)) rfl
theorem dX0_isOpen_24 : decode cX0_isOpen 24 = .ok (.iload_n 1, 1) := dc_27 (byA eNcX0_isOpen (p := 24) (v := 27) (by decide +kernel))
theorem dX0_isOpen_25 : decode cX0_isOpen 25 = .ok (.iaload, 1) := dc_46 (byA eNcX0_isOpen (p := 25) (v := 46) (by decide +kernel))
theorem dX0_isOpen_26 : decode cX0_isOpen 26 = .ok (.iconst 1, 1) := dc_4 (byA eNcX0_isOpen (p := 26) (v := 4) (by decide +kernel))
theorem dX0_isOpen_27 : decode cX0_isOpen 27 = .ok (.if_icmp .eq 7, 3) := dc_159 (byA eNcX0_isOpen (p := 27) (v := 159) (by decide +kernel)) (byA eNcX0_isOpen (p := 28) (v := 0) (by decide +kernel)) (byA eNcX0_isOpen (p := 29) (v := 7) (by decide +kernel)) (by decide +kernel)
theorem dX0_isOpen_30 : decode cX0_isOpen 30 = .ok (.iconst 1, 1) := dc_4 (byA eNcX0_isOpen (p := 30) (v := 4) (by decide +kernel))
theorem dX0_isOpen_31 : decode cX0_isOpen 31 = .ok (.goto 4, 3) := dc_167 (byA eNcX0_isOpen (p := 31) (v := 167) (by decide +kernel)) (byA eNcX0_isOpen (p := 32) (v := 0) (by decide +kernel)) (byA eNcX0_isOpen (p := 33) (v := 4) (by decide +kernel)) (by decide +kernel)
theorem dX0_isOpen_34 : decode cX0_isOpen 34 = .ok (.iconst 0, 1) := dc_3 (byA eNcX0_isOpen (p := 34) (v := 3) (by decide +kernel))
theorem dX0_isOpen_35 : decode cX0_isOpen 35 = .ok (.ireturn, 1) := dc_172 (byA eNcX0_isOpen (p := 35) (v := 172) (by decide +kernel))
def X0_isOpen (l0 : Nat) (l1 : Int) (μ : Mm) : Rs := if l1 < 0 then (some (0, μ)) else (if 60 ≤ l1 then (some (0, μ)) else (ldA μ (l0 + 1) l1 fun v3 => if v3 = (-1) then (some (0, μ)) else (ldA μ (l0 + 1) l1 fun v6 => if v6 = 1 then (some (0, μ)) else (some (1, μ)))))
set_option maxHeartbeats 4000000 in
set_option maxRecDepth 100000 in
theorem kX0_isOpen (d : Nat) (hd : 1 ≤ d) {l0 : Nat} {l1 : Int} (hk0 : kD l0 = (10, 9)) {μ : Mm} {r : Int} {μ' : Mm} (h : X0_isOpen l0 l1 μ = some (r, μ')) : CC d mX0_isOpen [vR l0, vI l1] μ r μ' := by
  unfold X0_isOpen at h
  refine V_enter (by decide) (Nat.le_of_ble_eq_true rfl) ?_
  show VV d mX0_isOpen 0 [some (vR l0), some (vI l1)] [] μ r μ'
  refine V_iload_n (q := 1) dX0_isOpen_0 rfl rfl rfl ?_
  refine V_iflt (q := 34) (q2 := 4) dX0_isOpen_1 (by decide) rfl (fun hc1 => ?_) (fun hc1 => ?_)
  · have h := ifT hc1 h
    refine V_iconst (q := 35) dX0_isOpen_34 rfl rfl ?_
    exact V_zret rfl (Or.inl rfl) h dX0_isOpen_35
  · have h := ifF hc1 h
    refine V_iload_n (q := 5) dX0_isOpen_4 rfl rfl rfl ?_
    refine V_bipush (q := 7) dX0_isOpen_5 rfl rfl rfl ?_
    refine V_icmpge (q := 34) (q2 := 10) dX0_isOpen_7 (by decide) rfl (fun hc2 => ?_) (fun hc2 => ?_)
    · have h := ifT hc2 h
      refine V_iconst (q := 35) dX0_isOpen_34 rfl rfl ?_
      exact V_zret rfl (Or.inl rfl) h dX0_isOpen_35
    · have h := ifF hc2 h
      refine V_aload_n (q := 11) dX0_isOpen_10 rfl rfl rfl ?_
      refine V_getO (q := 14) (t := _) fl_X0_9 hk0 rfl rfl rfl dX0_isOpen_11 rfl ?_
      refine V_iload_n (q := 15) dX0_isOpen_14 rfl rfl rfl ?_
      obtain ⟨hi4, h⟩ := ldA_i h
      refine V_iaload (q := 16) (kdo_0_0 hk0) hi4 dX0_isOpen_15 rfl ?_
      refine V_iconst (q := 17) dX0_isOpen_16 rfl rfl ?_
      refine V_icmpeq (q := 34) (q2 := 20) dX0_isOpen_17 (by decide) rfl (fun hc5 => ?_) (fun hc5 => ?_)
      · have h := ifT hc5 h
        refine V_iconst (q := 35) dX0_isOpen_34 rfl rfl ?_
        exact V_zret rfl (Or.inl rfl) h dX0_isOpen_35
      · have h := ifF hc5 h
        refine V_aload_n (q := 21) dX0_isOpen_20 rfl rfl rfl ?_
        refine V_getO (q := 24) (t := _) fl_X0_9 hk0 rfl rfl rfl dX0_isOpen_21 rfl ?_
        refine V_iload_n (q := 25) dX0_isOpen_24 rfl rfl rfl ?_
        obtain ⟨hi7, h⟩ := ldA_i h
        refine V_iaload (q := 26) (kdo_0_0 hk0) hi7 dX0_isOpen_25 rfl ?_
        refine V_iconst (q := 27) dX0_isOpen_26 rfl rfl ?_
        refine V_icmpeq (q := 34) (q2 := 30) dX0_isOpen_27 (by decide) rfl (fun hc8 => ?_) (fun hc8 => ?_)
        · have h := ifT hc8 h
          refine V_iconst (q := 35) dX0_isOpen_34 rfl rfl ?_
          exact V_zret rfl (Or.inl rfl) h dX0_isOpen_35
        · have h := ifF hc8 h
          refine V_iconst (q := 31) dX0_isOpen_30 rfl rfl ?_
          refine V_goto (q := 35) dX0_isOpen_31 (by decide) ?_
          exact V_zret rfl (Or.inr rfl) h dX0_isOpen_35
abbrev mX0_tellStoop : Mth := (yX0_tellStoop, cX0_tellStoop, 2, some .boolean)
set_option maxRecDepth 100000 in
theorem mi_X0_tellStoop : Cond.instanceMethod yX0_tellStoop ∈ tG ∧ Cond.selects yX0_tellStoop.cls yX0_tellStoop yX0_tellStoop ∈ tG ∧ Cond.initialized yX0_tellStoop.cls ∈ tG ∧ Cond.code yX0_tellStoop cX0_tellStoop 2 (some .boolean) ∈ tG ∧ (yX0_tellStoop.cls ≠ "java/lang/invoke/MethodHandle" ∧ yX0_tellStoop.cls ≠ "java/lang/invoke/VarHandle" ∧ (parseMethodDescriptor yX0_tellStoop.desc).map (fun d => d.parameters.length) = some 1) ∧ 2 ≤ 60 := ⟨(tG_of (tb3 (List.mem_of_getElem? (i := 132) rfl)) (by decide +kernel)), (tG_of (tb3 (List.mem_of_getElem? (i := 133) rfl)) (by decide +kernel)), (tG_of (tb1 (List.mem_of_getElem? (i := 5) rfl)) (by decide +kernel)), (tG_of (tb3 (List.mem_of_getElem? (i := 134) rfl)) (by decide +kernel)), ⟨by decide, by decide, by decide +kernel⟩, by decide⟩
set_option maxRecDepth 100000 in
theorem mv_X10_188 : mV RX10 188 mX0_tellStoop 1 := ⟨(tG_of (tb3 (List.mem_of_getElem? (i := 131) rfl)) (by decide +kernel)), mi_X0_tellStoop⟩
theorem dX0_tellStoop_0 : decode cX0_tellStoop 0 = .ok (.aload_n 0, 1) := dc_42 (byA eNcX0_tellStoop (p := 0) (v := 42) (by decide +kernel))
theorem dX0_tellStoop_1 : decode cX0_tellStoop 1 = .ok (.invokevirtual 90, 3) := dc_182 (byA eNcX0_tellStoop (p := 1) (v := 182) (by decide +kernel)) (byA eNcX0_tellStoop (p := 2) (v := 0) (by decide +kernel)) (byA eNcX0_tellStoop (p := 3) (v := 90) (by decide +kernel)) rfl
theorem dX0_tellStoop_4 : decode cX0_tellStoop 4 = .ok (.ifCond .eq 14, 3) := dc_153 (byA eNcX0_tellStoop (p := 4) (v := 153) (by decide +kernel)) (byA eNcX0_tellStoop (p := 5) (v := 0) (by decide +kernel)) (byA eNcX0_tellStoop (p := 6) (v := 14) (by decide +kernel)) (by decide +kernel)
theorem dX0_tellStoop_7 : decode cX0_tellStoop 7 = .ok (.iload_n 1, 1) := dc_27 (byA eNcX0_tellStoop (p := 7) (v := 27) (by decide +kernel))
theorem dX0_tellStoop_8 : decode cX0_tellStoop 8 = .ok (.iconst 1, 1) := dc_4 (byA eNcX0_tellStoop (p := 8) (v := 4) (by decide +kernel))
theorem dX0_tellStoop_9 : decode cX0_tellStoop 9 = .ok (.if_icmp .lt 9, 3) := dc_161 (byA eNcX0_tellStoop (p := 9) (v := 161) (by decide +kernel)) (byA eNcX0_tellStoop (p := 10) (v := 0) (by decide +kernel)) (byA eNcX0_tellStoop (p := 11) (v := 9) (by decide +kernel)) (by decide +kernel)
theorem dX0_tellStoop_12 : decode cX0_tellStoop 12 = .ok (.iload_n 1, 1) := dc_27 (byA eNcX0_tellStoop (p := 12) (v := 27) (by decide +kernel))
theorem dX0_tellStoop_13 : decode cX0_tellStoop 13 = .ok (.bipush 9, 2) := dc_16 (byA eNcX0_tellStoop (p := 13) (v := 16) (by decide +kernel)) (byA eNcX0_tellStoop (p := 14) (v := 9) (by decide +kernel)) (by decide +kernel)
theorem dX0_tellStoop_15 : decode cX0_tellStoop 15 = .ok (.if_icmp .le 5, 3) := dc_164 (byA eNcX0_tellStoop (p := 15) (v := 164) (by decide +kernel)) (byA eNcX0_tellStoop (p := 16) (v := 0) (by decide +kernel)) (byA eNcX0_tellStoop (p := 17) (v := 5) (by decide +kernel)) (by decide +kernel)
theorem dX0_tellStoop_18 : decode cX0_tellStoop 18 = .ok (.iconst 0, 1) := dc_3 (byA eNcX0_tellStoop (p := 18) (v := 3) (by decide +kernel))
theorem dX0_tellStoop_19 : decode cX0_tellStoop 19 = .ok (.ireturn, 1) := dc_172 (byA eNcX0_tellStoop (p := 19) (v := 172) (by decide +kernel))
theorem dX0_tellStoop_20 : decode cX0_tellStoop 20 = .ok (.aload_n 0, 1) := dc_42 (byA eNcX0_tellStoop (p := 20) (v := 42) (by decide +kernel))
theorem dX0_tellStoop_21 : decode cX0_tellStoop 21 = .ok (.iload_n 1, 1) := dc_27 (byA eNcX0_tellStoop (p := 21) (v := 27) (by decide +kernel))
theorem dX0_tellStoop_22 : decode cX0_tellStoop 22 = .ok (.putfield 37, 3) := dc_181 (byA eNcX0_tellStoop (p := 22) (v := 181) (by decide +kernel)) (byA eNcX0_tellStoop (p := 23) (v := 0) (by decide +kernel)) (byA eNcX0_tellStoop (p := 24) (v := 37) (by decide +kernel)) rfl
theorem dX0_tellStoop_25 : decode cX0_tellStoop 25 = .ok (.iconst 1, 1) := dc_4 (byA eNcX0_tellStoop (p := 25) (v := 4) (by decide +kernel))
theorem dX0_tellStoop_26 : decode cX0_tellStoop 26 = .ok (.ireturn, 1) := dc_172 (byA eNcX0_tellStoop (p := 26) (v := 172) (by decide +kernel))
def X0_tellStoop (l0 : Nat) (l1 : Int) (μ : Mm) : Rs := bd (X0_stands l0 μ) fun v1 μ2 => if v1 = 0 then (some (0, μ2)) else (if l1 < 1 then (some (0, μ2)) else (if l1 ≤ 9 then (sF μ2 l0 7 l1 fun μ7 => some (1, μ7)) else (some (0, μ2))))
set_option maxHeartbeats 4000000 in
set_option maxRecDepth 100000 in
theorem kX0_tellStoop (d : Nat) (hd : 2 ≤ d) {l0 : Nat} {l1 : Int} (hk0 : kD l0 = (10, 9)) {μ : Mm} {r : Int} {μ' : Mm} (h : X0_tellStoop l0 l1 μ = some (r, μ')) : CC d mX0_tellStoop [vR l0, vI l1] μ r μ' := by
  unfold X0_tellStoop at h
  refine V_enter (by decide) (Nat.le_of_ble_eq_true rfl) ?_
  show VV d mX0_tellStoop 0 [some (vR l0), some (vI l1)] [] μ r μ'
  refine V_aload_n (q := 1) dX0_tellStoop_0 rfl rfl rfl ?_
  obtain ⟨v1, μ2, hc3, h⟩ := bd_i h
  refine V_cV1 (q := 4) (v := vI v1) (kX0_stands (d - 1) (by omega) hk0 hc3) (by omega) mv_X0_90 hk0 rfl rfl rfl rfl rfl dX0_tellStoop_1 rfl ?_
  refine V_ifeq (q := 18) (q2 := 7) dX0_tellStoop_4 (by decide) rfl (fun hc4 => ?_) (fun hc4 => ?_)
  · have h := ifT hc4 h
    refine V_iconst (q := 19) dX0_tellStoop_18 rfl rfl ?_
    exact V_zret rfl (Or.inl rfl) h dX0_tellStoop_19
  · have h := ifF hc4 h
    refine V_iload_n (q := 8) dX0_tellStoop_7 rfl rfl rfl ?_
    refine V_iconst (q := 9) dX0_tellStoop_8 rfl rfl ?_
    refine V_icmplt (q := 18) (q2 := 12) dX0_tellStoop_9 (by decide) rfl (fun hc5 => ?_) (fun hc5 => ?_)
    · have h := ifT hc5 h
      refine V_iconst (q := 19) dX0_tellStoop_18 rfl rfl ?_
      exact V_zret rfl (Or.inl rfl) h dX0_tellStoop_19
    · have h := ifF hc5 h
      refine V_iload_n (q := 13) dX0_tellStoop_12 rfl rfl rfl ?_
      refine V_bipush (q := 15) dX0_tellStoop_13 rfl rfl rfl ?_
      refine V_icmple (q := 20) (q2 := 18) dX0_tellStoop_15 (by decide) rfl (fun hc6 => ?_) (fun hc6 => ?_)
      · have h := ifT hc6 h
        refine V_aload_n (q := 21) dX0_tellStoop_20 rfl rfl rfl ?_
        refine V_iload_n (q := 22) dX0_tellStoop_21 rfl rfl rfl ?_
        have h := sF_i h
        refine V_putI (q := 25) fl_X0_37 hk0 rfl rfl dX0_tellStoop_22 rfl ?_
        refine V_iconst (q := 26) dX0_tellStoop_25 rfl rfl ?_
        exact V_zret rfl (Or.inr rfl) h dX0_tellStoop_26
      · have h := ifF hc6 h
        refine V_iconst (q := 19) dX0_tellStoop_18 rfl rfl ?_
        exact V_zret rfl (Or.inl rfl) h dX0_tellStoop_19
abbrev mX0_tellNight : Mth := (yX0_tellNight, cX0_tellNight, 2, some .boolean)
set_option maxRecDepth 100000 in
theorem mi_X0_tellNight : Cond.instanceMethod yX0_tellNight ∈ tG ∧ Cond.selects yX0_tellNight.cls yX0_tellNight yX0_tellNight ∈ tG ∧ Cond.initialized yX0_tellNight.cls ∈ tG ∧ Cond.code yX0_tellNight cX0_tellNight 2 (some .boolean) ∈ tG ∧ (yX0_tellNight.cls ≠ "java/lang/invoke/MethodHandle" ∧ yX0_tellNight.cls ≠ "java/lang/invoke/VarHandle" ∧ (parseMethodDescriptor yX0_tellNight.desc).map (fun d => d.parameters.length) = some 1) ∧ 2 ≤ 60 := ⟨(tG_of (tb3 (List.mem_of_getElem? (i := 140) rfl)) (by decide +kernel)), (tG_of (tb3 (List.mem_of_getElem? (i := 141) rfl)) (by decide +kernel)), (tG_of (tb1 (List.mem_of_getElem? (i := 5) rfl)) (by decide +kernel)), (tG_of (tb3 (List.mem_of_getElem? (i := 142) rfl)) (by decide +kernel)), ⟨by decide, by decide, by decide +kernel⟩, by decide⟩
set_option maxRecDepth 100000 in
theorem mv_X10_191 : mV RX10 191 mX0_tellNight 1 := ⟨(tG_of (tb3 (List.mem_of_getElem? (i := 139) rfl)) (by decide +kernel)), mi_X0_tellNight⟩
theorem dX0_tellNight_0 : decode cX0_tellNight 0 = .ok (.iload_n 1, 1) := dc_27 (byA eNcX0_tellNight (p := 0) (v := 27) (by decide +kernel))
theorem dX0_tellNight_1 : decode cX0_tellNight 1 = .ok (.ifCond .lt 9, 3) := dc_155 (byA eNcX0_tellNight (p := 1) (v := 155) (by decide +kernel)) (byA eNcX0_tellNight (p := 2) (v := 0) (by decide +kernel)) (byA eNcX0_tellNight (p := 3) (v := 9) (by decide +kernel)) (by decide +kernel)
theorem dX0_tellNight_4 : decode cX0_tellNight 4 = .ok (.iload_n 1, 1) := dc_27 (byA eNcX0_tellNight (p := 4) (v := 27) (by decide +kernel))
theorem dX0_tellNight_5 : decode cX0_tellNight 5 = .ok (.bipush 99, 2) := dc_16 (byA eNcX0_tellNight (p := 5) (v := 16) (by decide +kernel)) (byA eNcX0_tellNight (p := 6) (v := 99) (by decide +kernel)) (by decide +kernel)
theorem dX0_tellNight_7 : decode cX0_tellNight 7 = .ok (.if_icmp .le 5, 3) := dc_164 (byA eNcX0_tellNight (p := 7) (v := 164) (by decide +kernel)) (byA eNcX0_tellNight (p := 8) (v := 0) (by decide +kernel)) (byA eNcX0_tellNight (p := 9) (v := 5) (by decide +kernel)) (by decide +kernel)
theorem dX0_tellNight_10 : decode cX0_tellNight 10 = .ok (.iconst 0, 1) := dc_3 (byA eNcX0_tellNight (p := 10) (v := 3) (by decide +kernel))
theorem dX0_tellNight_11 : decode cX0_tellNight 11 = .ok (.ireturn, 1) := dc_172 (byA eNcX0_tellNight (p := 11) (v := 172) (by decide +kernel))
theorem dX0_tellNight_12 : decode cX0_tellNight 12 = .ok (.aload_n 0, 1) := dc_42 (byA eNcX0_tellNight (p := 12) (v := 42) (by decide +kernel))
theorem dX0_tellNight_13 : decode cX0_tellNight 13 = .ok (.iload_n 1, 1) := dc_27 (byA eNcX0_tellNight (p := 13) (v := 27) (by decide +kernel))
theorem dX0_tellNight_14 : decode cX0_tellNight 14 = .ok (.putfield 87, 3) := dc_181 (byA eNcX0_tellNight (p := 14) (v := 181) (by decide +kernel)) (byA eNcX0_tellNight (p := 15) (v := 0) (by decide +kernel)) (byA eNcX0_tellNight (p := 16) (v := 87) (by decide +kernel)) rfl
theorem dX0_tellNight_17 : decode cX0_tellNight 17 = .ok (.iconst 1, 1) := dc_4 (byA eNcX0_tellNight (p := 17) (v := 4) (by decide +kernel))
theorem dX0_tellNight_18 : decode cX0_tellNight 18 = .ok (.ireturn, 1) := dc_172 (byA eNcX0_tellNight (p := 18) (v := 172) (by decide +kernel))
def X0_tellNight (l0 : Nat) (l1 : Int) (μ : Mm) : Rs := if l1 < 0 then (some (0, μ)) else (if l1 ≤ 99 then (sF μ l0 8 l1 fun μ3 => some (1, μ3)) else (some (0, μ)))
set_option maxHeartbeats 4000000 in
set_option maxRecDepth 100000 in
theorem kX0_tellNight (d : Nat) (hd : 1 ≤ d) {l0 : Nat} {l1 : Int} (hk0 : kD l0 = (10, 9)) {μ : Mm} {r : Int} {μ' : Mm} (h : X0_tellNight l0 l1 μ = some (r, μ')) : CC d mX0_tellNight [vR l0, vI l1] μ r μ' := by
  unfold X0_tellNight at h
  refine V_enter (by decide) (Nat.le_of_ble_eq_true rfl) ?_
  show VV d mX0_tellNight 0 [some (vR l0), some (vI l1)] [] μ r μ'
  refine V_iload_n (q := 1) dX0_tellNight_0 rfl rfl rfl ?_
  refine V_iflt (q := 10) (q2 := 4) dX0_tellNight_1 (by decide) rfl (fun hc1 => ?_) (fun hc1 => ?_)
  · have h := ifT hc1 h
    refine V_iconst (q := 11) dX0_tellNight_10 rfl rfl ?_
    exact V_zret rfl (Or.inl rfl) h dX0_tellNight_11
  · have h := ifF hc1 h
    refine V_iload_n (q := 5) dX0_tellNight_4 rfl rfl rfl ?_
    refine V_bipush (q := 7) dX0_tellNight_5 rfl rfl rfl ?_
    refine V_icmple (q := 12) (q2 := 10) dX0_tellNight_7 (by decide) rfl (fun hc2 => ?_) (fun hc2 => ?_)
    · have h := ifT hc2 h
      refine V_aload_n (q := 13) dX0_tellNight_12 rfl rfl rfl ?_
      refine V_iload_n (q := 14) dX0_tellNight_13 rfl rfl rfl ?_
      have h := sF_i h
      refine V_putI (q := 17) fl_X0_87 hk0 rfl rfl dX0_tellNight_14 rfl ?_
      refine V_iconst (q := 18) dX0_tellNight_17 rfl rfl ?_
      exact V_zret rfl (Or.inr rfl) h dX0_tellNight_18
    · have h := ifF hc2 h
      refine V_iconst (q := 11) dX0_tellNight_10 rfl rfl ?_
      exact V_zret rfl (Or.inl rfl) h dX0_tellNight_11
