abbrev mX11_back : Mth := (yX11_back, cX11_back, 2, some .int)
set_option maxRecDepth 100000 in
theorem mi_X11_back : Cond.instanceMethod yX11_back ∈ tG ∧ Cond.selects yX11_back.cls yX11_back yX11_back ∈ tG ∧ Cond.initialized yX11_back.cls ∈ tG ∧ Cond.code yX11_back cX11_back 2 (some .int) ∈ tG ∧ (yX11_back.cls ≠ "java/lang/invoke/MethodHandle" ∧ yX11_back.cls ≠ "java/lang/invoke/VarHandle" ∧ (parseMethodDescriptor yX11_back.desc).map (fun d => d.parameters.length) = some 0) ∧ 2 ≤ 60 := ⟨(tG_of (tb7 (List.mem_of_getElem? (i := 182) rfl)) (by decide +kernel)), (tG_of (tb7 (List.mem_of_getElem? (i := 183) rfl)) (by decide +kernel)), (tG_of (tb1 (List.mem_of_getElem? (i := 12) rfl)) (by decide +kernel)), (tG_of (tb7 (List.mem_of_getElem? (i := 184) rfl)) (by decide +kernel)), ⟨by decide, by decide, by decide +kernel⟩, by decide⟩
theorem dX11_back_0 : decode cX11_back 0 = .ok (.aload_n 0, 1) := dc_42 (byA eNcX11_back (p := 0) (v := 42) (by decide +kernel))
theorem dX11_back_1 : decode cX11_back 1 = .ok (.getfield 264, 3) := dc_180 (byA eNcX11_back (p := 1) (v := 180) (by decide +kernel)) (byA eNcX11_back (p := 2) (v := 1) (by decide +kernel)) (byA eNcX11_back (p := 3) (v := 8) (by decide +kernel)) rfl
theorem dX11_back_4 : decode cX11_back 4 = .ok (.ifCond .ne 5, 3) := dc_154 (byA eNcX11_back (p := 4) (v := 154) (by decide +kernel)) (byA eNcX11_back (p := 5) (v := 0) (by decide +kernel)) (byA eNcX11_back (p := 6) (v := 5) (by decide +kernel)) (by decide +kernel)
theorem dX11_back_7 : decode cX11_back 7 = .ok (.iconst (-1), 1) := dc_2 (byA eNcX11_back (p := 7) (v := 2) (by decide +kernel))
theorem dX11_back_8 : decode cX11_back 8 = .ok (.ireturn, 1) := dc_172 (byA eNcX11_back (p := 8) (v := 172) (by decide +kernel))
theorem dX11_back_9 : decode cX11_back 9 = .ok (.iconst 0, 1) := dc_3 (byA eNcX11_back (p := 9) (v := 3) (by decide +kernel))
theorem dX11_back_10 : decode cX11_back 10 = .ok (.istore_n 1, 1) := dc_60 (byA eNcX11_back (p := 10) (v := 60) (by decide +kernel))
theorem dX11_back_11 : decode cX11_back 11 = .ok (.iload_n 1, 1) := dc_27 (byA eNcX11_back (p := 11) (v := 27) (by decide +kernel))
theorem dX11_back_12 : decode cX11_back 12 = .ok (.bipush 60, 2) := dc_16 (byA eNcX11_back (p := 12) (v := 16) (by decide +kernel)) (byA eNcX11_back (p := 13) (v := 60) (by decide +kernel)) (by decide +kernel)
theorem dX11_back_14 : decode cX11_back 14 = .ok (.if_icmp .ge 21, 3) := dc_162 (byA eNcX11_back (p := 14) (v := 162) (by decide +kernel)) (byA eNcX11_back (p := 15) (v := 0) (by decide +kernel)) (byA eNcX11_back (p := 16) (v := 21) (by decide +kernel)) (by decide +kernel)
theorem dX11_back_17 : decode cX11_back 17 = .ok (.aload_n 0, 1) := dc_42 (byA eNcX11_back (p := 17) (v := 42) (by decide +kernel))
theorem dX11_back_18 : decode cX11_back 18 = .ok (.getfield 43, 3) := dc_180 (byA eNcX11_back (p := 18) (v := 180) (by decide +kernel)) (byA eNcX11_back (p := 19) (v := 0) (by decide +kernel)) (byA eNcX11_back (p := 20) (v := 43) (by decide +kernel)) rfl
theorem dX11_back_21 : decode cX11_back 21 = .ok (.iload_n 1, 1) := dc_27 (byA eNcX11_back (p := 21) (v := 27) (by decide +kernel))
theorem dX11_back_22 : decode cX11_back 22 = .ok (.aload_n 0, 1) := dc_42 (byA eNcX11_back (p := 22) (v := 42) (by decide +kernel))
theorem dX11_back_23 : decode cX11_back 23 = .ok (.getfield 92, 3) := dc_180 (byA eNcX11_back (p := 23) (v := 180) (by decide +kernel)) (byA eNcX11_back (p := 24) (v := 0) (by decide +kernel)) (byA eNcX11_back (p := 25) (v := 92) (by decide +kernel)) rfl
theorem dX11_back_26 : decode cX11_back 26 = .ok (.iload_n 1, 1) := dc_27 (byA eNcX11_back (p := 26) (v := 27) (by decide +kernel))
theorem dX11_back_27 : decode cX11_back 27 = .ok (.iaload, 1) := dc_46 (byA eNcX11_back (p := 27) (v := 46) (by decide +kernel))
theorem dX11_back_28 : decode cX11_back 28 = .ok (.iastore, 1) := dc_79 (byA eNcX11_back (p := 28) (v := 79) (by decide +kernel))
theorem dX11_back_29 : decode cX11_back 29 = .ok (.iinc 1 1, 3) := dc_132 (byA eNcX11_back (p := 29) (v := 132) (by decide +kernel)) (byA eNcX11_back (p := 30) (v := 1) (by decide +kernel)) (byA eNcX11_back (p := 31) (v := 1) (by decide +kernel)) (by decide +kernel)
theorem dX11_back_32 : decode cX11_back 32 = .ok (.goto (-21), 3) := dc_167 (byA eNcX11_back (p := 32) (v := 167) (by decide +kernel)) (byA eNcX11_back (p := 33) (v := 255) (by decide +kernel)) (byA eNcX11_back (p := 34) (v := 235) (by decide +kernel)) (by decide +kernel)
theorem dX11_back_35 : decode cX11_back 35 = .ok (.iconst 0, 1) := dc_3 (byA eNcX11_back (p := 35) (v := 3) (by decide +kernel))
theorem dX11_back_36 : decode cX11_back 36 = .ok (.istore_n 1, 1) := dc_60 (byA eNcX11_back (p := 36) (v := 60) (by decide +kernel))
theorem dX11_back_37 : decode cX11_back 37 = .ok (.iload_n 1, 1) := dc_27 (byA eNcX11_back (p := 37) (v := 27) (by decide +kernel))
theorem dX11_back_38 : decode cX11_back 38 = .ok (.bipush 8, 2) := dc_16 (byA eNcX11_back (p := 38) (v := 16) (by decide +kernel)) (byA eNcX11_back (p := 39) (v := 8) (by decide +kernel)) (by decide +kernel)
theorem dX11_back_40 : decode cX11_back 40 = .ok (.if_icmp .ge 21, 3) := dc_162 (byA eNcX11_back (p := 40) (v := 162) (by decide +kernel)) (byA eNcX11_back (p := 41) (v := 0) (by decide +kernel)) (byA eNcX11_back (p := 42) (v := 21) (by decide +kernel)) (by decide +kernel)
theorem dX11_back_43 : decode cX11_back 43 = .ok (.aload_n 0, 1) := dc_42 (byA eNcX11_back (p := 43) (v := 42) (by decide +kernel))
theorem dX11_back_44 : decode cX11_back 44 = .ok (.getfield 55, 3) := dc_180 (byA eNcX11_back (p := 44) (v := 180) (by decide +kernel)) (byA eNcX11_back (p := 45) (v := 0) (by decide +kernel)) (byA eNcX11_back (p := 46) (v := 55) (by decide +kernel)) rfl
theorem dX11_back_47 : decode cX11_back 47 = .ok (.iload_n 1, 1) := dc_27 (byA eNcX11_back (p := 47) (v := 27) (by decide +kernel))
theorem dX11_back_48 : decode cX11_back 48 = .ok (.aload_n 0, 1) := dc_42 (byA eNcX11_back (p := 48) (v := 42) (by decide +kernel))
theorem dX11_back_49 : decode cX11_back 49 = .ok (.getfield 95, 3) := dc_180 (byA eNcX11_back (p := 49) (v := 180) (by decide +kernel)) (byA eNcX11_back (p := 50) (v := 0) (by decide +kernel)) (byA eNcX11_back (p := 51) (v := 95) (by decide +kernel)) rfl
theorem dX11_back_52 : decode cX11_back 52 = .ok (.iload_n 1, 1) := dc_27 (byA eNcX11_back (p := 52) (v := 27) (by decide +kernel))
theorem dX11_back_53 : decode cX11_back 53 = .ok (.iaload, 1) := dc_46 (byA eNcX11_back (p := 53) (v := 46) (by decide +kernel))
theorem dX11_back_54 : decode cX11_back 54 = .ok (.iastore, 1) := dc_79 (byA eNcX11_back (p := 54) (v := 79) (by decide +kernel))
theorem dX11_back_55 : decode cX11_back 55 = .ok (.iinc 1 1, 3) := dc_132 (byA eNcX11_back (p := 55) (v := 132) (by decide +kernel)) (byA eNcX11_back (p := 56) (v := 1) (by decide +kernel)) (byA eNcX11_back (p := 57) (v := 1) (by decide +kernel)) (by decide +kernel)
theorem dX11_back_58 : decode cX11_back 58 = .ok (.goto (-21), 3) := dc_167 (byA eNcX11_back (p := 58) (v := 167) (by decide +kernel)) (byA eNcX11_back (p := 59) (v := 255) (by decide +kernel)) (byA eNcX11_back (p := 60) (v := 235) (by decide +kernel)) (by decide +kernel)
theorem dX11_back_61 : decode cX11_back 61 = .ok (.aload_n 0, 1) := dc_42 (byA eNcX11_back (p := 61) (v := 42) (by decide +kernel))
theorem dX11_back_62 : decode cX11_back 62 = .ok (.aload_n 0, 1) := dc_42 (byA eNcX11_back (p := 62) (v := 42) (by decide +kernel))
theorem dX11_back_63 : decode cX11_back 63 = .ok (.getfield 389, 3) := dc_180 (byA eNcX11_back (p := 63) (v := 180) (by decide +kernel)) (byA eNcX11_back (p := 64) (v := 1) (by decide +kernel)) (byA eNcX11_back (p := 65) (v := 133) (by decide +kernel)) rfl
theorem dX11_back_66 : decode cX11_back 66 = .ok (.putfield 58, 3) := dc_181 (byA eNcX11_back (p := 66) (v := 181) (by decide +kernel)) (byA eNcX11_back (p := 67) (v := 0) (by decide +kernel)) (byA eNcX11_back (p := 68) (v := 58) (by decide +kernel)) rfl
theorem dX11_back_69 : decode cX11_back 69 = .ok (.aload_n 0, 1) := dc_42 (byA eNcX11_back (p := 69) (v := 42) (by decide +kernel))
theorem dX11_back_70 : decode cX11_back 70 = .ok (.aload_n 0, 1) := dc_42 (byA eNcX11_back (p := 70) (v := 42) (by decide +kernel))
theorem dX11_back_71 : decode cX11_back 71 = .ok (.getfield 392, 3) := dc_180 (byA eNcX11_back (p := 71) (v := 180) (by decide +kernel)) (byA eNcX11_back (p := 72) (v := 1) (by decide +kernel)) (byA eNcX11_back (p := 73) (v := 136) (by decide +kernel)) rfl
theorem dX11_back_74 : decode cX11_back 74 = .ok (.putfield 307, 3) := dc_181 (byA eNcX11_back (p := 74) (v := 181) (by decide +kernel)) (byA eNcX11_back (p := 75) (v := 1) (by decide +kernel)) (byA eNcX11_back (p := 76) (v := 51) (by decide +kernel)) rfl
theorem dX11_back_77 : decode cX11_back 77 = .ok (.aload_n 0, 1) := dc_42 (byA eNcX11_back (p := 77) (v := 42) (by decide +kernel))
theorem dX11_back_78 : decode cX11_back 78 = .ok (.invokevirtual 395, 3) := dc_182 (byA eNcX11_back (p := 78) (v := 182) (by decide +kernel)) (byA eNcX11_back (p := 79) (v := 1) (by decide +kernel)) (byA eNcX11_back (p := 80) (v := 139) (by decide +kernel)) rfl
theorem dX11_back_81 : decode cX11_back 81 = .ok (.ireturn, 1) := dc_172 (byA eNcX11_back (p := 81) (v := 172) (by decide +kernel))
def X11_back_L11 (k35 : Mm → Rs) : Nat → Int → Mm → Rs
  | 0, _, _ => none
  | n + 1, l1, μ => if 60 ≤ l1 then (k35 μ) else (ldA μ 96 l1 fun v3 => stA μ 82 l1 v3 fun μ5 => X11_back_L11 k35 n (iA l1 1) μ5)
def X11_back_L37 (k61 : Mm → Rs) : Nat → Int → Mm → Rs
  | 0, _, _ => none
  | n + 1, l1, μ => if 8 ≤ l1 then (k61 μ) else (ldA μ 97 l1 fun v9 => stA μ 86 l1 v9 fun μ11 => X11_back_L37 k61 n (iA l1 1) μ11)
def X11_back (μ : Mm) : Rs := if (μ 70 53) = 0 then (some ((-1), μ)) else (X11_back_L11 (fun μ7 => X11_back_L37 (fun μ13 => sF μ13 70 30 (μ13 70 51) fun μ14 => sF μ14 70 31 (μ14 70 52) fun μ15 => bd (X11_posts μ15) fun v16 μ17 => some (v16, μ17)) FU 0 μ7) FU 0 μ)
set_option maxHeartbeats 4000000 in
set_option maxRecDepth 100000 in
theorem kX11_back_L11 (d : Nat) (hd : 3 ≤ d) {k35 : Mm → Rs} {r : Int} {μ' : Mm} (hk_35 : ∀ (μ1 : Mm), k35 μ1 = some (r, μ') → VV d mX11_back 35 [some (vR 70), none] [] μ1 r μ') : ∀ (n : Nat) {l1 : Int} {μ : Mm}, X11_back_L11 k35 n l1 μ = some (r, μ') → VV d mX11_back 11 [some (vR 70), some (vI l1)] [] μ r μ' := by
  intro n
  induction n with
  | zero => intro l1 μ h; rw [X11_back_L11] at h; cases h
  | succ n ih =>
    intro l1 μ h
    rw [X11_back_L11] at h
    refine V_iload_n (q := 12) dX11_back_11 rfl rfl rfl ?_
    refine V_bipush (q := 14) dX11_back_12 rfl rfl rfl ?_
    refine V_icmpge (q := 35) (q2 := 17) dX11_back_14 (by decide) rfl (fun hc2 => ?_) (fun hc2 => ?_)
    · have h := ifT hc2 h
      exact V_weak (hk_35 _ h) (sb_s rfl (sb_n sb_0))
    · have h := ifF hc2 h
      refine V_aload_n (q := 18) dX11_back_17 rfl rfl rfl ?_
      refine V_getO (q := 21) (t := 82) fl_X11_43 rfl rfl rfl rfl dX11_back_18 rfl ?_
      refine V_iload_n (q := 22) dX11_back_21 rfl rfl rfl ?_
      refine V_aload_n (q := 23) dX11_back_22 rfl rfl rfl ?_
      refine V_getO (q := 26) (t := 96) fl_X11_92 rfl rfl rfl rfl dX11_back_23 rfl ?_
      refine V_iload_n (q := 27) dX11_back_26 rfl rfl rfl ?_
      obtain ⟨hi4, h⟩ := ldA_i h
      refine V_iaload (q := 28) rfl hi4 dX11_back_27 rfl ?_
      obtain ⟨hi6, h⟩ := stA_i h
      refine V_iastore (q := 29) rfl hi6 dX11_back_28 rfl ?_
      refine V_iinc (q := 32) dX11_back_29 rfl (Nat.le_of_ble_eq_true rfl) trivial rfl ?_
      refine V_goto (q := 11) dX11_back_32 (by decide) ?_
      exact V_weak (ih h) (sb_s rfl (sb_s rfl sb_0))
set_option maxHeartbeats 4000000 in
set_option maxRecDepth 100000 in
theorem kX11_back_L37 (d : Nat) (hd : 3 ≤ d) {k61 : Mm → Rs} {r : Int} {μ' : Mm} (hk_61 : ∀ (μ1 : Mm), k61 μ1 = some (r, μ') → VV d mX11_back 61 [some (vR 70), none] [] μ1 r μ') : ∀ (n : Nat) {l1 : Int} {μ : Mm}, X11_back_L37 k61 n l1 μ = some (r, μ') → VV d mX11_back 37 [some (vR 70), some (vI l1)] [] μ r μ' := by
  intro n
  induction n with
  | zero => intro l1 μ h; rw [X11_back_L37] at h; cases h
  | succ n ih =>
    intro l1 μ h
    rw [X11_back_L37] at h
    refine V_iload_n (q := 38) dX11_back_37 rfl rfl rfl ?_
    refine V_bipush (q := 40) dX11_back_38 rfl rfl rfl ?_
    refine V_icmpge (q := 61) (q2 := 43) dX11_back_40 (by decide) rfl (fun hc8 => ?_) (fun hc8 => ?_)
    · have h := ifT hc8 h
      exact V_weak (hk_61 _ h) (sb_s rfl (sb_n sb_0))
    · have h := ifF hc8 h
      refine V_aload_n (q := 44) dX11_back_43 rfl rfl rfl ?_
      refine V_getO (q := 47) (t := 86) fl_X11_55 rfl rfl rfl rfl dX11_back_44 rfl ?_
      refine V_iload_n (q := 48) dX11_back_47 rfl rfl rfl ?_
      refine V_aload_n (q := 49) dX11_back_48 rfl rfl rfl ?_
      refine V_getO (q := 52) (t := 97) fl_X11_95 rfl rfl rfl rfl dX11_back_49 rfl ?_
      refine V_iload_n (q := 53) dX11_back_52 rfl rfl rfl ?_
      obtain ⟨hi10, h⟩ := ldA_i h
      refine V_iaload (q := 54) rfl hi10 dX11_back_53 rfl ?_
      obtain ⟨hi12, h⟩ := stA_i h
      refine V_iastore (q := 55) rfl hi12 dX11_back_54 rfl ?_
      refine V_iinc (q := 58) dX11_back_55 rfl (Nat.le_of_ble_eq_true rfl) trivial rfl ?_
      refine V_goto (q := 37) dX11_back_58 (by decide) ?_
      exact V_weak (ih h) (sb_s rfl (sb_s rfl sb_0))
set_option maxHeartbeats 4000000 in
set_option maxRecDepth 100000 in
theorem kX11_back (d : Nat) (hd : 3 ≤ d) {μ : Mm} {r : Int} {μ' : Mm} (h : X11_back μ = some (r, μ')) : CC d mX11_back [vR 70] μ r μ' := by
  unfold X11_back at h
  refine V_enter (by decide) (Nat.le_of_ble_eq_true rfl) ?_
  show VV d mX11_back 0 [some (vR 70), none] [] μ r μ'
  refine V_aload_n (q := 1) dX11_back_0 rfl rfl rfl ?_
  refine V_getI (q := 4) fl_X11_264 rfl rfl rfl dX11_back_1 rfl ?_
  refine V_ifne (q := 9) (q2 := 7) dX11_back_4 (by decide) rfl (fun hc1 => ?_) (fun hc1 => ?_)
  · have h := ifF hc1 h
    refine V_iconst (q := 10) dX11_back_9 rfl rfl ?_
    refine V_istore_n (q := 11) dX11_back_10 rfl (Nat.le_of_ble_eq_true rfl) trivial rfl ?_
    refine V_weak (kX11_back_L11 d hd (fun μ7 h => ?_) FU h) (sb_s rfl (sb_s rfl sb_0))
    refine V_iconst (q := 36) dX11_back_35 rfl rfl ?_
    refine V_istore_n (q := 37) dX11_back_36 rfl (Nat.le_of_ble_eq_true rfl) trivial rfl ?_
    refine V_weak (kX11_back_L37 d hd (fun μ13 h => ?_) FU h) (sb_s rfl (sb_s rfl sb_0))
    refine V_aload_n (q := 62) dX11_back_61 rfl rfl rfl ?_
    refine V_aload_n (q := 63) dX11_back_62 rfl rfl rfl ?_
    refine V_getI (q := 66) fl_X11_389 rfl rfl rfl dX11_back_63 rfl ?_
    have h := sF_i h
    refine V_putI (q := 69) fl_X11_58 rfl rfl rfl dX11_back_66 rfl ?_
    refine V_aload_n (q := 70) dX11_back_69 rfl rfl rfl ?_
    refine V_aload_n (q := 71) dX11_back_70 rfl rfl rfl ?_
    refine V_getI (q := 74) fl_X11_392 rfl rfl rfl dX11_back_71 rfl ?_
    have h := sF_i h
    refine V_putI (q := 77) fl_X11_307 rfl rfl rfl dX11_back_74 rfl ?_
    refine V_aload_n (q := 78) dX11_back_77 rfl rfl rfl ?_
    obtain ⟨v16, μ17, hc18, h⟩ := bd_i h
    refine V_cV1 (q := 81) (v := vI v16) (kX11_posts (d - 1) (by omega) hc18) (by omega) mv_X11_395 rfl rfl rfl rfl rfl rfl dX11_back_78 rfl ?_
    exact V_iret rfl h dX11_back_81
  · have h := ifT hc1 h
    refine V_iconst (q := 8) dX11_back_7 rfl rfl ?_
    exact V_iret rfl h dX11_back_8
abbrev mX11_cranks : Mth := (yX11_cranks, cX11_cranks, 3, some .int)
set_option maxRecDepth 100000 in
theorem mi_X11_cranks : Cond.instanceMethod yX11_cranks ∈ tG ∧ Cond.selects yX11_cranks.cls yX11_cranks yX11_cranks ∈ tG ∧ Cond.initialized yX11_cranks.cls ∈ tG ∧ Cond.code yX11_cranks cX11_cranks 3 (some .int) ∈ tG ∧ (yX11_cranks.cls ≠ "java/lang/invoke/MethodHandle" ∧ yX11_cranks.cls ≠ "java/lang/invoke/VarHandle" ∧ (parseMethodDescriptor yX11_cranks.desc).map (fun d => d.parameters.length) = some 0) ∧ 3 ≤ 60 := ⟨(tG_of (tb7 (List.mem_of_getElem? (i := 191) rfl)) (by decide +kernel)), (tG_of (List.mem_of_getElem? (i := 99) (by decide +kernel)) (by decide +kernel)), (tG_of (tb1 (List.mem_of_getElem? (i := 12) rfl)) (by decide +kernel)), (tG_of (tb7 (List.mem_of_getElem? (i := 192) rfl)) (by decide +kernel)), ⟨by decide, by decide, by decide +kernel⟩, by decide⟩
set_option maxRecDepth 100000 in
theorem mv_X11_398 : mV RX11 398 mX11_cranks 0 := ⟨(tG_of (tb7 (List.mem_of_getElem? (i := 189) rfl)) (by decide +kernel)), mi_X11_cranks⟩
theorem dX11_cranks_0 : decode cX11_cranks 0 = .ok (.iconst 0, 1) := dc_3 (byA eNcX11_cranks (p := 0) (v := 3) (by decide +kernel))
theorem dX11_cranks_1 : decode cX11_cranks 1 = .ok (.istore_n 1, 1) := dc_60 (byA eNcX11_cranks (p := 1) (v := 60) (by decide +kernel))
theorem dX11_cranks_2 : decode cX11_cranks 2 = .ok (.iconst 0, 1) := dc_3 (byA eNcX11_cranks (p := 2) (v := 3) (by decide +kernel))
theorem dX11_cranks_3 : decode cX11_cranks 3 = .ok (.istore_n 2, 1) := dc_61 (byA eNcX11_cranks (p := 3) (v := 61) (by decide +kernel))
theorem dX11_cranks_4 : decode cX11_cranks 4 = .ok (.iload_n 2, 1) := dc_28 (byA eNcX11_cranks (p := 4) (v := 28) (by decide +kernel))
theorem dX11_cranks_5 : decode cX11_cranks 5 = .ok (.bipush 8, 2) := dc_16 (byA eNcX11_cranks (p := 5) (v := 16) (by decide +kernel)) (byA eNcX11_cranks (p := 6) (v := 8) (by decide +kernel)) (by decide +kernel)
theorem dX11_cranks_7 : decode cX11_cranks 7 = .ok (.if_icmp .ge 25, 3) := dc_162 (byA eNcX11_cranks (p := 7) (v := 162) (by decide +kernel)) (byA eNcX11_cranks (p := 8) (v := 0) (by decide +kernel)) (byA eNcX11_cranks (p := 9) (v := 25) (by decide +kernel)) (by decide +kernel)
theorem dX11_cranks_10 : decode cX11_cranks 10 = .ok (.iload_n 1, 1) := dc_27 (byA eNcX11_cranks (p := 10) (v := 27) (by decide +kernel))
theorem dX11_cranks_11 : decode cX11_cranks 11 = .ok (.aload_n 0, 1) := dc_42 (byA eNcX11_cranks (p := 11) (v := 42) (by decide +kernel))
theorem dX11_cranks_12 : decode cX11_cranks 12 = .ok (.iload_n 2, 1) := dc_28 (byA eNcX11_cranks (p := 12) (v := 28) (by decide +kernel))
theorem dX11_cranks_13 : decode cX11_cranks 13 = .ok (.invokevirtual 284, 3) := dc_182 (byA eNcX11_cranks (p := 13) (v := 182) (by decide +kernel)) (byA eNcX11_cranks (p := 14) (v := 1) (by decide +kernel)) (byA eNcX11_cranks (p := 15) (v := 28) (by decide +kernel)) rfl
theorem dX11_cranks_16 : decode cX11_cranks 16 = .ok (.ifCond .eq 7, 3) := dc_153 (byA eNcX11_cranks (p := 16) (v := 153) (by decide +kernel)) (byA eNcX11_cranks (p := 17) (v := 0) (by decide +kernel)) (byA eNcX11_cranks (p := 18) (v := 7) (by decide +kernel)) (by decide +kernel)
theorem dX11_cranks_19 : decode cX11_cranks 19 = .ok (.iconst 1, 1) := dc_4 (byA eNcX11_cranks (p := 19) (v := 4) (by decide +kernel))
theorem dX11_cranks_20 : decode cX11_cranks 20 = .ok (.goto 4, 3) := dc_167 (byA eNcX11_cranks (p := 20) (v := 167) (by decide +kernel)) (byA eNcX11_cranks (p := 21) (v := 0) (by decide +kernel)) (byA eNcX11_cranks (p := 22) (v := 4) (by decide +kernel)) (by decide +kernel)
theorem dX11_cranks_23 : decode cX11_cranks 23 = .ok (.iconst 0, 1) := dc_3 (byA eNcX11_cranks (p := 23) (v := 3) (by decide +kernel))
theorem dX11_cranks_24 : decode cX11_cranks 24 = .ok (.iadd, 1) := dc_96 (byA eNcX11_cranks (p := 24) (v := 96) (by decide +kernel))
theorem dX11_cranks_25 : decode cX11_cranks 25 = .ok (.istore_n 1, 1) := dc_60 (byA eNcX11_cranks (p := 25) (v := 60) (by decide +kernel))
theorem dX11_cranks_26 : decode cX11_cranks 26 = .ok (.iinc 2 1, 3) := dc_132 (byA eNcX11_cranks (p := 26) (v := 132) (by decide +kernel)) (byA eNcX11_cranks (p := 27) (v := 2) (by decide +kernel)) (byA eNcX11_cranks (p := 28) (v := 1) (by decide +kernel)) (by decide +kernel)
theorem dX11_cranks_29 : decode cX11_cranks 29 = .ok (.goto (-25), 3) := dc_167 (byA eNcX11_cranks (p := 29) (v := 167) (by decide +kernel)) (byA eNcX11_cranks (p := 30) (v := 255) (by decide +kernel)) (byA eNcX11_cranks (p := 31) (v := 231) (by decide +kernel)) (by decide +kernel)
theorem dX11_cranks_32 : decode cX11_cranks 32 = .ok (.iload_n 1, 1) := dc_27 (byA eNcX11_cranks (p := 32) (v := 27) (by decide +kernel))
theorem dX11_cranks_33 : decode cX11_cranks 33 = .ok (.ireturn, 1) := dc_172 (byA eNcX11_cranks (p := 33) (v := 172) (by decide +kernel))
def X11_cranks_L4 : Nat → Int → Int → Mm → Rs
  | 0, _, _, _ => none
  | n + 1, l1, l2, μ => if 8 ≤ l2 then (some (l1, μ)) else (bd (X11_isCrank l2 μ) fun v2 μ3 => if v2 = 0 then (X11_cranks_L4 n (iA l1 0) (iA l2 1) μ3) else (X11_cranks_L4 n (iA l1 1) (iA l2 1) μ3))
def X11_cranks (μ : Mm) : Rs := X11_cranks_L4 FU 0 0 μ
set_option maxHeartbeats 4000000 in
set_option maxRecDepth 100000 in
theorem kX11_cranks_L4 (d : Nat) (hd : 4 ≤ d) {r : Int} {μ' : Mm} : ∀ (n : Nat) {l1 l2 : Int} {μ : Mm}, X11_cranks_L4 n l1 l2 μ = some (r, μ') → VV d mX11_cranks 4 [some (vR 70), some (vI l1), some (vI l2)] [] μ r μ' := by
  intro n
  induction n with
  | zero => intro l1 l2 μ h; rw [X11_cranks_L4] at h; cases h
  | succ n ih =>
    intro l1 l2 μ h
    rw [X11_cranks_L4] at h
    refine V_iload_n (q := 5) dX11_cranks_4 rfl rfl rfl ?_
    refine V_bipush (q := 7) dX11_cranks_5 rfl rfl rfl ?_
    refine V_icmpge (q := 32) (q2 := 10) dX11_cranks_7 (by decide) rfl (fun hc1 => ?_) (fun hc1 => ?_)
    · have h := ifT hc1 h
      refine V_iload_n (q := 33) dX11_cranks_32 rfl rfl rfl ?_
      exact V_iret rfl h dX11_cranks_33
    · have h := ifF hc1 h
      refine V_iload_n (q := 11) dX11_cranks_10 rfl rfl rfl ?_
      refine V_aload_n (q := 12) dX11_cranks_11 rfl rfl rfl ?_
      refine V_iload_n (q := 13) dX11_cranks_12 rfl rfl rfl ?_
      obtain ⟨v2, μ3, hc4, h⟩ := bd_i h
      refine V_cV1 (q := 16) (v := vI v2) (kX11_isCrank (d - 1) (by omega) hc4) (by omega) mv_X11_284 rfl rfl rfl rfl rfl rfl dX11_cranks_13 rfl ?_
      refine V_ifeq (q := 23) (q2 := 19) dX11_cranks_16 (by decide) rfl (fun hc5 => ?_) (fun hc5 => ?_)
      · have h := ifT hc5 h
        refine V_iconst (q := 24) dX11_cranks_23 rfl rfl ?_
        refine V_iadd (q := 25) dX11_cranks_24 rfl ?_
        refine V_istore_n (q := 26) dX11_cranks_25 rfl (Nat.le_of_ble_eq_true rfl) trivial rfl ?_
        refine V_iinc (q := 29) dX11_cranks_26 rfl (Nat.le_of_ble_eq_true rfl) trivial rfl ?_
        refine V_goto (q := 4) dX11_cranks_29 (by decide) ?_
        exact V_weak (ih h) (sb_s rfl (sb_s rfl (sb_s rfl sb_0)))
      · have h := ifF hc5 h
        refine V_iconst (q := 20) dX11_cranks_19 rfl rfl ?_
        refine V_goto (q := 24) dX11_cranks_20 (by decide) ?_
        refine V_iadd (q := 25) dX11_cranks_24 rfl ?_
        refine V_istore_n (q := 26) dX11_cranks_25 rfl (Nat.le_of_ble_eq_true rfl) trivial rfl ?_
        refine V_iinc (q := 29) dX11_cranks_26 rfl (Nat.le_of_ble_eq_true rfl) trivial rfl ?_
        refine V_goto (q := 4) dX11_cranks_29 (by decide) ?_
        exact V_weak (ih h) (sb_s rfl (sb_s rfl (sb_s rfl sb_0)))
set_option maxHeartbeats 4000000 in
set_option maxRecDepth 100000 in
theorem kX11_cranks (d : Nat) (hd : 4 ≤ d) {μ : Mm} {r : Int} {μ' : Mm} (h : X11_cranks μ = some (r, μ')) : CC d mX11_cranks [vR 70] μ r μ' := by
  unfold X11_cranks at h
  refine V_enter (by decide) (Nat.le_of_ble_eq_true rfl) ?_
  show VV d mX11_cranks 0 [some (vR 70), none, none] [] μ r μ'
  refine V_iconst (q := 1) dX11_cranks_0 rfl rfl ?_
  refine V_istore_n (q := 2) dX11_cranks_1 rfl (Nat.le_of_ble_eq_true rfl) trivial rfl ?_
  refine V_iconst (q := 3) dX11_cranks_2 rfl rfl ?_
  refine V_istore_n (q := 4) dX11_cranks_3 rfl (Nat.le_of_ble_eq_true rfl) trivial rfl ?_
  exact V_weak (kX11_cranks_L4 d hd  FU h) (sb_s rfl (sb_s rfl (sb_s rfl sb_0)))
abbrev mX11_count : Mth := (yX11_count, cX11_count, 2, some .int)
set_option maxRecDepth 100000 in
theorem mi_X11_count : Cond.instanceMethod yX11_count ∈ tG ∧ Cond.selects yX11_count.cls yX11_count yX11_count ∈ tG ∧ Cond.initialized yX11_count.cls ∈ tG ∧ Cond.code yX11_count cX11_count 2 (some .int) ∈ tG ∧ (yX11_count.cls ≠ "java/lang/invoke/MethodHandle" ∧ yX11_count.cls ≠ "java/lang/invoke/VarHandle" ∧ (parseMethodDescriptor yX11_count.desc).map (fun d => d.parameters.length) = some 1) ∧ 2 ≤ 60 := ⟨(tG_of (tb7 (List.mem_of_getElem? (i := 186) rfl)) (by decide +kernel)), (tG_of (tb7 (List.mem_of_getElem? (i := 187) rfl)) (by decide +kernel)), (tG_of (tb1 (List.mem_of_getElem? (i := 12) rfl)) (by decide +kernel)), (tG_of (tb7 (List.mem_of_getElem? (i := 188) rfl)) (by decide +kernel)), ⟨by decide, by decide, by decide +kernel⟩, by decide⟩
theorem dX11_count_0 : decode cX11_count 0 = .ok (.iload_n 1, 1) := dc_27 (byA eNcX11_count (p := 0) (v := 27) (by decide +kernel))
theorem dX11_count_1 : decode cX11_count 1 = .ok (.tableswitch 96 0 8 #[51, 56, 61, 66, 71, 76, 81, 86, 91], 51) := by decide +kernel
theorem dX11_count_52 : decode cX11_count 52 = .ok (.aload_n 0, 1) := dc_42 (byA eNcX11_count (p := 52) (v := 42) (by decide +kernel))
theorem dX11_count_53 : decode cX11_count 53 = .ok (.invokevirtual 398, 3) := dc_182 (byA eNcX11_count (p := 53) (v := 182) (by decide +kernel)) (byA eNcX11_count (p := 54) (v := 1) (by decide +kernel)) (byA eNcX11_count (p := 55) (v := 142) (by decide +kernel)) rfl
theorem dX11_count_56 : decode cX11_count 56 = .ok (.ireturn, 1) := dc_172 (byA eNcX11_count (p := 56) (v := 172) (by decide +kernel))
theorem dX11_count_57 : decode cX11_count 57 = .ok (.aload_n 0, 1) := dc_42 (byA eNcX11_count (p := 57) (v := 42) (by decide +kernel))
theorem dX11_count_58 : decode cX11_count 58 = .ok (.getfield 275, 3) := dc_180 (byA eNcX11_count (p := 58) (v := 180) (by decide +kernel)) (byA eNcX11_count (p := 59) (v := 1) (by decide +kernel)) (byA eNcX11_count (p := 60) (v := 19) (by decide +kernel)) rfl
theorem dX11_count_61 : decode cX11_count 61 = .ok (.ireturn, 1) := dc_172 (byA eNcX11_count (p := 61) (v := 172) (by decide +kernel))
theorem dX11_count_62 : decode cX11_count 62 = .ok (.aload_n 0, 1) := dc_42 (byA eNcX11_count (p := 62) (v := 42) (by decide +kernel))
theorem dX11_count_63 : decode cX11_count 63 = .ok (.getfield 278, 3) := dc_180 (byA eNcX11_count (p := 63) (v := 180) (by decide +kernel)) (byA eNcX11_count (p := 64) (v := 1) (by decide +kernel)) (byA eNcX11_count (p := 65) (v := 22) (by decide +kernel)) rfl
theorem dX11_count_66 : decode cX11_count 66 = .ok (.ireturn, 1) := dc_172 (byA eNcX11_count (p := 66) (v := 172) (by decide +kernel))
theorem dX11_count_67 : decode cX11_count 67 = .ok (.aload_n 0, 1) := dc_42 (byA eNcX11_count (p := 67) (v := 42) (by decide +kernel))
theorem dX11_count_68 : decode cX11_count 68 = .ok (.getfield 105, 3) := dc_180 (byA eNcX11_count (p := 68) (v := 180) (by decide +kernel)) (byA eNcX11_count (p := 69) (v := 0) (by decide +kernel)) (byA eNcX11_count (p := 70) (v := 105) (by decide +kernel)) rfl
theorem dX11_count_71 : decode cX11_count 71 = .ok (.ireturn, 1) := dc_172 (byA eNcX11_count (p := 71) (v := 172) (by decide +kernel))
theorem dX11_count_72 : decode cX11_count 72 = .ok (.aload_n 0, 1) := dc_42 (byA eNcX11_count (p := 72) (v := 42) (by decide +kernel))
theorem dX11_count_73 : decode cX11_count 73 = .ok (.getfield 58, 3) := dc_180 (byA eNcX11_count (p := 73) (v := 180) (by decide +kernel)) (byA eNcX11_count (p := 74) (v := 0) (by decide +kernel)) (byA eNcX11_count (p := 75) (v := 58) (by decide +kernel)) rfl
theorem dX11_count_76 : decode cX11_count 76 = .ok (.ireturn, 1) := dc_172 (byA eNcX11_count (p := 76) (v := 172) (by decide +kernel))
theorem dX11_count_77 : decode cX11_count 77 = .ok (.aload_n 0, 1) := dc_42 (byA eNcX11_count (p := 77) (v := 42) (by decide +kernel))
theorem dX11_count_78 : decode cX11_count 78 = .ok (.getfield 307, 3) := dc_180 (byA eNcX11_count (p := 78) (v := 180) (by decide +kernel)) (byA eNcX11_count (p := 79) (v := 1) (by decide +kernel)) (byA eNcX11_count (p := 80) (v := 51) (by decide +kernel)) rfl
theorem dX11_count_81 : decode cX11_count 81 = .ok (.ireturn, 1) := dc_172 (byA eNcX11_count (p := 81) (v := 172) (by decide +kernel))
theorem dX11_count_82 : decode cX11_count 82 = .ok (.aload_n 0, 1) := dc_42 (byA eNcX11_count (p := 82) (v := 42) (by decide +kernel))
theorem dX11_count_83 : decode cX11_count 83 = .ok (.getfield 62, 3) := dc_180 (byA eNcX11_count (p := 83) (v := 180) (by decide +kernel)) (byA eNcX11_count (p := 84) (v := 0) (by decide +kernel)) (byA eNcX11_count (p := 85) (v := 62) (by decide +kernel)) rfl
theorem dX11_count_86 : decode cX11_count 86 = .ok (.ireturn, 1) := dc_172 (byA eNcX11_count (p := 86) (v := 172) (by decide +kernel))
theorem dX11_count_87 : decode cX11_count 87 = .ok (.aload_n 0, 1) := dc_42 (byA eNcX11_count (p := 87) (v := 42) (by decide +kernel))
theorem dX11_count_88 : decode cX11_count 88 = .ok (.getfield 261, 3) := dc_180 (byA eNcX11_count (p := 88) (v := 180) (by decide +kernel)) (byA eNcX11_count (p := 89) (v := 1) (by decide +kernel)) (byA eNcX11_count (p := 90) (v := 5) (by decide +kernel)) rfl
theorem dX11_count_91 : decode cX11_count 91 = .ok (.ireturn, 1) := dc_172 (byA eNcX11_count (p := 91) (v := 172) (by decide +kernel))
theorem dX11_count_92 : decode cX11_count 92 = .ok (.aload_n 0, 1) := dc_42 (byA eNcX11_count (p := 92) (v := 42) (by decide +kernel))
theorem dX11_count_93 : decode cX11_count 93 = .ok (.invokevirtual 395, 3) := dc_182 (byA eNcX11_count (p := 93) (v := 182) (by decide +kernel)) (byA eNcX11_count (p := 94) (v := 1) (by decide +kernel)) (byA eNcX11_count (p := 95) (v := 139) (by decide +kernel)) rfl
theorem dX11_count_96 : decode cX11_count 96 = .ok (.ireturn, 1) := dc_172 (byA eNcX11_count (p := 96) (v := 172) (by decide +kernel))
theorem dX11_count_97 : decode cX11_count 97 = .ok (.ldc_w 388, 3) := dc_19 (byA eNcX11_count (p := 97) (v := 19) (by decide +kernel)) (byA eNcX11_count (p := 98) (v := 1) (by decide +kernel)) (byA eNcX11_count (p := 99) (v := 132) (by decide +kernel)) rfl
theorem dX11_count_100 : decode cX11_count 100 = .ok (.ireturn, 1) := dc_172 (byA eNcX11_count (p := 100) (v := 172) (by decide +kernel))
def X11_count (l1 : Int) (μ : Mm) : Rs := if l1 = 0 then (bd (X11_cranks μ) fun v2 μ3 => some (v2, μ3)) else (if l1 = 1 then (some (μ 70 28, μ)) else (if l1 = 2 then (some (μ 70 13, μ)) else (if l1 = 3 then (some (μ 70 2, μ)) else (if l1 = 4 then (some (μ 70 30, μ)) else (if l1 = 5 then (some (μ 70 31, μ)) else (if l1 = 6 then (some (μ 70 32, μ)) else (if l1 = 7 then (some (μ 70 45, μ)) else (if l1 = 8 then (bd (X11_posts μ) fun v13 μ14 => some (v13, μ14)) else (some ((-1000000), μ))))))))))
set_option maxHeartbeats 4000000 in
set_option maxRecDepth 100000 in
theorem kX11_count (d : Nat) (hd : 5 ≤ d) {l1 : Int} {μ : Mm} {r : Int} {μ' : Mm} (h : X11_count l1 μ = some (r, μ')) : CC d mX11_count [vR 70, vI l1] μ r μ' := by
  unfold X11_count at h
  refine V_enter (by decide) (Nat.le_of_ble_eq_true rfl) ?_
  show VV d mX11_count 0 [some (vR 70), some (vI l1)] [] μ r μ'
  refine V_iload_n (q := 1) dX11_count_0 rfl rfl rfl ?_
  refine V_ts1 (q := 52) 0 dX11_count_1 rfl rfl rfl (by decide) (fun hc1 => ?_) (fun hc1 => ?_)
  · have h := ifT hc1 h
    refine V_aload_n (q := 53) dX11_count_52 rfl rfl rfl ?_
    obtain ⟨v2, μ3, hc4, h⟩ := bd_i h
    refine V_cV1 (q := 56) (v := vI v2) (kX11_cranks (d - 1) (by omega) hc4) (by omega) mv_X11_398 rfl rfl rfl rfl rfl rfl dX11_count_53 rfl ?_
    exact V_iret rfl h dX11_count_56
  · have h := ifF hc1 h
    refine V_ts1 (q := 57) 1 dX11_count_1 rfl rfl rfl (by decide) (fun hc5 => ?_) (fun hc5 => ?_)
    · have h := ifT hc5 h
      refine V_aload_n (q := 58) dX11_count_57 rfl rfl rfl ?_
      refine V_getI (q := 61) fl_X11_275 rfl rfl rfl dX11_count_58 rfl ?_
      exact V_iret rfl h dX11_count_61
    · have h := ifF hc5 h
      refine V_ts1 (q := 62) 2 dX11_count_1 rfl rfl rfl (by decide) (fun hc6 => ?_) (fun hc6 => ?_)
      · have h := ifT hc6 h
        refine V_aload_n (q := 63) dX11_count_62 rfl rfl rfl ?_
        refine V_getI (q := 66) fl_X11_278 rfl rfl rfl dX11_count_63 rfl ?_
        exact V_iret rfl h dX11_count_66
      · have h := ifF hc6 h
        refine V_ts1 (q := 67) 3 dX11_count_1 rfl rfl rfl (by decide) (fun hc7 => ?_) (fun hc7 => ?_)
        · have h := ifT hc7 h
          refine V_aload_n (q := 68) dX11_count_67 rfl rfl rfl ?_
          refine V_getI (q := 71) fl_X11_105 rfl rfl rfl dX11_count_68 rfl ?_
          exact V_iret rfl h dX11_count_71
        · have h := ifF hc7 h
          refine V_ts1 (q := 72) 4 dX11_count_1 rfl rfl rfl (by decide) (fun hc8 => ?_) (fun hc8 => ?_)
          · have h := ifT hc8 h
            refine V_aload_n (q := 73) dX11_count_72 rfl rfl rfl ?_
            refine V_getI (q := 76) fl_X11_58 rfl rfl rfl dX11_count_73 rfl ?_
            exact V_iret rfl h dX11_count_76
          · have h := ifF hc8 h
            refine V_ts1 (q := 77) 5 dX11_count_1 rfl rfl rfl (by decide) (fun hc9 => ?_) (fun hc9 => ?_)
            · have h := ifT hc9 h
              refine V_aload_n (q := 78) dX11_count_77 rfl rfl rfl ?_
              refine V_getI (q := 81) fl_X11_307 rfl rfl rfl dX11_count_78 rfl ?_
              exact V_iret rfl h dX11_count_81
            · have h := ifF hc9 h
              refine V_ts1 (q := 82) 6 dX11_count_1 rfl rfl rfl (by decide) (fun hc10 => ?_) (fun hc10 => ?_)
              · have h := ifT hc10 h
                refine V_aload_n (q := 83) dX11_count_82 rfl rfl rfl ?_
                refine V_getI (q := 86) fl_X11_62 rfl rfl rfl dX11_count_83 rfl ?_
                exact V_iret rfl h dX11_count_86
              · have h := ifF hc10 h
                refine V_ts1 (q := 87) 7 dX11_count_1 rfl rfl rfl (by decide) (fun hc11 => ?_) (fun hc11 => ?_)
                · have h := ifT hc11 h
                  refine V_aload_n (q := 88) dX11_count_87 rfl rfl rfl ?_
                  refine V_getI (q := 91) fl_X11_261 rfl rfl rfl dX11_count_88 rfl ?_
                  exact V_iret rfl h dX11_count_91
                · have h := ifF hc11 h
                  refine V_ts1 (q := 92) 8 dX11_count_1 rfl rfl rfl (by decide) (fun hc12 => ?_) (fun hc12 => ?_)
                  · have h := ifT hc12 h
                    refine V_aload_n (q := 93) dX11_count_92 rfl rfl rfl ?_
                    obtain ⟨v13, μ14, hc15, h⟩ := bd_i h
                    refine V_cV1 (q := 96) (v := vI v13) (kX11_posts (d - 1) (by omega) hc15) (by omega) mv_X11_395 rfl rfl rfl rfl rfl rfl dX11_count_93 rfl ?_
                    exact V_iret rfl h dX11_count_96
                  · have h := ifF hc12 h
                    refine V_tsOut (q := 97) dX11_count_1 (by omega) (by decide) ?_
                    refine V_ldcw (q := 100) (n := -1000000) dX11_count_97 (by unfold rI; omega) kc_X11_388 rfl ?_
                    exact V_iret rfl h dX11_count_100
/-! THE LAW'S OWN FRAME: its cells are the two systems', the script (99) and the long array out (98) -/
def R_law : String := "UnderFloorLaw"
def lw_P (b : Addr) (xs : List Int32) (args : Array Value) (s : State) : Prop := args = #[.ref b] ∧ s.IntsAt b xs ∧ xs.length ≤ 3072 ∧ (Jvm.Cond.and given_1 narrow_1).before args s = true
def lw_Q (_ : Array Value) (s : State) (o : Outcome) (t : State) : Prop := o = .returned (some (.int 1)) ∧ Framed s o t [] 601024 7293034
def lw_Z (below : List Frame) (a : Array Value) (s : State) : State → Prop := fun t => ∃ o, t.status = .running ∧ Ended t below o ∧ lw_Q a s o t
theorem lw_ret {p : Program} {l : Launch} {e : Env} {s : State} {m : MethodId} {below : List Frame} {meth : Method} {c : Code} {b : Nat} (hx : p.tables.exec = Jvm.exec) (hb : c.code = code) (hr : meth.sig.returnType = ret) (hlocks : meth.locks = false) {pc : Nat} {H : Heap} {ls : Array Slot} (hdg : decode code pc = .ok (.ireturn, 1)) : W p l e room_1 s m #[Value.ref b] below meth c H [] 601024 7293034 (lw_Z below #[Value.ref b] s) (F0 m pc ls [.int 1]) := by
  intro T hT X
  obtain ⟨fs, hret, hrun, hended, hW, hframe⟩ := X.leave (v := some (.int 1)) (hlocks := hlocks) (fun h => by rw [hr] at h; cases h)
  have hmeth' : T.vm.method? m = some meth := X.method'
  refine ⟨T.setFrames fs, ?_, .returned (some (.int 1)), hrun, hended, rfl, ⟨_, rfl⟩, hW, hframe⟩
  jvm_step X.here [X.here.top, hx, hb, hdg, hmeth', hr, ret, narrow_b1]
  (try refine ⟨rfl, ?_⟩); (try refine ⟨rfl, ?_⟩)
  first | (intro acts; rw [hret _ acts rfl rfl rfl]) | rw [hret _ _ rfl rfl rfl]
  exact Steps.refl _
def lw_At (p : Program) (s : State) (m : MethodId) (meth : Method) (c : Code) (b L : Nat) (xs : Nat → Int32) : Prop :=
  p.tables.exec = Jvm.exec ∧ c.code = code ∧ meth.sig.returnType = ret ∧ c.maxLocals = 7 ∧ s.vm.findClass R_law = some m.cls ∧ (∀ w ∈ lw_tbl, w.before #[Value.ref b] s = true) ∧ va_X b L xs s s.heap ∧ b < s.heap.size ∧ meth.locks = false ∧ (Jvm.Cond.and given_1 narrow_1).before #[Value.ref b] s = true
/-- the row out: one long -/
def oL (cL : ClassId) (ad : Nat → Nat) (lo : Nat) (v : Int64) (H : Heap) : Prop := H[ad 98]? = some (vp_cell cL (1, .inr (.inl (fun _ => v)))) ∧ (∀ k, k < nC → ad k ≠ ad 98) ∧ lo ≤ ad 98
def Lx (p : Program) (l : Launch) (s : State) (m : MethodId) (meth : Method) (c : Code) (b L : Nat) (xs : Nat → Int32) (dC : Nat → ClassId) (dI : Nat → Nat → Nat) (D : ClassId × ClassId × ClassId) (cL : ClassId) (ad : Nat → Nat) : Prop :=
  lw_At p s m meth c b L xs ∧ l.flags = flags0 ∧ va_K (dC, dI) vwCl (tyS D ++ [(cL, .long)]) s ∧ aP ad ∧ (∀ k, k < nC → s.heap.size ≤ ad k) ∧ ad 99 = b
def LL (L : Nat) (sc : Nat → Int) (pc : Nat) (ls : List (Option AV)) (st : List AV) (μ : Mm) (v : Int64) (k n : Nat) : Prop :=
  ∀ (p : Program) (l : Launch) (e : Env) (s : State) (m : MethodId) (below : List Frame) (meth : Method) (c : Code) (b : Nat) (xs : Nat → Int32) (H : Heap) (locs : List Loc) (dC : Nat → ClassId) (dI : Nat → Nat → Nat) (D : ClassId × ClassId × ClassId) (cL : ClassId) (ad : Nat → Nat) (ls' : Array Slot),
    Lx p l s m meth c b L xs dC dI D cL ad → (∀ j, (xs j).toInt = sc j) → hO dC dI D ad μ H → oL cL ad s.heap.size v H → va_S (fun q : Nat => s.heap.size ≤ q) s.heap H locs → ls.length = 7 → lR ad ls ls' → (∀ v ∈ st, oV v) →
      W p l e room_1 s m #[Value.ref b] below meth c H locs k n (lw_Z below #[Value.ref b] s) (F0 m pc ls' (st.map (cV ad)))
section LR
variable {L : Nat} {sc : Nat → Int} {pc q : Nat} {ls : List (Option AV)} {st : List AV} {μ : Mm} {v : Int64} {k n : Nat}
theorem LL_pure {st2 : List AV} (hok : (∀ v ∈ st, oV v) → ∀ v ∈ st2, oV v)
    (k0 : ∀ (p : Program) (l : Launch) (e : Env) (R : Room) (s : State) (m : MethodId) (args : Array Value) (below : List Frame) (meth : Method) (c : Code) (H : Heap) (locs : List Loc) (k n : Nat) (Q : State → Prop) (ad : Nat → Nat) (ls' : Array Slot), p.tables.exec = Jvm.exec → c.code = code → (∀ v ∈ st, oV v) →
      W p l e R s m args below meth c H locs k n Q (F0 m q ls' (st2.map (cV ad))) → W p l e R s m args below meth c H locs k n Q (F0 m pc ls' (st.map (cV ad))))
    (kk : LL L sc q ls st2 μ v k n) : LL L sc pc ls st μ v k n := by
  intro p l e s m below meth c b xs H locs dC dI D cL ad ls' X hxs hH hL hS hn hl hs
  exact k0 _ _ _ _ _ _ _ _ _ _ _ _ _ _ _ _ _ X.1.1 X.1.2.1 hs (kk p l e s m below meth c b xs H locs dC dI D cL ad ls' X hxs hH hL hS hn hl (hok hs))
theorem L_iconst {z : Int} (hd : decode code pc = .ok (.iconst z, 1)) (hr : (decide (-2147483648 ≤ z) && decide (z ≤ 2147483647)) = true) (hq : pc + 1 = q) (kk : LL L sc q ls (vI z :: st) μ v k n) : LL L sc pc ls st μ v k n := by
  subst hq
  refine LL_pure (st2 := vI z :: st) (fun h => ok_c (by simpa [oV, rI] using hr) h) (fun p l e R s m args below meth c H locs k n Q ad ls' hx hb h kk => ?_) kk
  exact lv_iconst hx hb hd rfl kk
theorem L_bipush {z : Int} (hd : decode code pc = .ok (.bipush z, 2)) (hr : (decide (-2147483648 ≤ z) && decide (z ≤ 2147483647)) = true) (hv : (Int8.ofInt z).toInt32 = Int32.ofInt z) (hq : pc + 2 = q) (kk : LL L sc q ls (vI z :: st) μ v k n) : LL L sc pc ls st μ v k n := by
  subst hq
  refine LL_pure (st2 := vI z :: st) (fun h => ok_c (by simpa [oV, rI] using hr) h) (fun p l e R s m args below meth c H locs k n Q ad ls' hx hb h kk => ?_) kk
  exact lv_bipush hx hb hd hv kk
theorem L_iadd {a b : Int} (hd : decode code pc = .ok (.iadd, 1)) (hq : pc + 1 = q) (kk : LL L sc q ls (vI (iA a b) :: st) μ v k n) : LL L sc pc ls (vI b :: vI a :: st) μ v k n := by
  subst hq
  refine LL_pure (st2 := vI (iA a b) :: st) (fun h => ok_c (rI_wI _) (ok_t (ok_t h))) (fun p l e R s m args below meth c H locs k n Q ad ls' hx hb h kk => ?_) kk
  exact lv_iadd hx hb hd (by rw [o32_add]; exact kk)
theorem L_isub {a b : Int} (hd : decode code pc = .ok (.isub, 1)) (hq : pc + 1 = q) (kk : LL L sc q ls (vI (iS a b) :: st) μ v k n) : LL L sc pc ls (vI b :: vI a :: st) μ v k n := by
  subst hq
  refine LL_pure (st2 := vI (iS a b) :: st) (fun h => ok_c (rI_wI _) (ok_t (ok_t h))) (fun p l e R s m args below meth c H locs k n Q ad ls' hx hb h kk => ?_) kk
  exact lv_isub hx hb hd (by rw [o32_sub]; exact kk)
theorem L_iand {a b : Int} (hd : decode code pc = .ok (.iand, 1)) (hq : pc + 1 = q) (kk : LL L sc q ls (vI (bA a b) :: st) μ v k n) : LL L sc pc ls (vI b :: vI a :: st) μ v k n := by
  subst hq
  refine LL_pure (st2 := vI (bA a b) :: st) (fun h => ok_c (rI_of _) (ok_t (ok_t h))) (fun p l e R s m args below meth c H locs k n Q ad ls' hx hb h kk => ?_) kk
  exact lv_iand hx hb hd (by rw [List.map_cons, cV, bA, o32_self] at kk; exact kk)
theorem L_goto {off : Int} (hd : decode code pc = .ok (.goto off, 3)) (ht : (pc : Int) + off = (q : Int)) (kk : LL L sc q ls st μ v k n) : LL L sc pc ls st μ v k n :=
  LL_pure (fun h => h) (fun p l e R s m args below meth c H locs k n Q ad ls' hx hb h kk => lv_goto hx hb hd ht kk) kk
theorem LL_br {st2 : List AV} {P : Prop} {q2 : Nat} (hok : (∀ v ∈ st, oV v) → ∀ v ∈ st2, oV v)
    (k0 : ∀ (p : Program) (l : Launch) (e : Env) (R : Room) (s : State) (m : MethodId) (args : Array Value) (below : List Frame) (meth : Method) (c : Code) (H : Heap) (locs : List Loc) (k n : Nat) (Q : State → Prop) (ad : Nat → Nat) (ls' : Array Slot), p.tables.exec = Jvm.exec → c.code = code → (∀ v ∈ st, oV v) →
      (P → W p l e R s m args below meth c H locs k n Q (F0 m q ls' (st2.map (cV ad)))) → (¬ P → W p l e R s m args below meth c H locs k n Q (F0 m q2 ls' (st2.map (cV ad)))) → W p l e R s m args below meth c H locs k n Q (F0 m pc ls' (st.map (cV ad))))
    (kt : P → LL L sc q ls st2 μ v k n) (kf : ¬ P → LL L sc q2 ls st2 μ v k n) : LL L sc pc ls st μ v k n := by
  intro p l e s m below meth c b xs H locs dC dI D cL ad ls' X hxs hH hL hS hn hl hs
  exact k0 _ _ _ _ _ _ _ _ _ _ _ _ _ _ _ _ _ X.1.1 X.1.2.1 hs (fun h => kt h p l e s m below meth c b xs H locs dC dI D cL ad ls' X hxs hH hL hS hn hl (hok hs)) (fun h => kf h p l e s m below meth c b xs H locs dC dI D cL ad ls' X hxs hH hL hS hn hl (hok hs))
theorem L_icmpeq {a b : Int} {off : Int} (hd : decode code pc = .ok (.if_icmp .eq off, 3)) (ht : (pc : Int) + off = (q : Int)) {q2 : Nat} (hq : pc + 3 = q2) (kt : a = b → LL L sc q ls st μ v k n) (kf : ¬ a = b → LL L sc q2 ls st μ v k n) : LL L sc pc ls (vI b :: vI a :: st) μ v k n := by
  subst hq
  refine LL_br (st2 := st) (fun h => ok_t (ok_t h)) (fun p l e R s m args below meth c H locs k n Q ad ls' hx hb h k1 k2 => ?_) kt kf
  exact lv_icmp_eq hx hb hd ht (fun z => k1 ((o32_eq (ok_h (ok_t h)) (ok_h h)).mp z)) (fun z => k2 (fun w => z ((o32_eq (ok_h (ok_t h)) (ok_h h)).mpr w)))
theorem L_icmpgt {a b : Int} {off : Int} (hd : decode code pc = .ok (.if_icmp .gt off, 3)) (ht : (pc : Int) + off = (q : Int)) {q2 : Nat} (hq : pc + 3 = q2) (kt : b < a → LL L sc q ls st μ v k n) (kf : ¬ b < a → LL L sc q2 ls st μ v k n) : LL L sc pc ls (vI b :: vI a :: st) μ v k n := by
  subst hq
  refine LL_br (st2 := st) (fun h => ok_t (ok_t h)) (fun p l e R s m args below meth c H locs k n Q ad ls' hx hb h k1 k2 => ?_) kt kf
  exact lv_icmp_gt hx hb hd ht (fun z => k1 ((o32_lt (ok_h h) (ok_h (ok_t h))).mp z)) (fun z => k2 (fun w => z ((o32_lt (ok_h h) (ok_h (ok_t h))).mpr w)))
theorem LL_load {w : AV} {i : Nat} (hi : ls[i]? = some (some w))
    (k0 : ∀ (p : Program) (l : Launch) (e : Env) (R : Room) (s : State) (m : MethodId) (args : Array Value) (below : List Frame) (meth : Method) (c : Code) (H : Heap) (locs : List Loc) (k n : Nat) (Q : State → Prop) (ad : Nat → Nat) (ls' : Array Slot), p.tables.exec = Jvm.exec → c.code = code → ls'[i]? = some (.val (cV ad w)) →
      W p l e R s m args below meth c H locs k n Q (F0 m q ls' (cV ad w :: st.map (cV ad))) → W p l e R s m args below meth c H locs k n Q (F0 m pc ls' (st.map (cV ad))))
    (kk : LL L sc q ls (w :: st) μ v k n) : LL L sc pc ls st μ v k n := by
  intro p l e s m below meth c b xs H locs dC dI D cL ad ls' X hxs hH hL hS hn hl hs
  exact k0 _ _ _ _ _ _ _ _ _ _ _ _ _ _ _ _ _ X.1.1 X.1.2.1 (hl.2.2 i w hi).1 (kk p l e s m below meth c b xs H locs dC dI D cL ad ls' X hxs hH hL hS hn hl (ok_c (hl.2.2 i w hi).2 hs))
theorem L_iload {i : Nat} {a : Int} (hd : decode code pc = .ok (.iload i, 2)) (hi : ls[i]? = some (some (vI a))) (hq : pc + 2 = q) (kk : LL L sc q ls (vI a :: st) μ v k n) : LL L sc pc ls st μ v k n := by
  subst hq
  exact LL_load hi (fun p l e R s m args below meth c H locs k n Q ad ls' hx hb hg k2 => lv_iload hx hb hd hg k2) kk
theorem L_aload_n {j : Fin 4} {i : Nat} {a : Nat} (hd : decode code pc = .ok (.aload_n j, 1)) (he : (j : Nat) = i) (hi : ls[i]? = some (some (vR a))) (hq : pc + 1 = q) (kk : LL L sc q ls (vR a :: st) μ v k n) : LL L sc pc ls st μ v k n := by
  subst hq
  exact LL_load hi (fun p l e R s m args below meth c H locs k n Q ad ls' hx hb hg k2 => lv_aload_n hx hb hd he hg k2) kk
theorem L_istore {i : Nat} {a : Int} (hd : decode code pc = .ok (.istore i, 2)) (hi : i < 7) (hn0 : nL_ ls i) (hq : pc + 2 = q) (kk : LL L sc q (ls.set i (some (vI a))) st μ v k n) : LL L sc pc ls (vI a :: st) μ v k n := by
  subst hq
  intro p l e s m below meth c b xs H locs dC dI D cL ad ls' X hxs hH hL hS hn hl hs
  refine lv_istore X.1.1 X.1.2.1 hd (lR_has hl) (by rw [hn]; exact hi) rfl (fun ls2 h2 => ?_)
  exact kk p l e s m below meth c b xs H locs dC dI D cL ad ls2 X hxs hH hL hS (by rw [List.length_set]; exact hn) (lR_set hl (ok_h hs) (by rw [hn]; exact hi) hn0 h2) (ok_t hs)
theorem L_iinc {i : Nat} {z a : Int} (hd : decode code pc = .ok (.iinc i z, 3)) (hg : ls[i]? = some (some (vI a))) (hi : i < 7) (hn0 : nL_ ls i) (hq : pc + 3 = q) (kk : LL L sc q (ls.set i (some (vI (iA a z)))) st μ v k n) : LL L sc pc ls st μ v k n := by
  subst hq
  intro p l e s m below meth c b xs H locs dC dI D cL ad ls' X hxs hH hL hS hn hl hs
  obtain ⟨k', hk⟩ := List.getElem?_of_mem (pL_mem.mpr ⟨_, hg, rfl⟩ : (i, cV ad (vI a)) ∈ pL ad ls)
  refine lv_iinc X.1.1 X.1.2.1 hd (lR_has hl) hk (v := Int32.ofInt (iA a z)) (o32_add a z) (by rw [hn]; exact hi) rfl (fun ls2 h2 => ?_)
  exact kk p l e s m below meth c b xs H locs dC dI D cL ad ls2 X hxs hH hL hS (by rw [List.length_set]; exact hn) (lR_set hl (rI_wI _) (by rw [hn]; exact hi) hn0 h2) hs
theorem L_ts1 {dflt lo hi off : Int} {offs : Array Int} {len : Nat} {x : Int} (kz : Int) (hd : decode code pc = .ok (.tableswitch dflt lo hi offs, len)) (h1 : decide (lo ≤ kz) = true) (h2 : decide (kz ≤ hi) = true) (ho : offs[(kz - lo).toNat]? = some off) (ht : (pc : Int) + off = (q : Int)) (kt : x = kz → LL L sc q ls st μ v k n) (kf : ¬ x = kz → LL L sc pc ls (vI x :: st) μ v k n) : LL L sc pc ls (vI x :: st) μ v k n := by
  by_cases h : x = kz
  · subst h
    refine LL_pure (st2 := st) (fun h => ok_t h) (fun p l e R s m args below meth c H locs k n Q ad ls' hx hb h k2 => ?_) (kt rfl)
    have h1' := of_decide_eq_true h1
    have h2' := of_decide_eq_true h2
    exact lv_tableIn hx hb hd (by rw [rI_32 (ok_h h)]; omega) (by rw [rI_32 (ok_h h)]; omega) (by rw [rI_32 (ok_h h)]; exact ho) ht k2
  · exact kf h
theorem L_tsOut {dflt lo hi : Int} {offs : Array Int} {len : Nat} {x : Int} (hd : decode code pc = .ok (.tableswitch dflt lo hi offs, len)) (h : x < lo ∨ hi < x) (ht : (pc : Int) + dflt = (q : Int)) (kk : LL L sc q ls st μ v k n) : LL L sc pc ls (vI x :: st) μ v k n := by
  refine LL_pure (st2 := st) (fun h => ok_t h) (fun p l e R s m args below meth c H locs k n Q ad ls' hx hb h3 k2 => ?_) kk
  exact lv_tableOut hx hb hd (by rw [rI_32 (ok_h h3)]; exact h) ht k2
/-- the script's length, its ints -/
theorem L_slen (hd : decode code pc = .ok (.arraylength, 1)) (hq : pc + 1 = q) (hL0 : L < 2147483648) (kk : LL L sc q ls (vI (L : Int) :: st) μ v k n) : LL L sc pc ls (vR 99 :: st) μ v k n := by
  subst hq
  intro p l e s m below meth c b xs H locs dC dI D cL ad ls' X hxs hH hL hS hn hl hs
  obtain ⟨⟨hx, hb, hr, hml, hown, hts, hX, hbl, hlk, hgv⟩, hfl, hK, hP, had, hab⟩ := id X
  show W p l e room_1 s m #[Value.ref b] below meth c H locs k n _ (F0 m pc ls' (.ref (ad 99) :: st.map (cV ad)))
  rw [hab]
  refine va_slen hx hb hX hbl (Nat.not_le.mpr hbl) hS hd ?_
  rw [← Int32.ofInt_eq_ofNat]
  exact kk p l e s m below meth c b xs H locs dC dI D cL ad ls' X hxs hH hL hS hn hl (ok_c (v := vI (L : Int)) (by show rI _; unfold rI; omega) (ok_t hs))
theorem L_sld {i : Int} (hd : decode code pc = .ok (.iaload, 1)) (hi : 0 ≤ i ∧ i < L) (hq : pc + 1 = q) (kk : LL L sc q ls (vI (sc i.toNat) :: st) μ v k n) : LL L sc pc ls (vI i :: vR 99 :: st) μ v k n := by
  subst hq
  intro p l e s m below meth c b xs H locs dC dI D cL ad ls' X hxs hH hL hS hn hl hs
  obtain ⟨⟨hx, hb, hr, hml, hown, hts, hX, hbl, hlk, hgv⟩, hfl, hK, hP, had, hab⟩ := id X
  show W p l e room_1 s m #[Value.ref b] below meth c H locs k n _ (F0 m pc ls' (.int (Int32.ofInt i) :: .ref (ad 99) :: st.map (cV ad)))
  rw [hab]
  refine va_sld hx hb hX hbl (Nat.not_le.mpr hbl) hS (o32_in (ok_h hs) hi) hd ?_
  rw [o32_nat (ok_h hs) hi.1]
  have e1 : xs i.toNat = Int32.ofInt (sc i.toNat) := by rw [← hxs, o32_self]
  rw [e1]
  exact kk p l e s m below meth c b xs H locs dC dI D cL ad ls' X hxs hH hL hS hn hl (ok_c (v := vI (sc i.toNat)) (by rw [← hxs]; exact rI_of _) (ok_t (ok_t hs)))
theorem nS_tbl {args : Array Value} {s : State} (hts : ∀ w ∈ lw_tbl, w.before args s = true) : nS s := by
  intro w hw hn
  have h1 := hts w hw
  cases w <;> first | (cases hn; done) | exact va_Nw.of rfl h1
/-- a call of either system -/
theorem L_call {d1 idx nn b ci nf : Nat} {M1 : Mth} {As : List AV} {r1 : Int} {μ1 : Mm} {st0 : List AV} (w : AV) (hM : CC d1 M1 (vR b :: As) μ r1 μ1) (hd1 : d1 ≤ 800) (hm : mV R_law idx M1 nn) (hkb : kD b = (ci + 10, nf)) (hci : (vwCl[ci]?).map (fun q => q.1) = some M1.1.cls) (hl : As.length = nn) (hr : rT M1.2.2.2 r1 = [w]) (hst : st0 = As.reverse ++ vR b :: st) (hw : Nat.ble (st.map wd).sum 8 = true) (hkn : k ≤ 601024 ∧ n ≤ 7293034)
    (hd : decode code pc = .ok (.invokevirtual idx, 3)) (hq : pc + 3 = q) (kk : LL L sc q ls (w :: st) μ1 v k n) : LL L sc pc ls st0 μ v k n := by
  subst hq; subst hst
  intro p l e s m below meth c b' xs H locs dC dI D cL ad ls' X hxs hH hL hS hn hl' hs
  obtain ⟨⟨hx, hb, hr', hml, hown, hts, hX, hbl, hlk, hgv⟩, hfl, hK, hP, had, hab⟩ := id X
  obtain ⟨hs1, hs2⟩ := ok_rev hs
  have hts' : ∀ w ∈ tG, w.before #[Value.ref b'] s = true := fun w hw => hts w (List.mem_filter.mp hw).1
  have e1 : (As.reverse ++ vR b :: st).map (cV ad) = (As.map (cV ad)).reverse ++ .ref (ad b) :: st.map (cV ad) := by
    rw [List.map_append, List.map_reverse]; rfl
  rw [e1]
  have hK' : va_K (dC, dI) vwCl (tyS D) s := hK.sub [0, 1, 2] rfl
  have hlt : ad 98 < H.size := (Array.getElem?_eq_some_iff.mp hL.1).1
  have hne : ¬ aA ad H.size (ad 98) := by
    rintro (⟨j, h1, h2⟩ | h)
    · exact hL.2.1 j h1 h2
    · omega
  refine w_callV (nL := 7) ⟨hx, hb, hml, hown, hts'⟩ hM hm hkb hci hl hH hK' hP (nS_tbl hts) (ok_c trivial hs1) (hl'.1.trans hn) (by rw [wd_sum]; exact Nat.le_of_ble_eq_true hw) ⟨by show d1 + 1 ≤ 2048; omega, by show 100 * (d1 + 1) ≤ 84000; omega⟩ hkn hS (fun q hq => ?_) hd (fun H1 locs1 hr1 hH1 _ hfr hS1 => ?_)
  · rcases hq with ⟨j, h1, rfl⟩ | h
    · exact had j h1
    · exact Nat.le_trans hS.1 h
  · rw [rT_V, ← List.map_append]
    have hrw : ∀ v ∈ rT M1.2.2.2 r1, oV v := rT_ok hr1
    rw [hr] at hrw ⊢
    exact kk p l e s m below meth c b' xs H1 locs1 dC dI D cL ad ls' X hxs hH1 ⟨by rw [hfr _ hlt hne]; exact hL.1, hL.2⟩ hS1 hn hl' (fun v hv => (List.mem_append.mp hv).elim (hrw v) (ok_t hs2 v))
theorem L_weak {ls2 : List (Option AV)} (kk : LL L sc pc ls2 st μ v k n) (h : sb_ ls2 ls) : LL L sc pc ls st μ v k n := by
  obtain ⟨h1, h2⟩ := sb_ok h
  intro p l e s m below meth c b xs H locs dC dI D cL ad ls' X hxs hH hL hS hn hl hs
  exact kk p l e s m below meth c b xs H locs dC dI D cL ad ls' X hxs hH hL hS (h1.trans hn) ⟨hl.1.trans h1.symm, hl.2.1, fun i v hi => hl.2.2 i v (h2 i v hi)⟩ hs
/-- the law's end -/
theorem L_end (hkn : k ≤ 601024 ∧ n ≤ 7293034) (hd : decode code pc = .ok (.iconst 1, 1)) (hd2 : decode code (pc + 1) = .ok (.ireturn, 1)) : LL L sc pc ls [] μ v k n := by
  intro p l e s m below meth c b xs H locs dC dI D cL ad ls' X hxs hH hL hS hn hl hs
  obtain ⟨⟨hx, hb, hr, hml, hown, hts, hX, hbl, hlk, hgv⟩, hfl, hK, hP, had, hab⟩ := id X
  refine lv_iconst (v := 1) hx hb hd rfl ?_
  refine va_forget (fun q hq => hS.2.2 q hq) ?_
  refine W.widen (k := 601024) (n := 7293034) hkn.1 hkn.2 ?_
  exact lw_ret hx hb hr hlk hd2
theorem LL_widen {k2 n2 : Nat} (h1 : k ≤ k2) (h2 : n ≤ n2) (kk : LL L sc pc ls st μ v k2 n2) : LL L sc pc ls st μ v k n := by
  intro p l e s m below meth c b xs H locs dC dI D cL ad ls' X hxs hH hL hS hn hl hs
  exact W.widen h1 h2 (kk p l e s m below meth c b xs H locs dC dI D cL ad ls' X hxs hH hL hS hn hl hs)
end LR
