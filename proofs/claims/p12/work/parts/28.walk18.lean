abbrev mX11_back : Mth := (yX11_back, cX11_back, 2, some .int)
set_option maxRecDepth 100000 in
theorem mi_X11_back : Cond.instanceMethod yX11_back ∈ tG ∧ Cond.selects yX11_back.cls yX11_back yX11_back ∈ tG ∧ Cond.initialized yX11_back.cls ∈ tG ∧ Cond.code yX11_back cX11_back 2 (some .int) ∈ tG ∧ (yX11_back.cls ≠ "java/lang/invoke/MethodHandle" ∧ yX11_back.cls ≠ "java/lang/invoke/VarHandle" ∧ (parseMethodDescriptor yX11_back.desc).map (fun d => d.parameters.length) = some 0) ∧ 2 ≤ 60 := ⟨(tG_of (tb7 (List.mem_of_getElem? (i := 182) rfl)) (by decide +kernel)), (tG_of (tb7 (List.mem_of_getElem? (i := 183) rfl)) (by decide +kernel)), (tG_of (tb1 (List.mem_of_getElem? (i := 12) rfl)) (by decide +kernel)), (tG_of (tb7 (List.mem_of_getElem? (i := 184) rfl)) (by decide +kernel)), ⟨by decide, by decide, by decide +kernel⟩, by decide⟩
theorem dX11_back_0 : decode cX11_back 0 = .ok (.aload_n 0, 1) := by decide +kernel
theorem dX11_back_1 : decode cX11_back 1 = .ok (.getfield 264, 3) := by decide +kernel
theorem dX11_back_4 : decode cX11_back 4 = .ok (.ifCond .ne 5, 3) := by decide +kernel
theorem dX11_back_7 : decode cX11_back 7 = .ok (.iconst (-1), 1) := by decide +kernel
theorem dX11_back_8 : decode cX11_back 8 = .ok (.ireturn, 1) := by decide +kernel
theorem dX11_back_9 : decode cX11_back 9 = .ok (.iconst 0, 1) := by decide +kernel
theorem dX11_back_10 : decode cX11_back 10 = .ok (.istore_n 1, 1) := by decide +kernel
theorem dX11_back_11 : decode cX11_back 11 = .ok (.iload_n 1, 1) := by decide +kernel
theorem dX11_back_12 : decode cX11_back 12 = .ok (.bipush 60, 2) := by decide +kernel
theorem dX11_back_14 : decode cX11_back 14 = .ok (.if_icmp .ge 21, 3) := by decide +kernel
theorem dX11_back_17 : decode cX11_back 17 = .ok (.aload_n 0, 1) := by decide +kernel
theorem dX11_back_18 : decode cX11_back 18 = .ok (.getfield 43, 3) := by decide +kernel
theorem dX11_back_21 : decode cX11_back 21 = .ok (.iload_n 1, 1) := by decide +kernel
theorem dX11_back_22 : decode cX11_back 22 = .ok (.aload_n 0, 1) := by decide +kernel
theorem dX11_back_23 : decode cX11_back 23 = .ok (.getfield 92, 3) := by decide +kernel
theorem dX11_back_26 : decode cX11_back 26 = .ok (.iload_n 1, 1) := by decide +kernel
theorem dX11_back_27 : decode cX11_back 27 = .ok (.iaload, 1) := by decide +kernel
theorem dX11_back_28 : decode cX11_back 28 = .ok (.iastore, 1) := by decide +kernel
theorem dX11_back_29 : decode cX11_back 29 = .ok (.iinc 1 1, 3) := by decide +kernel
theorem dX11_back_32 : decode cX11_back 32 = .ok (.goto (-21), 3) := by decide +kernel
theorem dX11_back_35 : decode cX11_back 35 = .ok (.iconst 0, 1) := by decide +kernel
theorem dX11_back_36 : decode cX11_back 36 = .ok (.istore_n 1, 1) := by decide +kernel
theorem dX11_back_37 : decode cX11_back 37 = .ok (.iload_n 1, 1) := by decide +kernel
theorem dX11_back_38 : decode cX11_back 38 = .ok (.bipush 8, 2) := by decide +kernel
theorem dX11_back_40 : decode cX11_back 40 = .ok (.if_icmp .ge 21, 3) := by decide +kernel
theorem dX11_back_43 : decode cX11_back 43 = .ok (.aload_n 0, 1) := by decide +kernel
theorem dX11_back_44 : decode cX11_back 44 = .ok (.getfield 55, 3) := by decide +kernel
theorem dX11_back_47 : decode cX11_back 47 = .ok (.iload_n 1, 1) := by decide +kernel
theorem dX11_back_48 : decode cX11_back 48 = .ok (.aload_n 0, 1) := by decide +kernel
theorem dX11_back_49 : decode cX11_back 49 = .ok (.getfield 95, 3) := by decide +kernel
theorem dX11_back_52 : decode cX11_back 52 = .ok (.iload_n 1, 1) := by decide +kernel
theorem dX11_back_53 : decode cX11_back 53 = .ok (.iaload, 1) := by decide +kernel
theorem dX11_back_54 : decode cX11_back 54 = .ok (.iastore, 1) := by decide +kernel
theorem dX11_back_55 : decode cX11_back 55 = .ok (.iinc 1 1, 3) := by decide +kernel
theorem dX11_back_58 : decode cX11_back 58 = .ok (.goto (-21), 3) := by decide +kernel
theorem dX11_back_61 : decode cX11_back 61 = .ok (.aload_n 0, 1) := by decide +kernel
theorem dX11_back_62 : decode cX11_back 62 = .ok (.aload_n 0, 1) := by decide +kernel
theorem dX11_back_63 : decode cX11_back 63 = .ok (.getfield 389, 3) := by decide +kernel
theorem dX11_back_66 : decode cX11_back 66 = .ok (.putfield 58, 3) := by decide +kernel
theorem dX11_back_69 : decode cX11_back 69 = .ok (.aload_n 0, 1) := by decide +kernel
theorem dX11_back_70 : decode cX11_back 70 = .ok (.aload_n 0, 1) := by decide +kernel
theorem dX11_back_71 : decode cX11_back 71 = .ok (.getfield 392, 3) := by decide +kernel
theorem dX11_back_74 : decode cX11_back 74 = .ok (.putfield 307, 3) := by decide +kernel
theorem dX11_back_77 : decode cX11_back 77 = .ok (.aload_n 0, 1) := by decide +kernel
theorem dX11_back_78 : decode cX11_back 78 = .ok (.invokevirtual 395, 3) := by decide +kernel
theorem dX11_back_81 : decode cX11_back 81 = .ok (.ireturn, 1) := by decide +kernel
def X11_back_L11 (k35 : Mm → Rs) : Nat → Int → Mm → Rs
  | 0, _, _ => none
  | n + 1, l1, μ => if 60 ≤ l1 then (k35 μ) else (ldA μ 96 l1 fun v3 => stA μ 82 l1 v3 fun μ5 => X11_back_L11 k35 n (iA l1 1) μ5)
def X11_back_L37 (k61 : Mm → Rs) : Nat → Int → Mm → Rs
  | 0, _, _ => none
  | n + 1, l1, μ => if 8 ≤ l1 then (k61 μ) else (ldA μ 97 l1 fun v9 => stA μ 86 l1 v9 fun μ11 => X11_back_L37 k61 n (iA l1 1) μ11)
def X11_back (μ : Mm) : Rs := if (μ 70 53) = 0 then (some ((-1), μ)) else (X11_back_L11 (fun μ7 => X11_back_L37 (fun μ13 => sF μ13 70 30 (μ13 70 51) fun μ14 => sF μ14 70 31 (μ14 70 52) fun μ15 => bd (X11_posts μ15) fun v16 μ17 => some (v16, μ17)) FU 0 μ7) FU 0 μ)
set_option maxHeartbeats 4000000 in
set_option maxRecDepth 100000 in
theorem kX11_back_L11 (d : Nat) (hd : 3 ≤ d) {k35 : Mm → Rs} {r : Int} {μ' : Mm} (hk_35 : ∀ (μ1 : Mm), k35 μ1 = some (r, μ') → VV d mX11_back 35 [some (vR 70), none] [] μ1 r μ') : ∀ (n : Nat) {l1 : Int} {μ : Mm}, X11_back_L11 k35 n l1 μ = some (r, μ') → VV d mX11_back 11 [some (vR 70), some (vI l1)] [] μ r μ' := by
  intro n
  induction n with
  | zero => intro l1 μ h; rw [X11_back_L11] at h; cases h
  | succ n ih =>
    intro l1 μ h
    rw [X11_back_L11] at h
    refine V_iload_n (q := 12) dX11_back_11 rfl rfl rfl ?_
    refine V_bipush (q := 14) dX11_back_12 rfl rfl rfl ?_
    refine V_icmpge (q := 35) (q2 := 17) dX11_back_14 (by decide) rfl (fun hc2 => ?_) (fun hc2 => ?_)
    · have h := ifT hc2 h
      exact V_weak (hk_35 _ h) (sb_s rfl (sb_n sb_0))
    · have h := ifF hc2 h
      refine V_aload_n (q := 18) dX11_back_17 rfl rfl rfl ?_
      refine V_getO (q := 21) (t := 82) fl_X11_43 rfl rfl rfl rfl dX11_back_18 rfl ?_
      refine V_iload_n (q := 22) dX11_back_21 rfl rfl rfl ?_
      refine V_aload_n (q := 23) dX11_back_22 rfl rfl rfl ?_
      refine V_getO (q := 26) (t := 96) fl_X11_92 rfl rfl rfl rfl dX11_back_23 rfl ?_
      refine V_iload_n (q := 27) dX11_back_26 rfl rfl rfl ?_
      obtain ⟨hi4, h⟩ := ldA_i h
      refine V_iaload (q := 28) rfl hi4 dX11_back_27 rfl ?_
      obtain ⟨hi6, h⟩ := stA_i h
      refine V_iastore (q := 29) rfl hi6 dX11_back_28 rfl ?_
      refine V_iinc (q := 32) dX11_back_29 rfl (Nat.le_of_ble_eq_true rfl) trivial rfl ?_
      refine V_goto (q := 11) dX11_back_32 (by decide) ?_
      exact V_weak (ih h) (sb_s rfl (sb_s rfl sb_0))
set_option maxHeartbeats 4000000 in
set_option maxRecDepth 100000 in
theorem kX11_back_L37 (d : Nat) (hd : 3 ≤ d) {k61 : Mm → Rs} {r : Int} {μ' : Mm} (hk_61 : ∀ (μ1 : Mm), k61 μ1 = some (r, μ') → VV d mX11_back 61 [some (vR 70), none] [] μ1 r μ') : ∀ (n : Nat) {l1 : Int} {μ : Mm}, X11_back_L37 k61 n l1 μ = some (r, μ') → VV d mX11_back 37 [some (vR 70), some (vI l1)] [] μ r μ' := by
  intro n
  induction n with
  | zero => intro l1 μ h; rw [X11_back_L37] at h; cases h
  | succ n ih =>
    intro l1 μ h
    rw [X11_back_L37] at h
    refine V_iload_n (q := 38) dX11_back_37 rfl rfl rfl ?_
    refine V_bipush (q := 40) dX11_back_38 rfl rfl rfl ?_
    refine V_icmpge (q := 61) (q2 := 43) dX11_back_40 (by decide) rfl (fun hc8 => ?_) (fun hc8 => ?_)
    · have h := ifT hc8 h
      exact V_weak (hk_61 _ h) (sb_s rfl (sb_n sb_0))
    · have h := ifF hc8 h
      refine V_aload_n (q := 44) dX11_back_43 rfl rfl rfl ?_
      refine V_getO (q := 47) (t := 86) fl_X11_55 rfl rfl rfl rfl dX11_back_44 rfl ?_
      refine V_iload_n (q := 48) dX11_back_47 rfl rfl rfl ?_
      refine V_aload_n (q := 49) dX11_back_48 rfl rfl rfl ?_
      refine V_getO (q := 52) (t := 97) fl_X11_95 rfl rfl rfl rfl dX11_back_49 rfl ?_
      refine V_iload_n (q := 53) dX11_back_52 rfl rfl rfl ?_
      obtain ⟨hi10, h⟩ := ldA_i h
      refine V_iaload (q := 54) rfl hi10 dX11_back_53 rfl ?_
      obtain ⟨hi12, h⟩ := stA_i h
      refine V_iastore (q := 55) rfl hi12 dX11_back_54 rfl ?_
      refine V_iinc (q := 58) dX11_back_55 rfl (Nat.le_of_ble_eq_true rfl) trivial rfl ?_
      refine V_goto (q := 37) dX11_back_58 (by decide) ?_
      exact V_weak (ih h) (sb_s rfl (sb_s rfl sb_0))
set_option maxHeartbeats 4000000 in
set_option maxRecDepth 100000 in
theorem kX11_back (d : Nat) (hd : 3 ≤ d) {μ : Mm} {r : Int} {μ' : Mm} (h : X11_back μ = some (r, μ')) : CC d mX11_back [vR 70] μ r μ' := by
  unfold X11_back at h
  refine V_enter (by decide) (Nat.le_of_ble_eq_true rfl) ?_
  show VV d mX11_back 0 [some (vR 70), none] [] μ r μ'
  refine V_aload_n (q := 1) dX11_back_0 rfl rfl rfl ?_
  refine V_getI (q := 4) fl_X11_264 rfl rfl rfl dX11_back_1 rfl ?_
  refine V_ifne (q := 9) (q2 := 7) dX11_back_4 (by decide) rfl (fun hc1 => ?_) (fun hc1 => ?_)
  · have h := ifF hc1 h
    refine V_iconst (q := 10) dX11_back_9 rfl rfl ?_
    refine V_istore_n (q := 11) dX11_back_10 rfl (Nat.le_of_ble_eq_true rfl) trivial rfl ?_
    refine V_weak (kX11_back_L11 d hd (fun μ7 h => ?_) FU h) (sb_s rfl (sb_s rfl sb_0))
    refine V_iconst (q := 36) dX11_back_35 rfl rfl ?_
    refine V_istore_n (q := 37) dX11_back_36 rfl (Nat.le_of_ble_eq_true rfl) trivial rfl ?_
    refine V_weak (kX11_back_L37 d hd (fun μ13 h => ?_) FU h) (sb_s rfl (sb_s rfl sb_0))
    refine V_aload_n (q := 62) dX11_back_61 rfl rfl rfl ?_
    refine V_aload_n (q := 63) dX11_back_62 rfl rfl rfl ?_
    refine V_getI (q := 66) fl_X11_389 rfl rfl rfl dX11_back_63 rfl ?_
    have h := sF_i h
    refine V_putI (q := 69) fl_X11_58 rfl rfl rfl dX11_back_66 rfl ?_
    refine V_aload_n (q := 70) dX11_back_69 rfl rfl rfl ?_
    refine V_aload_n (q := 71) dX11_back_70 rfl rfl rfl ?_
    refine V_getI (q := 74) fl_X11_392 rfl rfl rfl dX11_back_71 rfl ?_
    have h := sF_i h
    refine V_putI (q := 77) fl_X11_307 rfl rfl rfl dX11_back_74 rfl ?_
    refine V_aload_n (q := 78) dX11_back_77 rfl rfl rfl ?_
    obtain ⟨v16, μ17, hc18, h⟩ := bd_i h
    refine V_cV1 (q := 81) (v := vI v16) (kX11_posts (d - 1) (by omega) hc18) (by omega) mv_X11_395 rfl rfl rfl rfl rfl rfl dX11_back_78 rfl ?_
    exact V_iret rfl h dX11_back_81
  · have h := ifT hc1 h
    refine V_iconst (q := 8) dX11_back_7 rfl rfl ?_
    exact V_iret rfl h dX11_back_8
abbrev mX11_cranks : Mth := (yX11_cranks, cX11_cranks, 3, some .int)
set_option maxRecDepth 100000 in
theorem mi_X11_cranks : Cond.instanceMethod yX11_cranks ∈ tG ∧ Cond.selects yX11_cranks.cls yX11_cranks yX11_cranks ∈ tG ∧ Cond.initialized yX11_cranks.cls ∈ tG ∧ Cond.code yX11_cranks cX11_cranks 3 (some .int) ∈ tG ∧ (yX11_cranks.cls ≠ "java/lang/invoke/MethodHandle" ∧ yX11_cranks.cls ≠ "java/lang/invoke/VarHandle" ∧ (parseMethodDescriptor yX11_cranks.desc).map (fun d => d.parameters.length) = some 0) ∧ 3 ≤ 60 := ⟨(tG_of (tb7 (List.mem_of_getElem? (i := 191) rfl)) (by decide +kernel)), (tG_of (List.mem_of_getElem? (i := 99) (by decide +kernel)) (by decide +kernel)), (tG_of (tb1 (List.mem_of_getElem? (i := 12) rfl)) (by decide +kernel)), (tG_of (tb7 (List.mem_of_getElem? (i := 192) rfl)) (by decide +kernel)), ⟨by decide, by decide, by decide +kernel⟩, by decide⟩
set_option maxRecDepth 100000 in
theorem mv_X11_398 : mV RX11 398 mX11_cranks 0 := ⟨(tG_of (tb7 (List.mem_of_getElem? (i := 189) rfl)) (by decide +kernel)), mi_X11_cranks⟩
theorem dX11_cranks_0 : decode cX11_cranks 0 = .ok (.iconst 0, 1) := by decide +kernel
theorem dX11_cranks_1 : decode cX11_cranks 1 = .ok (.istore_n 1, 1) := by decide +kernel
theorem dX11_cranks_2 : decode cX11_cranks 2 = .ok (.iconst 0, 1) := by decide +kernel
theorem dX11_cranks_3 : decode cX11_cranks 3 = .ok (.istore_n 2, 1) := by decide +kernel
theorem dX11_cranks_4 : decode cX11_cranks 4 = .ok (.iload_n 2, 1) := by decide +kernel
theorem dX11_cranks_5 : decode cX11_cranks 5 = .ok (.bipush 8, 2) := by decide +kernel
theorem dX11_cranks_7 : decode cX11_cranks 7 = .ok (.if_icmp .ge 25, 3) := by decide +kernel
theorem dX11_cranks_10 : decode cX11_cranks 10 = .ok (.iload_n 1, 1) := by decide +kernel
theorem dX11_cranks_11 : decode cX11_cranks 11 = .ok (.aload_n 0, 1) := by decide +kernel
theorem dX11_cranks_12 : decode cX11_cranks 12 = .ok (.iload_n 2, 1) := by decide +kernel
theorem dX11_cranks_13 : decode cX11_cranks 13 = .ok (.invokevirtual 284, 3) := by decide +kernel
theorem dX11_cranks_16 : decode cX11_cranks 16 = .ok (.ifCond .eq 7, 3) := by decide +kernel
theorem dX11_cranks_19 : decode cX11_cranks 19 = .ok (.iconst 1, 1) := by decide +kernel
theorem dX11_cranks_20 : decode cX11_cranks 20 = .ok (.goto 4, 3) := by decide +kernel
theorem dX11_cranks_23 : decode cX11_cranks 23 = .ok (.iconst 0, 1) := by decide +kernel
theorem dX11_cranks_24 : decode cX11_cranks 24 = .ok (.iadd, 1) := by decide +kernel
theorem dX11_cranks_25 : decode cX11_cranks 25 = .ok (.istore_n 1, 1) := by decide +kernel
theorem dX11_cranks_26 : decode cX11_cranks 26 = .ok (.iinc 2 1, 3) := by decide +kernel
theorem dX11_cranks_29 : decode cX11_cranks 29 = .ok (.goto (-25), 3) := by decide +kernel
theorem dX11_cranks_32 : decode cX11_cranks 32 = .ok (.iload_n 1, 1) := by decide +kernel
theorem dX11_cranks_33 : decode cX11_cranks 33 = .ok (.ireturn, 1) := by decide +kernel
def X11_cranks_L4 : Nat → Int → Int → Mm → Rs
  | 0, _, _, _ => none
  | n + 1, l1, l2, μ => if 8 ≤ l2 then (some (l1, μ)) else (bd (X11_isCrank l2 μ) fun v2 μ3 => if v2 = 0 then (X11_cranks_L4 n (iA l1 0) (iA l2 1) μ3) else (X11_cranks_L4 n (iA l1 1) (iA l2 1) μ3))
def X11_cranks (μ : Mm) : Rs := X11_cranks_L4 FU 0 0 μ
set_option maxHeartbeats 4000000 in
set_option maxRecDepth 100000 in
theorem kX11_cranks_L4 (d : Nat) (hd : 4 ≤ d) {r : Int} {μ' : Mm} : ∀ (n : Nat) {l1 l2 : Int} {μ : Mm}, X11_cranks_L4 n l1 l2 μ = some (r, μ') → VV d mX11_cranks 4 [some (vR 70), some (vI l1), some (vI l2)] [] μ r μ' := by
  intro n
  induction n with
  | zero => intro l1 l2 μ h; rw [X11_cranks_L4] at h; cases h
  | succ n ih =>
    intro l1 l2 μ h
    rw [X11_cranks_L4] at h
    refine V_iload_n (q := 5) dX11_cranks_4 rfl rfl rfl ?_
    refine V_bipush (q := 7) dX11_cranks_5 rfl rfl rfl ?_
    refine V_icmpge (q := 32) (q2 := 10) dX11_cranks_7 (by decide) rfl (fun hc1 => ?_) (fun hc1 => ?_)
    · have h := ifT hc1 h
      refine V_iload_n (q := 33) dX11_cranks_32 rfl rfl rfl ?_
      exact V_iret rfl h dX11_cranks_33
    · have h := ifF hc1 h
      refine V_iload_n (q := 11) dX11_cranks_10 rfl rfl rfl ?_
      refine V_aload_n (q := 12) dX11_cranks_11 rfl rfl rfl ?_
      refine V_iload_n (q := 13) dX11_cranks_12 rfl rfl rfl ?_
      obtain ⟨v2, μ3, hc4, h⟩ := bd_i h
      refine V_cV1 (q := 16) (v := vI v2) (kX11_isCrank (d - 1) (by omega) hc4) (by omega) mv_X11_284 rfl rfl rfl rfl rfl rfl dX11_cranks_13 rfl ?_
      refine V_ifeq (q := 23) (q2 := 19) dX11_cranks_16 (by decide) rfl (fun hc5 => ?_) (fun hc5 => ?_)
      · have h := ifT hc5 h
        refine V_iconst (q := 24) dX11_cranks_23 rfl rfl ?_
        refine V_iadd (q := 25) dX11_cranks_24 rfl ?_
        refine V_istore_n (q := 26) dX11_cranks_25 rfl (Nat.le_of_ble_eq_true rfl) trivial rfl ?_
        refine V_iinc (q := 29) dX11_cranks_26 rfl (Nat.le_of_ble_eq_true rfl) trivial rfl ?_
        refine V_goto (q := 4) dX11_cranks_29 (by decide) ?_
        exact V_weak (ih h) (sb_s rfl (sb_s rfl (sb_s rfl sb_0)))
      · have h := ifF hc5 h
        refine V_iconst (q := 20) dX11_cranks_19 rfl rfl ?_
        refine V_goto (q := 24) dX11_cranks_20 (by decide) ?_
        refine V_iadd (q := 25) dX11_cranks_24 rfl ?_
        refine V_istore_n (q := 26) dX11_cranks_25 rfl (Nat.le_of_ble_eq_true rfl) trivial rfl ?_
        refine V_iinc (q := 29) dX11_cranks_26 rfl (Nat.le_of_ble_eq_true rfl) trivial rfl ?_
        refine V_goto (q := 4) dX11_cranks_29 (by decide) ?_
        exact V_weak (ih h) (sb_s rfl (sb_s rfl (sb_s rfl sb_0)))
set_option maxHeartbeats 4000000 in
set_option maxRecDepth 100000 in
theorem kX11_cranks (d : Nat) (hd : 4 ≤ d) {μ : Mm} {r : Int} {μ' : Mm} (h : X11_cranks μ = some (r, μ')) : CC d mX11_cranks [vR 70] μ r μ' := by
  unfold X11_cranks at h
  refine V_enter (by decide) (Nat.le_of_ble_eq_true rfl) ?_
  show VV d mX11_cranks 0 [some (vR 70), none, none] [] μ r μ'
  refine V_iconst (q := 1) dX11_cranks_0 rfl rfl ?_
  refine V_istore_n (q := 2) dX11_cranks_1 rfl (Nat.le_of_ble_eq_true rfl) trivial rfl ?_
  refine V_iconst (q := 3) dX11_cranks_2 rfl rfl ?_
  refine V_istore_n (q := 4) dX11_cranks_3 rfl (Nat.le_of_ble_eq_true rfl) trivial rfl ?_
  exact V_weak (kX11_cranks_L4 d hd  FU h) (sb_s rfl (sb_s rfl (sb_s rfl sb_0)))
abbrev mX11_count : Mth := (yX11_count, cX11_count, 2, some .int)
set_option maxRecDepth 100000 in
theorem mi_X11_count : Cond.instanceMethod yX11_count ∈ tG ∧ Cond.selects yX11_count.cls yX11_count yX11_count ∈ tG ∧ Cond.initialized yX11_count.cls ∈ tG ∧ Cond.code yX11_count cX11_count 2 (some .int) ∈ tG ∧ (yX11_count.cls ≠ "java/lang/invoke/MethodHandle" ∧ yX11_count.cls ≠ "java/lang/invoke/VarHandle" ∧ (parseMethodDescriptor yX11_count.desc).map (fun d => d.parameters.length) = some 1) ∧ 2 ≤ 60 := ⟨(tG_of (tb7 (List.mem_of_getElem? (i := 186) rfl)) (by decide +kernel)), (tG_of (tb7 (List.mem_of_getElem? (i := 187) rfl)) (by decide +kernel)), (tG_of (tb1 (List.mem_of_getElem? (i := 12) rfl)) (by decide +kernel)), (tG_of (tb7 (List.mem_of_getElem? (i := 188) rfl)) (by decide +kernel)), ⟨by decide, by decide, by decide +kernel⟩, by decide⟩
theorem dX11_count_0 : decode cX11_count 0 = .ok (.iload_n 1, 1) := by decide +kernel
theorem dX11_count_1 : decode cX11_count 1 = .ok (.tableswitch 96 0 8 #[51, 56, 61, 66, 71, 76, 81, 86, 91], 51) := by decide +kernel
theorem dX11_count_52 : decode cX11_count 52 = .ok (.aload_n 0, 1) := by decide +kernel
theorem dX11_count_53 : decode cX11_count 53 = .ok (.invokevirtual 398, 3) := by decide +kernel
theorem dX11_count_56 : decode cX11_count 56 = .ok (.ireturn, 1) := by decide +kernel
theorem dX11_count_57 : decode cX11_count 57 = .ok (.aload_n 0, 1) := by decide +kernel
theorem dX11_count_58 : decode cX11_count 58 = .ok (.getfield 275, 3) := by decide +kernel
theorem dX11_count_61 : decode cX11_count 61 = .ok (.ireturn, 1) := by decide +kernel
theorem dX11_count_62 : decode cX11_count 62 = .ok (.aload_n 0, 1) := by decide +kernel
theorem dX11_count_63 : decode cX11_count 63 = .ok (.getfield 278, 3) := by decide +kernel
theorem dX11_count_66 : decode cX11_count 66 = .ok (.ireturn, 1) := by decide +kernel
theorem dX11_count_67 : decode cX11_count 67 = .ok (.aload_n 0, 1) := by decide +kernel
theorem dX11_count_68 : decode cX11_count 68 = .ok (.getfield 105, 3) := by decide +kernel
theorem dX11_count_71 : decode cX11_count 71 = .ok (.ireturn, 1) := by decide +kernel
theorem dX11_count_72 : decode cX11_count 72 = .ok (.aload_n 0, 1) := by decide +kernel
theorem dX11_count_73 : decode cX11_count 73 = .ok (.getfield 58, 3) := by decide +kernel
theorem dX11_count_76 : decode cX11_count 76 = .ok (.ireturn, 1) := by decide +kernel
theorem dX11_count_77 : decode cX11_count 77 = .ok (.aload_n 0, 1) := by decide +kernel
theorem dX11_count_78 : decode cX11_count 78 = .ok (.getfield 307, 3) := by decide +kernel
theorem dX11_count_81 : decode cX11_count 81 = .ok (.ireturn, 1) := by decide +kernel
theorem dX11_count_82 : decode cX11_count 82 = .ok (.aload_n 0, 1) := by decide +kernel
theorem dX11_count_83 : decode cX11_count 83 = .ok (.getfield 62, 3) := by decide +kernel
theorem dX11_count_86 : decode cX11_count 86 = .ok (.ireturn, 1) := by decide +kernel
theorem dX11_count_87 : decode cX11_count 87 = .ok (.aload_n 0, 1) := by decide +kernel
theorem dX11_count_88 : decode cX11_count 88 = .ok (.getfield 261, 3) := by decide +kernel
theorem dX11_count_91 : decode cX11_count 91 = .ok (.ireturn, 1) := by decide +kernel
theorem dX11_count_92 : decode cX11_count 92 = .ok (.aload_n 0, 1) := by decide +kernel
theorem dX11_count_93 : decode cX11_count 93 = .ok (.invokevirtual 395, 3) := by decide +kernel
theorem dX11_count_96 : decode cX11_count 96 = .ok (.ireturn, 1) := by decide +kernel
theorem dX11_count_97 : decode cX11_count 97 = .ok (.ldc_w 388, 3) := by decide +kernel
theorem dX11_count_100 : decode cX11_count 100 = .ok (.ireturn, 1) := by decide +kernel
def X11_count (l1 : Int) (μ : Mm) : Rs := if l1 = 0 then (bd (X11_cranks μ) fun v2 μ3 => some (v2, μ3)) else (if l1 = 1 then (some (μ 70 28, μ)) else (if l1 = 2 then (some (μ 70 13, μ)) else (if l1 = 3 then (some (μ 70 2, μ)) else (if l1 = 4 then (some (μ 70 30, μ)) else (if l1 = 5 then (some (μ 70 31, μ)) else (if l1 = 6 then (some (μ 70 32, μ)) else (if l1 = 7 then (some (μ 70 45, μ)) else (if l1 = 8 then (bd (X11_posts μ) fun v13 μ14 => some (v13, μ14)) else (some ((-1000000), μ))))))))))
set_option maxHeartbeats 4000000 in
set_option maxRecDepth 100000 in
theorem kX11_count (d : Nat) (hd : 5 ≤ d) {l1 : Int} {μ : Mm} {r : Int} {μ' : Mm} (h : X11_count l1 μ = some (r, μ')) : CC d mX11_count [vR 70, vI l1] μ r μ' := by
  unfold X11_count at h
  refine V_enter (by decide) (Nat.le_of_ble_eq_true rfl) ?_
  show VV d mX11_count 0 [some (vR 70), some (vI l1)] [] μ r μ'
  refine V_iload_n (q := 1) dX11_count_0 rfl rfl rfl ?_
  refine V_ts1 (q := 52) 0 dX11_count_1 rfl rfl rfl (by decide) (fun hc1 => ?_) (fun hc1 => ?_)
  · have h := ifT hc1 h
    refine V_aload_n (q := 53) dX11_count_52 rfl rfl rfl ?_
    obtain ⟨v2, μ3, hc4, h⟩ := bd_i h
    refine V_cV1 (q := 56) (v := vI v2) (kX11_cranks (d - 1) (by omega) hc4) (by omega) mv_X11_398 rfl rfl rfl rfl rfl rfl dX11_count_53 rfl ?_
    exact V_iret rfl h dX11_count_56
  · have h := ifF hc1 h
    refine V_ts1 (q := 57) 1 dX11_count_1 rfl rfl rfl (by decide) (fun hc5 => ?_) (fun hc5 => ?_)
    · have h := ifT hc5 h
      refine V_aload_n (q := 58) dX11_count_57 rfl rfl rfl ?_
      refine V_getI (q := 61) fl_X11_275 rfl rfl rfl dX11_count_58 rfl ?_
      exact V_iret rfl h dX11_count_61
    · have h := ifF hc5 h
      refine V_ts1 (q := 62) 2 dX11_count_1 rfl rfl rfl (by decide) (fun hc6 => ?_) (fun hc6 => ?_)
      · have h := ifT hc6 h
        refine V_aload_n (q := 63) dX11_count_62 rfl rfl rfl ?_
        refine V_getI (q := 66) fl_X11_278 rfl rfl rfl dX11_count_63 rfl ?_
        exact V_iret rfl h dX11_count_66
      · have h := ifF hc6 h
        refine V_ts1 (q := 67) 3 dX11_count_1 rfl rfl rfl (by decide) (fun hc7 => ?_) (fun hc7 => ?_)
        · have h := ifT hc7 h
          refine V_aload_n (q := 68) dX11_count_67 rfl rfl rfl ?_
          refine V_getI (q := 71) fl_X11_105 rfl rfl rfl dX11_count_68 rfl ?_
          exact V_iret rfl h dX11_count_71
        · have h := ifF hc7 h
          refine V_ts1 (q := 72) 4 dX11_count_1 rfl rfl rfl (by decide) (fun hc8 => ?_) (fun hc8 => ?_)
          · have h := ifT hc8 h
            refine V_aload_n (q := 73) dX11_count_72 rfl rfl rfl ?_
            refine V_getI (q := 76) fl_X11_58 rfl rfl rfl dX11_count_73 rfl ?_
            exact V_iret rfl h dX11_count_76
          · have h := ifF hc8 h
            refine V_ts1 (q := 77) 5 dX11_count_1 rfl rfl rfl (by decide) (fun hc9 => ?_) (fun hc9 => ?_)
            · have h := ifT hc9 h
              refine V_aload_n (q := 78) dX11_count_77 rfl rfl rfl ?_
              refine V_getI (q := 81) fl_X11_307 rfl rfl rfl dX11_count_78 rfl ?_
              exact V_iret rfl h dX11_count_81
            · have h := ifF hc9 h
              refine V_ts1 (q := 82) 6 dX11_count_1 rfl rfl rfl (by decide) (fun hc10 => ?_) (fun hc10 => ?_)
              · have h := ifT hc10 h
                refine V_aload_n (q := 83) dX11_count_82 rfl rfl rfl ?_
                refine V_getI (q := 86) fl_X11_62 rfl rfl rfl dX11_count_83 rfl ?_
                exact V_iret rfl h dX11_count_86
              · have h := ifF hc10 h
                refine V_ts1 (q := 87) 7 dX11_count_1 rfl rfl rfl (by decide) (fun hc11 => ?_) (fun hc11 => ?_)
                · have h := ifT hc11 h
                  refine V_aload_n (q := 88) dX11_count_87 rfl rfl rfl ?_
                  refine V_getI (q := 91) fl_X11_261 rfl rfl rfl dX11_count_88 rfl ?_
                  exact V_iret rfl h dX11_count_91
                · have h := ifF hc11 h
                  refine V_ts1 (q := 92) 8 dX11_count_1 rfl rfl rfl (by decide) (fun hc12 => ?_) (fun hc12 => ?_)
                  · have h := ifT hc12 h
                    refine V_aload_n (q := 93) dX11_count_92 rfl rfl rfl ?_
                    obtain ⟨v13, μ14, hc15, h⟩ := bd_i h
                    refine V_cV1 (q := 96) (v := vI v13) (kX11_posts (d - 1) (by omega) hc15) (by omega) mv_X11_395 rfl rfl rfl rfl rfl rfl dX11_count_93 rfl ?_
                    exact V_iret rfl h dX11_count_96
                  · have h := ifF hc12 h
                    refine V_tsOut (q := 97) dX11_count_1 (by omega) (by decide) ?_
                    refine V_ldcw (q := 100) (n := -1000000) dX11_count_97 (by unfold rI; omega) kc_X11_388 rfl ?_
                    exact V_iret rfl h dX11_count_100
