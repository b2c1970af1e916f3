abbrev mX7_bytesIn : Mth := (yX7_bytesIn, cX7_bytesIn, 3, some .int)
set_option maxRecDepth 100000 in
theorem mi_X7_bytesIn : Cond.static yX7_bytesIn ∈ tG ∧ Cond.initialized yX7_bytesIn.cls ∈ tG ∧ Cond.code yX7_bytesIn cX7_bytesIn 3 (some .int) ∈ tG ∧ (yX7_bytesIn.cls ≠ "java/lang/invoke/MethodHandle" ∧ yX7_bytesIn.cls ≠ "java/lang/invoke/VarHandle" ∧ (parseMethodDescriptor yX7_bytesIn.desc).map (fun d => d.parameters.length) = some 1) ∧ 3 ≤ 60 := ⟨(tG_of (tb2 (List.mem_of_getElem? (i := 147) rfl)) (by decide +kernel)), (tG_of (tb1 (List.mem_of_getElem? (i := 2) rfl)) (by decide +kernel)), (tG_of (tb2 (List.mem_of_getElem? (i := 148) rfl)) (by decide +kernel)), ⟨by decide, by decide, by decide +kernel⟩, by decide⟩
set_option maxRecDepth 100000 in
theorem mv_X10_108 : mS RX10 108 mX7_bytesIn 1 := ⟨(tG_of (tb2 (List.mem_of_getElem? (i := 146) rfl)) (by decide +kernel)), mi_X7_bytesIn.1, (tG_of (tb1 (List.mem_of_getElem? (i := 1) rfl)) (by decide +kernel)), mi_X7_bytesIn.2⟩
theorem dX7_bytesIn_0 : decode cX7_bytesIn 0 = .ok (.iconst 0, 1) := dc_3 (byA eNcX7_bytesIn (p := 0) (v := 3) (by decide +kernel))
theorem dX7_bytesIn_1 : decode cX7_bytesIn 1 = .ok (.istore_n 1, 1) := dc_60 (byA eNcX7_bytesIn (p := 1) (v := 60) (by decide +kernel))
theorem dX7_bytesIn_2 : decode cX7_bytesIn 2 = .ok (.bipush 24, 2) := dc_16 (byA eNcX7_bytesIn (p := 2) (v := 16) (by decide +kernel)) (byA eNcX7_bytesIn (p := 3) (v := 24) (by decide +kernel)) (by decide +kernel)
theorem dX7_bytesIn_4 : decode cX7_bytesIn 4 = .ok (.istore_n 2, 1) := dc_61 (byA eNcX7_bytesIn (p := 4) (v := 61) (by decide +kernel))
theorem dX7_bytesIn_5 : decode cX7_bytesIn 5 = .ok (.iload_n 2, 1) := dc_28 (byA eNcX7_bytesIn (p := 5) (v := 28) (by decide +kernel))
theorem dX7_bytesIn_6 : decode cX7_bytesIn 6 = .ok (.ifCond .lt 22, 3) := dc_155 (byA eNcX7_bytesIn (p := 6) (v := 155) (by decide +kernel)) (byA eNcX7_bytesIn (p := 7) (v := 0) (by decide +kernel)) (byA eNcX7_bytesIn (p := 8) (v := 22) (by decide +kernel)) (by decide +kernel)
theorem dX7_bytesIn_9 : decode cX7_bytesIn 9 = .ok (.iload_n 0, 1) := dc_26 (byA eNcX7_bytesIn (p := 9) (v := 26) (by decide +kernel))
theorem dX7_bytesIn_10 : decode cX7_bytesIn 10 = .ok (.iload_n 2, 1) := dc_28 (byA eNcX7_bytesIn (p := 10) (v := 28) (by decide +kernel))
theorem dX7_bytesIn_11 : decode cX7_bytesIn 11 = .ok (.iushr, 1) := dc_124 (byA eNcX7_bytesIn (p := 11) (v := 124) (by decide +kernel))
theorem dX7_bytesIn_12 : decode cX7_bytesIn 12 = .ok (.sipush 255, 3) := dc_17 (byA eNcX7_bytesIn (p := 12) (v := 17) (by decide +kernel)) (byA eNcX7_bytesIn (p := 13) (v := 0) (by decide +kernel)) (byA eNcX7_bytesIn (p := 14) (v := 255) (by decide +kernel)) (by decide +kernel)
theorem dX7_bytesIn_15 : decode cX7_bytesIn 15 = .ok (.iand, 1) := dc_126 (byA eNcX7_bytesIn (p := 15) (v := 126) (by decide +kernel))
theorem dX7_bytesIn_16 : decode cX7_bytesIn 16 = .ok (.ifCond .eq 6, 3) := dc_153 (byA eNcX7_bytesIn (p := 16) (v := 153) (by decide +kernel)) (byA eNcX7_bytesIn (p := 17) (v := 0) (by decide +kernel)) (byA eNcX7_bytesIn (p := 18) (v := 6) (by decide +kernel)) (by decide +kernel)
theorem dX7_bytesIn_19 : decode cX7_bytesIn 19 = .ok (.iinc 1 1, 3) := dc_132 (byA eNcX7_bytesIn (p := 19) (v := 132) (by decide +kernel)) (byA eNcX7_bytesIn (p := 20) (v := 1) (by decide +kernel)) (byA eNcX7_bytesIn (p := 21) (v := 1) (by decide +kernel)) (by decide +kernel)
theorem dX7_bytesIn_22 : decode cX7_bytesIn 22 = .ok (.iinc 2 (-8), 3) := dc_132 (byA eNcX7_bytesIn (p := 22) (v := 132) (by decide +kernel)) (byA eNcX7_bytesIn (p := 23) (v := 2) (by decide +kernel)) (byA eNcX7_bytesIn (p := 24) (v := 248) (by decide +kernel)) (by decide +kernel)
theorem dX7_bytesIn_25 : decode cX7_bytesIn 25 = .ok (.goto (-20), 3) := dc_167 (byA eNcX7_bytesIn (p := 25) (v := 167) (by decide +kernel)) (byA eNcX7_bytesIn (p := 26) (v := 255) (by decide +kernel)) (byA eNcX7_bytesIn (p := 27) (v := 236) (by decide +kernel)) (by decide +kernel)
theorem dX7_bytesIn_28 : decode cX7_bytesIn 28 = .ok (.iload_n 1, 1) := dc_27 (byA eNcX7_bytesIn (p := 28) (v := 27) (by decide +kernel))
theorem dX7_bytesIn_29 : decode cX7_bytesIn 29 = .ok (.ireturn, 1) := dc_172 (byA eNcX7_bytesIn (p := 29) (v := 172) (by decide +kernel))
def X7_bytesIn_L5 (l0 : Int) : Nat → Int → Int → Mm → Rs
  | 0, _, _, _ => none
  | n + 1, l1, l2, μ => if l2 < 0 then (some (l1, μ)) else (if (bA (bU l0 l2) 255) = 0 then (X7_bytesIn_L5 l0 n l1 (iA l2 (-8)) μ) else (X7_bytesIn_L5 l0 n (iA l1 1) (iA l2 (-8)) μ))
def X7_bytesIn (l0 : Int) (μ : Mm) : Rs := X7_bytesIn_L5 l0 FU 0 24 μ
set_option maxHeartbeats 4000000 in
set_option maxRecDepth 100000 in
theorem kX7_bytesIn_L5 (d : Nat) (hd : 1 ≤ d) {l0 : Int} {r : Int} {μ' : Mm} : ∀ (n : Nat) {l1 l2 : Int} {μ : Mm}, X7_bytesIn_L5 l0 n l1 l2 μ = some (r, μ') → VV d mX7_bytesIn 5 [some (vI l0), some (vI l1), some (vI l2)] [] μ r μ' := by
  intro n
  induction n with
  | zero => intro l1 l2 μ h; rw [X7_bytesIn_L5] at h; cases h
  | succ n ih =>
    intro l1 l2 μ h
    rw [X7_bytesIn_L5] at h
    refine V_iload_n (q := 6) dX7_bytesIn_5 rfl rfl rfl ?_
    refine V_iflt (q := 28) (q2 := 9) dX7_bytesIn_6 (by decide) rfl (fun hc1 => ?_) (fun hc1 => ?_)
    · have h := ifT hc1 h
      refine V_iload_n (q := 29) dX7_bytesIn_28 rfl rfl rfl ?_
      exact V_iret rfl h dX7_bytesIn_29
    · have h := ifF hc1 h
      refine V_iload_n (q := 10) dX7_bytesIn_9 rfl rfl rfl ?_
      refine V_iload_n (q := 11) dX7_bytesIn_10 rfl rfl rfl ?_
      refine V_iushr (q := 12) dX7_bytesIn_11 rfl ?_
      refine V_sipush (q := 15) dX7_bytesIn_12 rfl rfl rfl ?_
      refine V_iand (q := 16) dX7_bytesIn_15 rfl ?_
      refine V_ifeq (q := 22) (q2 := 19) dX7_bytesIn_16 (by decide) rfl (fun hc2 => ?_) (fun hc2 => ?_)
      · have h := ifT hc2 h
        refine V_iinc (q := 25) dX7_bytesIn_22 rfl (Nat.le_of_ble_eq_true rfl) trivial rfl ?_
        refine V_goto (q := 5) dX7_bytesIn_25 (by decide) ?_
        exact V_weak (ih h) (sb_s rfl (sb_s rfl (sb_s rfl sb_0)))
      · have h := ifF hc2 h
        refine V_iinc (q := 22) dX7_bytesIn_19 rfl (Nat.le_of_ble_eq_true rfl) trivial rfl ?_
        refine V_iinc (q := 25) dX7_bytesIn_22 rfl (Nat.le_of_ble_eq_true rfl) trivial rfl ?_
        refine V_goto (q := 5) dX7_bytesIn_25 (by decide) ?_
        exact V_weak (ih h) (sb_s rfl (sb_s rfl (sb_s rfl sb_0)))
set_option maxHeartbeats 4000000 in
set_option maxRecDepth 100000 in
theorem kX7_bytesIn (d : Nat) (hd : 1 ≤ d) {l0 : Int} {μ : Mm} {r : Int} {μ' : Mm} (h : X7_bytesIn l0 μ = some (r, μ')) : CC d mX7_bytesIn [vI l0] μ r μ' := by
  unfold X7_bytesIn at h
  refine V_enter (by decide) (Nat.le_of_ble_eq_true rfl) ?_
  show VV d mX7_bytesIn 0 [some (vI l0), none, none] [] μ r μ'
  refine V_iconst (q := 1) dX7_bytesIn_0 rfl rfl ?_
  refine V_istore_n (q := 2) dX7_bytesIn_1 rfl (Nat.le_of_ble_eq_true rfl) trivial rfl ?_
  refine V_bipush (q := 4) dX7_bytesIn_2 rfl rfl rfl ?_
  refine V_istore_n (q := 5) dX7_bytesIn_4 rfl (Nat.le_of_ble_eq_true rfl) trivial rfl ?_
  exact V_weak (kX7_bytesIn_L5 d hd  FU h) (sb_s rfl (sb_s rfl (sb_s rfl sb_0)))
abbrev mX7_add : Mth := (yX7_add, cX7_add, 4, none)
set_option maxRecDepth 100000 in
theorem mi_X7_add : Cond.instanceMethod yX7_add ∈ tG ∧ Cond.selects yX7_add.cls yX7_add yX7_add ∈ tG ∧ Cond.initialized yX7_add.cls ∈ tG ∧ Cond.code yX7_add cX7_add 4 (none) ∈ tG ∧ (yX7_add.cls ≠ "java/lang/invoke/MethodHandle" ∧ yX7_add.cls ≠ "java/lang/invoke/VarHandle" ∧ (parseMethodDescriptor yX7_add.desc).map (fun d => d.parameters.length) = some 1) ∧ 4 ≤ 60 := ⟨(tG_of (tb2 (List.mem_of_getElem? (i := 150) rfl)) (by decide +kernel)), (tG_of (tb2 (List.mem_of_getElem? (i := 151) rfl)) (by decide +kernel)), (tG_of (tb1 (List.mem_of_getElem? (i := 2) rfl)) (by decide +kernel)), (tG_of (tb2 (List.mem_of_getElem? (i := 152) rfl)) (by decide +kernel)), ⟨by decide, by decide, by decide +kernel⟩, by decide⟩
set_option maxRecDepth 100000 in
theorem mv_X10_115 : mV RX10 115 mX7_add 1 := ⟨(tG_of (tb2 (List.mem_of_getElem? (i := 149) rfl)) (by decide +kernel)), mi_X7_add⟩
theorem dX7_add_0 : decode cX7_add 0 = .ok (.bipush 24, 2) := dc_16 (byA eNcX7_add (p := 0) (v := 16) (by decide +kernel)) (byA eNcX7_add (p := 1) (v := 24) (by decide +kernel)) (by decide +kernel)
theorem dX7_add_2 : decode cX7_add 2 = .ok (.istore_n 2, 1) := dc_61 (byA eNcX7_add (p := 2) (v := 61) (by decide +kernel))
theorem dX7_add_3 : decode cX7_add 3 = .ok (.iload_n 2, 1) := dc_28 (byA eNcX7_add (p := 3) (v := 28) (by decide +kernel))
theorem dX7_add_4 : decode cX7_add 4 = .ok (.ifCond .lt 53, 3) := dc_155 (byA eNcX7_add (p := 4) (v := 155) (by decide +kernel)) (byA eNcX7_add (p := 5) (v := 0) (by decide +kernel)) (byA eNcX7_add (p := 6) (v := 53) (by decide +kernel)) (by decide +kernel)
theorem dX7_add_7 : decode cX7_add 7 = .ok (.iload_n 1, 1) := dc_27 (byA eNcX7_add (p := 7) (v := 27) (by decide +kernel))
theorem dX7_add_8 : decode cX7_add 8 = .ok (.iload_n 2, 1) := dc_28 (byA eNcX7_add (p := 8) (v := 28) (by decide +kernel))
theorem dX7_add_9 : decode cX7_add 9 = .ok (.iushr, 1) := dc_124 (byA eNcX7_add (p := 9) (v := 124) (by decide +kernel))
theorem dX7_add_10 : decode cX7_add 10 = .ok (.sipush 255, 3) := dc_17 (byA eNcX7_add (p := 10) (v := 17) (by decide +kernel)) (byA eNcX7_add (p := 11) (v := 0) (by decide +kernel)) (byA eNcX7_add (p := 12) (v := 255) (by decide +kernel)) (by decide +kernel)
theorem dX7_add_13 : decode cX7_add 13 = .ok (.iand, 1) := dc_126 (byA eNcX7_add (p := 13) (v := 126) (by decide +kernel))
theorem dX7_add_14 : decode cX7_add 14 = .ok (.istore_n 3, 1) := dc_62 (byA eNcX7_add (p := 14) (v := 62) (by decide +kernel))
theorem dX7_add_15 : decode cX7_add 15 = .ok (.iload_n 3, 1) := dc_29 (byA eNcX7_add (p := 15) (v := 29) (by decide +kernel))
theorem dX7_add_16 : decode cX7_add 16 = .ok (.ifCond .eq 35, 3) := dc_153 (byA eNcX7_add (p := 16) (v := 153) (by decide +kernel)) (byA eNcX7_add (p := 17) (v := 0) (by decide +kernel)) (byA eNcX7_add (p := 18) (v := 35) (by decide +kernel)) (by decide +kernel)
theorem dX7_add_19 : decode cX7_add 19 = .ok (.aload_n 0, 1) := dc_42 (byA eNcX7_add (p := 19) (v := 42) (by decide +kernel))
theorem dX7_add_20 : decode cX7_add 20 = .ok (.getfield 15, 3) := dc_180 (byA eNcX7_add (p := 20) (v := 180) (by decide +kernel)) (byA eNcX7_add (p := 21) (v := 0) (by decide +kernel)) (byA eNcX7_add (p := 22) (v := 15) (by decide +kernel)) rfl
theorem dX7_add_23 : decode cX7_add 23 = .ok (.aload_n 0, 1) := dc_42 (byA eNcX7_add (p := 23) (v := 42) (by decide +kernel))
theorem dX7_add_24 : decode cX7_add 24 = .ok (.getfield 9, 3) := dc_180 (byA eNcX7_add (p := 24) (v := 180) (by decide +kernel)) (byA eNcX7_add (p := 25) (v := 0) (by decide +kernel)) (byA eNcX7_add (p := 26) (v := 9) (by decide +kernel)) rfl
theorem dX7_add_27 : decode cX7_add 27 = .ok (.arraylength, 1) := dc_190 (byA eNcX7_add (p := 27) (v := 190) (by decide +kernel))
theorem dX7_add_28 : decode cX7_add 28 = .ok (.if_icmp .ge 23, 3) := dc_162 (byA eNcX7_add (p := 28) (v := 162) (by decide +kernel)) (byA eNcX7_add (p := 29) (v := 0) (by decide +kernel)) (byA eNcX7_add (p := 30) (v := 23) (by decide +kernel)) (by decide +kernel)
theorem dX7_add_31 : decode cX7_add 31 = .ok (.aload_n 0, 1) := dc_42 (byA eNcX7_add (p := 31) (v := 42) (by decide +kernel))
theorem dX7_add_32 : decode cX7_add 32 = .ok (.getfield 9, 3) := dc_180 (byA eNcX7_add (p := 32) (v := 180) (by decide +kernel)) (byA eNcX7_add (p := 33) (v := 0) (by decide +kernel)) (byA eNcX7_add (p := 34) (v := 9) (by decide +kernel)) rfl
theorem dX7_add_35 : decode cX7_add 35 = .ok (.aload_n 0, 1) := dc_42 (byA eNcX7_add (p := 35) (v := 42) (by decide +kernel))
theorem dX7_add_36 : decode cX7_add 36 = .ok (.getfield 15, 3) := dc_180 (byA eNcX7_add (p := 36) (v := 180) (by decide +kernel)) (byA eNcX7_add (p := 37) (v := 0) (by decide +kernel)) (byA eNcX7_add (p := 38) (v := 15) (by decide +kernel)) rfl
theorem dX7_add_39 : decode cX7_add 39 = .ok (.iload_n 3, 1) := dc_29 (byA eNcX7_add (p := 39) (v := 29) (by decide +kernel))
theorem dX7_add_40 : decode cX7_add 40 = .ok (.iastore, 1) := dc_79 (byA eNcX7_add (p := 40) (v := 79) (by decide +kernel))
theorem dX7_add_41 : decode cX7_add 41 = .ok (.aload_n 0, 1) := dc_42 (byA eNcX7_add (p := 41) (v := 42) (by decide +kernel))
theorem dX7_add_42 : decode cX7_add 42 = .ok (.dup, 1) := dc_89 (byA eNcX7_add (p := 42) (v := 89) (by decide +kernel))
theorem dX7_add_43 : decode cX7_add 43 = .ok (.getfield 15, 3) := dc_180 (byA eNcX7_add (p := 43) (v := 180) (by decide +kernel)) (byA eNcX7_add (p := 44) (v := 0) (by decide +kernel)) (byA eNcX7_add (p := 45) (v := 15) (by decide +kernel)) rfl
theorem dX7_add_46 : decode cX7_add 46 = .ok (.iconst 1, 1) := dc_4 (byA eNcX7_add (p := 46) (v := 4) (by decide +kernel))
theorem dX7_add_47 : decode cX7_add 47 = .ok (.iadd, 1) := dc_96 (byA eNcX7_add (p := 47) (v := 96) (by decide +kernel))
theorem dX7_add_48 : decode cX7_add 48 = .ok (.putfield 15, 3) := dc_181 (byA eNcX7_add (p := 48) (v := 181) (by decide +kernel)) (byA eNcX7_add (p := 49) (v := 0) (by decide +kernel)) (byA eNcX7_add (p := 50) (v := 15) (by decide +kernel)) rfl
theorem dX7_add_51 : decode cX7_add 51 = .ok (.iinc 2 (-8), 3) := dc_132 (byA eNcX7_add (p := 51) (v := 132) (by decide +kernel)) (byA eNcX7_add (p := 52) (v := 2) (by decide +kernel)) (byA eNcX7_add (p := 53) (v := 248) (by decide +kernel)) (by decide +kernel)
theorem dX7_add_54 : decode cX7_add 54 = .ok (.goto (-51), 3) := dc_167 (byA eNcX7_add (p := 54) (v := 167) (by decide +kernel)) (byA eNcX7_add (p := 55) (v := 255) (by decide +kernel)) (byA eNcX7_add (p := 56) (v := 205) (by decide +kernel)) (by decide +kernel)
theorem dX7_add_57 : decode cX7_add 57 = .ok (.return_, 1) := dc_177 (byA eNcX7_add (p := 57) (v := 177) (by decide +kernel))
def X7_add_L3 (l0 : Nat) (l1 : Int) : Nat → Int → Mm → Rs
  | 0, _, _ => none
  | n + 1, l2, μ => if l2 < 0 then (some (0, μ)) else (lt_ (bA (bU l1 l2) 255) fun v2 => if v2 = 0 then (X7_add_L3 l0 l1 n (iA l2 (-8)) μ) else (if ((aN (l0 + 1) : Nat) : Int) ≤ (μ l0 1) then (X7_add_L3 l0 l1 n (iA l2 (-8)) μ) else (stA μ (l0 + 1) (μ l0 1) v2 fun μ5 => sF μ5 l0 1 (iA (μ5 l0 1) 1) fun μ7 => X7_add_L3 l0 l1 n (iA l2 (-8)) μ7)))
def X7_add (l0 : Nat) (l1 : Int) (μ : Mm) : Rs := X7_add_L3 l0 l1 FU 24 μ
set_option maxHeartbeats 4000000 in
set_option maxRecDepth 100000 in
theorem kX7_add_L3 (d : Nat) (hd : 1 ≤ d) {l0 : Nat} {l1 : Int} (hk0 : kD l0 = (17, 2)) {r : Int} {μ' : Mm} : ∀ (n : Nat) {l2 : Int} {μ : Mm}, X7_add_L3 l0 l1 n l2 μ = some (r, μ') → VV d mX7_add 3 [some (vR l0), some (vI l1), some (vI l2), none] [] μ r μ' := by
  intro n
  induction n with
  | zero => intro l2 μ h; rw [X7_add_L3] at h; cases h
  | succ n ih =>
    intro l2 μ h
    rw [X7_add_L3] at h
    refine V_iload_n (q := 4) dX7_add_3 rfl rfl rfl ?_
    refine V_iflt (q := 57) (q2 := 7) dX7_add_4 (by decide) rfl (fun hc1 => ?_) (fun hc1 => ?_)
    · have h := ifT hc1 h
      exact V_vret rfl h dX7_add_57
    · have h := ifF hc1 h
      refine V_iload_n (q := 8) dX7_add_7 rfl rfl rfl ?_
      refine V_iload_n (q := 9) dX7_add_8 rfl rfl rfl ?_
      refine V_iushr (q := 10) dX7_add_9 rfl ?_
      refine V_sipush (q := 13) dX7_add_10 rfl rfl rfl ?_
      refine V_iand (q := 14) dX7_add_13 rfl ?_
      have h := lt_i h
      refine V_istore_n (q := 15) dX7_add_14 rfl (Nat.le_of_ble_eq_true rfl) trivial rfl ?_
      refine V_iload_n (q := 16) dX7_add_15 rfl rfl rfl ?_
      refine V_ifeq (q := 51) (q2 := 19) dX7_add_16 (by decide) rfl (fun hc3 => ?_) (fun hc3 => ?_)
      · have h := ifT hc3 h
        refine V_iinc (q := 54) dX7_add_51 rfl (Nat.le_of_ble_eq_true rfl) trivial rfl ?_
        refine V_goto (q := 3) dX7_add_54 (by decide) ?_
        exact V_weak (ih h) (sb_s rfl (sb_s rfl (sb_s rfl (sb_n sb_0))))
      · have h := ifF hc3 h
        refine V_aload_n (q := 20) dX7_add_19 rfl rfl rfl ?_
        refine V_getI (q := 23) fl_X7_15 hk0 rfl rfl dX7_add_20 rfl ?_
        refine V_aload_n (q := 24) dX7_add_23 rfl rfl rfl ?_
        refine V_getO (q := 27) (t := _) fl_X7_9 hk0 rfl rfl rfl dX7_add_24 rfl ?_
        refine V_alen (q := 28) (kdo_7_0 hk0) dX7_add_27 rfl ?_
        refine V_icmpge (q := 51) (q2 := 31) dX7_add_28 (by decide) rfl (fun hc4 => ?_) (fun hc4 => ?_)
        · have h := ifT hc4 h
          refine V_iinc (q := 54) dX7_add_51 rfl (Nat.le_of_ble_eq_true rfl) trivial rfl ?_
          refine V_goto (q := 3) dX7_add_54 (by decide) ?_
          exact V_weak (ih h) (sb_s rfl (sb_s rfl (sb_s rfl (sb_n sb_0))))
        · have h := ifF hc4 h
          refine V_aload_n (q := 32) dX7_add_31 rfl rfl rfl ?_
          refine V_getO (q := 35) (t := _) fl_X7_9 hk0 rfl rfl rfl dX7_add_32 rfl ?_
          refine V_aload_n (q := 36) dX7_add_35 rfl rfl rfl ?_
          refine V_getI (q := 39) fl_X7_15 hk0 rfl rfl dX7_add_36 rfl ?_
          refine V_iload_n (q := 40) dX7_add_39 rfl rfl rfl ?_
          obtain ⟨hi6, h⟩ := stA_i h
          refine V_iastore (q := 41) (kdo_7_0 hk0) hi6 dX7_add_40 rfl ?_
          refine V_aload_n (q := 42) dX7_add_41 rfl rfl rfl ?_
          refine V_dup (q := 43) dX7_add_42 trivial rfl ?_
          refine V_getI (q := 46) fl_X7_15 hk0 rfl rfl dX7_add_43 rfl ?_
          refine V_iconst (q := 47) dX7_add_46 rfl rfl ?_
          refine V_iadd (q := 48) dX7_add_47 rfl ?_
          have h := sF_i h
          refine V_putI (q := 51) fl_X7_15 hk0 rfl rfl dX7_add_48 rfl ?_
          refine V_iinc (q := 54) dX7_add_51 rfl (Nat.le_of_ble_eq_true rfl) trivial rfl ?_
          refine V_goto (q := 3) dX7_add_54 (by decide) ?_
          exact V_weak (ih h) (sb_s rfl (sb_s rfl (sb_s rfl (sb_n sb_0))))
set_option maxHeartbeats 4000000 in
set_option maxRecDepth 100000 in
theorem kX7_add (d : Nat) (hd : 1 ≤ d) {l0 : Nat} {l1 : Int} (hk0 : kD l0 = (17, 2)) {μ : Mm} {r : Int} {μ' : Mm} (h : X7_add l0 l1 μ = some (r, μ')) : CC d mX7_add [vR l0, vI l1] μ r μ' := by
  unfold X7_add at h
  refine V_enter (by decide) (Nat.le_of_ble_eq_true rfl) ?_
  show VV d mX7_add 0 [some (vR l0), some (vI l1), none, none] [] μ r μ'
  refine V_bipush (q := 2) dX7_add_0 rfl rfl rfl ?_
  refine V_istore_n (q := 3) dX7_add_2 rfl (Nat.le_of_ble_eq_true rfl) trivial rfl ?_
  exact V_weak (kX7_add_L3 d hd hk0  FU h) (sb_s rfl (sb_s rfl (sb_s rfl (sb_n sb_0))))
abbrev mX7_cut : Mth := (yX7_cut, cX7_cut, 2, some .boolean)
set_option maxRecDepth 100000 in
theorem mi_X7_cut : Cond.instanceMethod yX7_cut ∈ tG ∧ Cond.selects yX7_cut.cls yX7_cut yX7_cut ∈ tG ∧ Cond.initialized yX7_cut.cls ∈ tG ∧ Cond.code yX7_cut cX7_cut 2 (some .boolean) ∈ tG ∧ (yX7_cut.cls ≠ "java/lang/invoke/MethodHandle" ∧ yX7_cut.cls ≠ "java/lang/invoke/VarHandle" ∧ (parseMethodDescriptor yX7_cut.desc).map (fun d => d.parameters.length) = some 1) ∧ 2 ≤ 60 := ⟨(tG_of (tb2 (List.mem_of_getElem? (i := 158) rfl)) (by decide +kernel)), (tG_of (tb2 (List.mem_of_getElem? (i := 159) rfl)) (by decide +kernel)), (tG_of (tb1 (List.mem_of_getElem? (i := 2) rfl)) (by decide +kernel)), (tG_of (tb2 (List.mem_of_getElem? (i := 160) rfl)) (by decide +kernel)), ⟨by decide, by decide, by decide +kernel⟩, by decide⟩
set_option maxRecDepth 100000 in
theorem mv_X10_119 : mV RX10 119 mX7_cut 1 := ⟨(tG_of (tb2 (List.mem_of_getElem? (i := 157) rfl)) (by decide +kernel)), mi_X7_cut⟩
theorem dX7_cut_0 : decode cX7_cut 0 = .ok (.iload_n 1, 1) := dc_27 (byA eNcX7_cut (p := 0) (v := 27) (by decide +kernel))
theorem dX7_cut_1 : decode cX7_cut 1 = .ok (.ifCond .lt 11, 3) := dc_155 (byA eNcX7_cut (p := 1) (v := 155) (by decide +kernel)) (byA eNcX7_cut (p := 2) (v := 0) (by decide +kernel)) (byA eNcX7_cut (p := 3) (v := 11) (by decide +kernel)) (by decide +kernel)
theorem dX7_cut_4 : decode cX7_cut 4 = .ok (.iload_n 1, 1) := dc_27 (byA eNcX7_cut (p := 4) (v := 27) (by decide +kernel))
theorem dX7_cut_5 : decode cX7_cut 5 = .ok (.aload_n 0, 1) := dc_42 (byA eNcX7_cut (p := 5) (v := 42) (by decide +kernel))
theorem dX7_cut_6 : decode cX7_cut 6 = .ok (.getfield 15, 3) := dc_180 (byA eNcX7_cut (p := 6) (v := 180) (by decide +kernel)) (byA eNcX7_cut (p := 7) (v := 0) (by decide +kernel)) (byA eNcX7_cut (p := 8) (v := 15) (by decide +kernel)) rfl
theorem dX7_cut_9 : decode cX7_cut 9 = .ok (.if_icmp .le 5, 3) := dc_164 (byA eNcX7_cut (p := 9) (v := 164) (by decide +kernel)) (byA eNcX7_cut (p := 10) (v := 0) (by decide +kernel)) (byA eNcX7_cut (p := 11) (v := 5) (by decide +kernel)) (by decide +kernel)
theorem dX7_cut_12 : decode cX7_cut 12 = .ok (.iconst 0, 1) := dc_3 (byA eNcX7_cut (p := 12) (v := 3) (by decide +kernel))
theorem dX7_cut_13 : decode cX7_cut 13 = .ok (.ireturn, 1) := dc_172 (byA eNcX7_cut (p := 13) (v := 172) (by decide +kernel))
theorem dX7_cut_14 : decode cX7_cut 14 = .ok (.aload_n 0, 1) := dc_42 (byA eNcX7_cut (p := 14) (v := 42) (by decide +kernel))
theorem dX7_cut_15 : decode cX7_cut 15 = .ok (.iload_n 1, 1) := dc_27 (byA eNcX7_cut (p := 15) (v := 27) (by decide +kernel))
theorem dX7_cut_16 : decode cX7_cut 16 = .ok (.putfield 15, 3) := dc_181 (byA eNcX7_cut (p := 16) (v := 181) (by decide +kernel)) (byA eNcX7_cut (p := 17) (v := 0) (by decide +kernel)) (byA eNcX7_cut (p := 18) (v := 15) (by decide +kernel)) rfl
theorem dX7_cut_19 : decode cX7_cut 19 = .ok (.iconst 1, 1) := dc_4 (byA eNcX7_cut (p := 19) (v := 4) (by decide +kernel))
theorem dX7_cut_20 : decode cX7_cut 20 = .ok (.ireturn, 1) := dc_172 (byA eNcX7_cut (p := 20) (v := 172) (by decide +kernel))
def X7_cut (l0 : Nat) (l1 : Int) (μ : Mm) : Rs := if l1 < 0 then (some (0, μ)) else (if l1 ≤ (μ l0 1) then (sF μ l0 1 l1 fun μ3 => some (1, μ3)) else (some (0, μ)))
set_option maxHeartbeats 4000000 in
set_option maxRecDepth 100000 in
theorem kX7_cut (d : Nat) (hd : 1 ≤ d) {l0 : Nat} {l1 : Int} (hk0 : kD l0 = (17, 2)) {μ : Mm} {r : Int} {μ' : Mm} (h : X7_cut l0 l1 μ = some (r, μ')) : CC d mX7_cut [vR l0, vI l1] μ r μ' := by
  unfold X7_cut at h
  refine V_enter (by decide) (Nat.le_of_ble_eq_true rfl) ?_
  show VV d mX7_cut 0 [some (vR l0), some (vI l1)] [] μ r μ'
  refine V_iload_n (q := 1) dX7_cut_0 rfl rfl rfl ?_
  refine V_iflt (q := 12) (q2 := 4) dX7_cut_1 (by decide) rfl (fun hc1 => ?_) (fun hc1 => ?_)
  · have h := ifT hc1 h
    refine V_iconst (q := 13) dX7_cut_12 rfl rfl ?_
    exact V_zret rfl (Or.inl rfl) h dX7_cut_13
  · have h := ifF hc1 h
    refine V_iload_n (q := 5) dX7_cut_4 rfl rfl rfl ?_
    refine V_aload_n (q := 6) dX7_cut_5 rfl rfl rfl ?_
    refine V_getI (q := 9) fl_X7_15 hk0 rfl rfl dX7_cut_6 rfl ?_
    refine V_icmple (q := 14) (q2 := 12) dX7_cut_9 (by decide) rfl (fun hc2 => ?_) (fun hc2 => ?_)
    · have h := ifT hc2 h
      refine V_aload_n (q := 15) dX7_cut_14 rfl rfl rfl ?_
      refine V_iload_n (q := 16) dX7_cut_15 rfl rfl rfl ?_
      have h := sF_i h
      refine V_putI (q := 19) fl_X7_15 hk0 rfl rfl dX7_cut_16 rfl ?_
      refine V_iconst (q := 20) dX7_cut_19 rfl rfl ?_
      exact V_zret rfl (Or.inr rfl) h dX7_cut_20
    · have h := ifF hc2 h
      refine V_iconst (q := 13) dX7_cut_12 rfl rfl ?_
      exact V_zret rfl (Or.inl rfl) h dX7_cut_13
abbrev mX7_copy : Mth := (yX7_copy, cX7_copy, 2, none)
set_option maxRecDepth 100000 in
theorem mi_X7_copy : Cond.instanceMethod yX7_copy ∈ tG ∧ Cond.selects yX7_copy.cls yX7_copy yX7_copy ∈ tG ∧ Cond.initialized yX7_copy.cls ∈ tG ∧ Cond.code yX7_copy cX7_copy 2 (none) ∈ tG ∧ (yX7_copy.cls ≠ "java/lang/invoke/MethodHandle" ∧ yX7_copy.cls ≠ "java/lang/invoke/VarHandle" ∧ (parseMethodDescriptor yX7_copy.desc).map (fun d => d.parameters.length) = some 1) ∧ 2 ≤ 60 := ⟨(tG_of (tb3 (List.mem_of_getElem? (i := 92) rfl)) (by decide +kernel)), (tG_of (tb3 (List.mem_of_getElem? (i := 93) rfl)) (by decide +kernel)), (tG_of (tb1 (List.mem_of_getElem? (i := 2) rfl)) (by decide +kernel)), (tG_of (tb3 (List.mem_of_getElem? (i := 94) rfl)) (by decide +kernel)), ⟨by decide, by decide, by decide +kernel⟩, by decide⟩
set_option maxRecDepth 100000 in
theorem mv_X10_165 : mV RX10 165 mX7_copy 1 := ⟨(tG_of (tb3 (List.mem_of_getElem? (i := 91) rfl)) (by decide +kernel)), mi_X7_copy⟩
theorem dX7_copy_0 : decode cX7_copy 0 = .ok (.aload_n 1, 1) := dc_43 (byA eNcX7_copy (p := 0) (v := 43) (by decide +kernel))
theorem dX7_copy_1 : decode cX7_copy 1 = .ok (.getfield 9, 3) := dc_180 (byA eNcX7_copy (p := 1) (v := 180) (by decide +kernel)) (byA eNcX7_copy (p := 2) (v := 0) (by decide +kernel)) (byA eNcX7_copy (p := 3) (v := 9) (by decide +kernel)) rfl
theorem dX7_copy_4 : decode cX7_copy 4 = .ok (.iconst 0, 1) := dc_3 (byA eNcX7_copy (p := 4) (v := 3) (by decide +kernel))
theorem dX7_copy_5 : decode cX7_copy 5 = .ok (.aload_n 0, 1) := dc_42 (byA eNcX7_copy (p := 5) (v := 42) (by decide +kernel))
theorem dX7_copy_6 : decode cX7_copy 6 = .ok (.getfield 9, 3) := dc_180 (byA eNcX7_copy (p := 6) (v := 180) (by decide +kernel)) (byA eNcX7_copy (p := 7) (v := 0) (by decide +kernel)) (byA eNcX7_copy (p := 8) (v := 9) (by decide +kernel)) rfl
theorem dX7_copy_9 : decode cX7_copy 9 = .ok (.iconst 0, 1) := dc_3 (byA eNcX7_copy (p := 9) (v := 3) (by decide +kernel))
theorem dX7_copy_10 : decode cX7_copy 10 = .ok (.sipush 160, 3) := dc_17 (byA eNcX7_copy (p := 10) (v := 17) (by decide +kernel)) (byA eNcX7_copy (p := 11) (v := 0) (by decide +kernel)) (byA eNcX7_copy (p := 12) (v := 160) (by decide +kernel)) (by decide +kernel)
theorem dX7_copy_13 : decode cX7_copy 13 = .ok (.invokestatic 19, 3) := dc_184 (byA eNcX7_copy (p := 13) (v := 184) (by decide +kernel)) (byA eNcX7_copy (p := 14) (v := 0) (by decide +kernel)) (byA eNcX7_copy (p := 15) (v := 19) (by decide +kernel)) rfl
theorem dX7_copy_16 : decode cX7_copy 16 = .ok (.aload_n 0, 1) := dc_42 (byA eNcX7_copy (p := 16) (v := 42) (by decide +kernel))
theorem dX7_copy_17 : decode cX7_copy 17 = .ok (.aload_n 1, 1) := dc_43 (byA eNcX7_copy (p := 17) (v := 43) (by decide +kernel))
theorem dX7_copy_18 : decode cX7_copy 18 = .ok (.getfield 15, 3) := dc_180 (byA eNcX7_copy (p := 18) (v := 180) (by decide +kernel)) (byA eNcX7_copy (p := 19) (v := 0) (by decide +kernel)) (byA eNcX7_copy (p := 20) (v := 15) (by decide +kernel)) rfl
theorem dX7_copy_21 : decode cX7_copy 21 = .ok (.putfield 15, 3) := dc_181 (byA eNcX7_copy (p := 21) (v := 181) (by decide +kernel)) (byA eNcX7_copy (p := 22) (v := 0) (by decide +kernel)) (byA eNcX7_copy (p := 23) (v := 15) (by decide +kernel)) rfl
theorem dX7_copy_24 : decode cX7_copy 24 = .ok (.return_, 1) := dc_177 (byA eNcX7_copy (p := 24) (v := 177) (by decide +kernel))
def X7_copy (l0 : Nat) (l1 : Nat) (μ : Mm) : Rs := cpA μ (l1 + 1) (l0 + 1) 160 fun μ1 => sF μ1 l0 1 (μ1 l1 1) fun μ3 => some (0, μ3)
set_option maxHeartbeats 4000000 in
set_option maxRecDepth 100000 in
theorem kX7_copy (d : Nat) (hd : 1 ≤ d) {l0 : Nat} {l1 : Nat} (hk0 : kD l0 = (17, 2)) (hk1 : kD l1 = (17, 2)) {μ : Mm} {r : Int} {μ' : Mm} (h : X7_copy l0 l1 μ = some (r, μ')) : CC d mX7_copy [vR l0, vR l1] μ r μ' := by
  unfold X7_copy at h
  refine V_enter (by decide) (Nat.le_of_ble_eq_true rfl) ?_
  show VV d mX7_copy 0 [some (vR l0), some (vR l1)] [] μ r μ'
  refine V_aload_n (q := 1) dX7_copy_0 rfl rfl rfl ?_
  refine V_getO (q := 4) (t := _) fl_X7_9 hk1 rfl rfl rfl dX7_copy_1 rfl ?_
  refine V_iconst (q := 5) dX7_copy_4 rfl rfl ?_
  refine V_aload_n (q := 6) dX7_copy_5 rfl rfl rfl ?_
  refine V_getO (q := 9) (t := _) fl_X7_9 hk0 rfl rfl rfl dX7_copy_6 rfl ?_
  refine V_iconst (q := 10) dX7_copy_9 rfl rfl ?_
  refine V_sipush (q := 13) dX7_copy_10 rfl rfl rfl ?_
  obtain ⟨hn2, h⟩ := cpA_i h
  refine V_copy (q := 16) mc_X7_19 (by omega) (kdo_7_0 hk1) (kdo_7_0 hk0) hn2 rfl dX7_copy_13 rfl ?_
  refine V_aload_n (q := 17) dX7_copy_16 rfl rfl rfl ?_
  refine V_aload_n (q := 18) dX7_copy_17 rfl rfl rfl ?_
  refine V_getI (q := 21) fl_X7_15 hk1 rfl rfl dX7_copy_18 rfl ?_
  have h := sF_i h
  refine V_putI (q := 24) fl_X7_15 hk0 rfl rfl dX7_copy_21 rfl ?_
  exact V_vret rfl h dX7_copy_24
abbrev mX8_add : Mth := (yX8_add, cX8_add, 3, some .boolean)
set_option maxRecDepth 100000 in
theorem mi_X8_add : Cond.instanceMethod yX8_add ∈ tG ∧ Cond.selects yX8_add.cls yX8_add yX8_add ∈ tG ∧ Cond.initialized yX8_add.cls ∈ tG ∧ Cond.code yX8_add cX8_add 3 (some .boolean) ∈ tG ∧ (yX8_add.cls ≠ "java/lang/invoke/MethodHandle" ∧ yX8_add.cls ≠ "java/lang/invoke/VarHandle" ∧ (parseMethodDescriptor yX8_add.desc).map (fun d => d.parameters.length) = some 2) ∧ 3 ≤ 60 := ⟨(tG_of (tb4 (List.mem_of_getElem? (i := 204) rfl)) (by decide +kernel)), (tG_of (tb4 (List.mem_of_getElem? (i := 205) rfl)) (by decide +kernel)), (tG_of (tb1 (List.mem_of_getElem? (i := 11) rfl)) (by decide +kernel)), (tG_of (tb4 (List.mem_of_getElem? (i := 206) rfl)) (by decide +kernel)), ⟨by decide, by decide, by decide +kernel⟩, by decide⟩
set_option maxRecDepth 100000 in
theorem mv_X10_353 : mV RX10 353 mX8_add 2 := ⟨(tG_of (tb4 (List.mem_of_getElem? (i := 203) rfl)) (by decide +kernel)), mi_X8_add⟩
theorem dX8_add_0 : decode cX8_add 0 = .ok (.aload_n 0, 1) := dc_42 (byA eNcX8_add (p := 0) (v := 42) (by decide +kernel))
theorem dX8_add_1 : decode cX8_add 1 = .ok (.getfield 22, 3) := dc_180 (byA eNcX8_add (p := 1) (v := 180) (by decide +kernel)) (byA eNcX8_add (p := 2) (v := 0) (by decide +kernel)) (byA eNcX8_add (p := 3) (v := 22) (by decide +kernel)) rfl
theorem dX8_add_4 : decode cX8_add 4 = .ok (.bipush 10, 2) := dc_16 (byA eNcX8_add (p := 4) (v := 16) (by decide +kernel)) (byA eNcX8_add (p := 5) (v := 10) (by decide +kernel)) (by decide +kernel)
theorem dX8_add_6 : decode cX8_add 6 = .ok (.if_icmp .lt 5, 3) := dc_161 (byA eNcX8_add (p := 6) (v := 161) (by decide +kernel)) (byA eNcX8_add (p := 7) (v := 0) (by decide +kernel)) (byA eNcX8_add (p := 8) (v := 5) (by decide +kernel)) (by decide +kernel)
theorem dX8_add_9 : decode cX8_add 9 = .ok (.iconst 0, 1) := dc_3 (byA eNcX8_add (p := 9) (v := 3) (by decide +kernel))
theorem dX8_add_10 : decode cX8_add 10 = .ok (.ireturn, 1) := dc_172 (byA eNcX8_add (p := 10) (v := 172) (by decide +kernel))
theorem dX8_add_11 : decode cX8_add 11 = .ok (.aload_n 0, 1) := dc_42 (byA eNcX8_add (p := 11) (v := 42) (by decide +kernel))
theorem dX8_add_12 : decode cX8_add 12 = .ok (.getfield 9, 3) := dc_180 (byA eNcX8_add (p := 12) (v := 180) (by decide +kernel)) (byA eNcX8_add (p := 13) (v := 0) (by decide +kernel)) (byA eNcX8_add (p := 14) (v := 9) (by decide +kernel)) rfl
theorem dX8_add_15 : decode cX8_add 15 = .ok (.aload_n 0, 1) := dc_42 (byA eNcX8_add (p := 15) (v := 42) (by decide +kernel))
theorem dX8_add_16 : decode cX8_add 16 = .ok (.getfield 22, 3) := dc_180 (byA eNcX8_add (p := 16) (v := 180) (by decide +kernel)) (byA eNcX8_add (p := 17) (v := 0) (by decide +kernel)) (byA eNcX8_add (p := 18) (v := 22) (by decide +kernel)) rfl
theorem dX8_add_19 : decode cX8_add 19 = .ok (.iload_n 1, 1) := dc_27 (byA eNcX8_add (p := 19) (v := 27) (by decide +kernel))
theorem dX8_add_20 : decode cX8_add 20 = .ok (.iastore, 1) := dc_79 (byA eNcX8_add (p := 20) (v := 79) (by decide +kernel))
theorem dX8_add_21 : decode cX8_add 21 = .ok (.aload_n 0, 1) := dc_42 (byA eNcX8_add (p := 21) (v := 42) (by decide +kernel))
theorem dX8_add_22 : decode cX8_add 22 = .ok (.getfield 15, 3) := dc_180 (byA eNcX8_add (p := 22) (v := 180) (by decide +kernel)) (byA eNcX8_add (p := 23) (v := 0) (by decide +kernel)) (byA eNcX8_add (p := 24) (v := 15) (by decide +kernel)) rfl
theorem dX8_add_25 : decode cX8_add 25 = .ok (.aload_n 0, 1) := dc_42 (byA eNcX8_add (p := 25) (v := 42) (by decide +kernel))
theorem dX8_add_26 : decode cX8_add 26 = .ok (.getfield 22, 3) := dc_180 (byA eNcX8_add (p := 26) (v := 180) (by decide +kernel)) (byA eNcX8_add (p := 27) (v := 0) (by decide +kernel)) (byA eNcX8_add (p := 28) (v := 22) (by decide +kernel)) rfl
theorem dX8_add_29 : decode cX8_add 29 = .ok (.iload_n 2, 1) := dc_28 (byA eNcX8_add (p := 29) (v := 28) (by decide +kernel))
theorem dX8_add_30 : decode cX8_add 30 = .ok (.iastore, 1) := dc_79 (byA eNcX8_add (p := 30) (v := 79) (by decide +kernel))
theorem dX8_add_31 : decode cX8_add 31 = .ok (.aload_n 0, 1) := dc_42 (byA eNcX8_add (p := 31) (v := 42) (by decide +kernel))
theorem dX8_add_32 : decode cX8_add 32 = .ok (.dup, 1) := dc_89 (byA eNcX8_add (p := 32) (v := 89) (by decide +kernel))
theorem dX8_add_33 : decode cX8_add 33 = .ok (.getfield 22, 3) := dc_180 (byA eNcX8_add (p := 33) (v := 180) (by decide +kernel)) (byA eNcX8_add (p := 34) (v := 0) (by decide +kernel)) (byA eNcX8_add (p := 35) (v := 22) (by decide +kernel)) rfl
theorem dX8_add_36 : decode cX8_add 36 = .ok (.iconst 1, 1) := dc_4 (byA eNcX8_add (p := 36) (v := 4) (by decide +kernel))
theorem dX8_add_37 : decode cX8_add 37 = .ok (.iadd, 1) := dc_96 (byA eNcX8_add (p := 37) (v := 96) (by decide +kernel))
theorem dX8_add_38 : decode cX8_add 38 = .ok (.putfield 22, 3) := dc_181 (byA eNcX8_add (p := 38) (v := 181) (by decide +kernel)) (byA eNcX8_add (p := 39) (v := 0) (by decide +kernel)) (byA eNcX8_add (p := 40) (v := 22) (by decide +kernel)) rfl
theorem dX8_add_41 : decode cX8_add 41 = .ok (.iconst 1, 1) := dc_4 (byA eNcX8_add (p := 41) (v := 4) (by decide +kernel))
theorem dX8_add_42 : decode cX8_add 42 = .ok (.ireturn, 1) := dc_172 (byA eNcX8_add (p := 42) (v := 172) (by decide +kernel))
def X8_add (l1 : Int) (l2 : Int) (μ : Mm) : Rs := if (μ 67 2) < 10 then (stA μ 68 (μ 67 2) l1 fun μ2 => stA μ2 69 (μ2 67 2) l2 fun μ4 => sF μ4 67 2 (iA (μ4 67 2) 1) fun μ6 => some (1, μ6)) else (some (0, μ))
set_option maxHeartbeats 4000000 in
set_option maxRecDepth 100000 in
theorem kX8_add (d : Nat) (hd : 1 ≤ d) {l1 : Int} {l2 : Int} {μ : Mm} {r : Int} {μ' : Mm} (h : X8_add l1 l2 μ = some (r, μ')) : CC d mX8_add [vR 67, vI l1, vI l2] μ r μ' := by
  unfold X8_add at h
  refine V_enter (by decide) (Nat.le_of_ble_eq_true rfl) ?_
  show VV d mX8_add 0 [some (vR 67), some (vI l1), some (vI l2)] [] μ r μ'
  refine V_aload_n (q := 1) dX8_add_0 rfl rfl rfl ?_
  refine V_getI (q := 4) fl_X8_22 rfl rfl rfl dX8_add_1 rfl ?_
  refine V_bipush (q := 6) dX8_add_4 rfl rfl rfl ?_
  refine V_icmplt (q := 11) (q2 := 9) dX8_add_6 (by decide) rfl (fun hc1 => ?_) (fun hc1 => ?_)
  · have h := ifT hc1 h
    refine V_aload_n (q := 12) dX8_add_11 rfl rfl rfl ?_
    refine V_getO (q := 15) (t := 68) fl_X8_9 rfl rfl rfl rfl dX8_add_12 rfl ?_
    refine V_aload_n (q := 16) dX8_add_15 rfl rfl rfl ?_
    refine V_getI (q := 19) fl_X8_22 rfl rfl rfl dX8_add_16 rfl ?_
    refine V_iload_n (q := 20) dX8_add_19 rfl rfl rfl ?_
    obtain ⟨hi3, h⟩ := stA_i h
    refine V_iastore (q := 21) rfl hi3 dX8_add_20 rfl ?_
    refine V_aload_n (q := 22) dX8_add_21 rfl rfl rfl ?_
    refine V_getO (q := 25) (t := 69) fl_X8_15 rfl rfl rfl rfl dX8_add_22 rfl ?_
    refine V_aload_n (q := 26) dX8_add_25 rfl rfl rfl ?_
    refine V_getI (q := 29) fl_X8_22 rfl rfl rfl dX8_add_26 rfl ?_
    refine V_iload_n (q := 30) dX8_add_29 rfl rfl rfl ?_
    obtain ⟨hi5, h⟩ := stA_i h
    refine V_iastore (q := 31) rfl hi5 dX8_add_30 rfl ?_
    refine V_aload_n (q := 32) dX8_add_31 rfl rfl rfl ?_
    refine V_dup (q := 33) dX8_add_32 trivial rfl ?_
    refine V_getI (q := 36) fl_X8_22 rfl rfl rfl dX8_add_33 rfl ?_
    refine V_iconst (q := 37) dX8_add_36 rfl rfl ?_
    refine V_iadd (q := 38) dX8_add_37 rfl ?_
    have h := sF_i h
    refine V_putI (q := 41) fl_X8_22 rfl rfl rfl dX8_add_38 rfl ?_
    refine V_iconst (q := 42) dX8_add_41 rfl rfl ?_
    exact V_zret rfl (Or.inr rfl) h dX8_add_42
  · have h := ifF hc1 h
    refine V_iconst (q := 10) dX8_add_9 rfl rfl ?_
    exact V_zret rfl (Or.inl rfl) h dX8_add_10
abbrev mX8_passesOver : Mth := (yX8_passesOver, cX8_passesOver, 4, some .boolean)
set_option maxRecDepth 100000 in
theorem mi_X8_passesOver : Cond.instanceMethod yX8_passesOver ∈ tG ∧ Cond.selects yX8_passesOver.cls yX8_passesOver yX8_passesOver ∈ tG ∧ Cond.initialized yX8_passesOver.cls ∈ tG ∧ Cond.code yX8_passesOver cX8_passesOver 4 (some .boolean) ∈ tG ∧ (yX8_passesOver.cls ≠ "java/lang/invoke/MethodHandle" ∧ yX8_passesOver.cls ≠ "java/lang/invoke/VarHandle" ∧ (parseMethodDescriptor yX8_passesOver.desc).map (fun d => d.parameters.length) = some 1) ∧ 4 ≤ 60 := ⟨(tG_of (tb4 (List.mem_of_getElem? (i := 222) rfl)) (by decide +kernel)), (tG_of (List.mem_of_getElem? (i := 39) (by decide +kernel)) (by decide +kernel)), (tG_of (tb1 (List.mem_of_getElem? (i := 11) rfl)) (by decide +kernel)), (tG_of (tb4 (List.mem_of_getElem? (i := 223) rfl)) (by decide +kernel)), ⟨by decide, by decide, by decide +kernel⟩, by decide⟩
set_option maxRecDepth 100000 in
theorem mv_X8_46 : mV RX8 46 mX8_passesOver 1 := ⟨(tG_of (tb4 (List.mem_of_getElem? (i := 220) rfl)) (by decide +kernel)), mi_X8_passesOver⟩
theorem dX8_passesOver_0 : decode cX8_passesOver 0 = .ok (.iconst 1, 1) := dc_4 (byA eNcX8_passesOver (p := 0) (v := 4) (by decide +kernel))
theorem dX8_passesOver_1 : decode cX8_passesOver 1 = .ok (.istore_n 2, 1) := dc_61 (byA eNcX8_passesOver (p := 1) (v := 61) (by decide +kernel))
theorem dX8_passesOver_2 : decode cX8_passesOver 2 = .ok (.iconst 2, 1) := dc_5 (byA eNcX8_passesOver (p := 2) (v := 5) (by decide +kernel))
theorem dX8_passesOver_3 : decode cX8_passesOver 3 = .ok (.istore_n 3, 1) := dc_62 (byA eNcX8_passesOver (p := 3) (v := 62) (by decide +kernel))
theorem dX8_passesOver_4 : decode cX8_passesOver 4 = .ok (.iload_n 3, 1) := dc_29 (byA eNcX8_passesOver (p := 4) (v := 29) (by decide +kernel))
theorem dX8_passesOver_5 : decode cX8_passesOver 5 = .ok (.iload_n 1, 1) := dc_27 (byA eNcX8_passesOver (p := 5) (v := 27) (by decide +kernel))
theorem dX8_passesOver_6 : decode cX8_passesOver 6 = .ok (.if_icmp .gt 13, 3) := dc_163 (byA eNcX8_passesOver (p := 6) (v := 163) (by decide +kernel)) (byA eNcX8_passesOver (p := 7) (v := 0) (by decide +kernel)) (byA eNcX8_passesOver (p := 8) (v := 13) (by decide +kernel)) (by decide +kernel)
theorem dX8_passesOver_9 : decode cX8_passesOver 9 = .ok (.iload_n 2, 1) := dc_28 (byA eNcX8_passesOver (p := 9) (v := 28) (by decide +kernel))
theorem dX8_passesOver_10 : decode cX8_passesOver 10 = .ok (.iload_n 3, 1) := dc_29 (byA eNcX8_passesOver (p := 10) (v := 29) (by decide +kernel))
theorem dX8_passesOver_11 : decode cX8_passesOver 11 = .ok (.imul, 1) := dc_104 (byA eNcX8_passesOver (p := 11) (v := 104) (by decide +kernel))
theorem dX8_passesOver_12 : decode cX8_passesOver 12 = .ok (.istore_n 2, 1) := dc_61 (byA eNcX8_passesOver (p := 12) (v := 61) (by decide +kernel))
theorem dX8_passesOver_13 : decode cX8_passesOver 13 = .ok (.iinc 3 1, 3) := dc_132 (byA eNcX8_passesOver (p := 13) (v := 132) (by decide +kernel)) (byA eNcX8_passesOver (p := 14) (v := 3) (by decide +kernel)) (byA eNcX8_passesOver (p := 15) (v := 1) (by decide +kernel)) (by decide +kernel)
theorem dX8_passesOver_16 : decode cX8_passesOver 16 = .ok (.goto (-12), 3) := dc_167 (byA eNcX8_passesOver (p := 16) (v := 167) (by decide +kernel)) (byA eNcX8_passesOver (p := 17) (v := 255) (by decide +kernel)) (byA eNcX8_passesOver (p := 18) (v := 244) (by decide +kernel)) (by decide +kernel)
theorem dX8_passesOver_19 : decode cX8_passesOver 19 = .ok (.aload_n 0, 1) := dc_42 (byA eNcX8_passesOver (p := 19) (v := 42) (by decide +kernel))
theorem dX8_passesOver_20 : decode cX8_passesOver 20 = .ok (.getfield 26, 3) := dc_180 (byA eNcX8_passesOver (p := 20) (v := 180) (by decide +kernel)) (byA eNcX8_passesOver (p := 21) (v := 0) (by decide +kernel)) (byA eNcX8_passesOver (p := 22) (v := 26) (by decide +kernel)) rfl
theorem dX8_passesOver_23 : decode cX8_passesOver 23 = .ok (.iconst (-1), 1) := dc_2 (byA eNcX8_passesOver (p := 23) (v := 2) (by decide +kernel))
theorem dX8_passesOver_24 : decode cX8_passesOver 24 = .ok (.if_icmp .eq 18, 3) := dc_159 (byA eNcX8_passesOver (p := 24) (v := 159) (by decide +kernel)) (byA eNcX8_passesOver (p := 25) (v := 0) (by decide +kernel)) (byA eNcX8_passesOver (p := 26) (v := 18) (by decide +kernel)) (by decide +kernel)
theorem dX8_passesOver_27 : decode cX8_passesOver 27 = .ok (.aload_n 0, 1) := dc_42 (byA eNcX8_passesOver (p := 27) (v := 42) (by decide +kernel))
theorem dX8_passesOver_28 : decode cX8_passesOver 28 = .ok (.getfield 26, 3) := dc_180 (byA eNcX8_passesOver (p := 28) (v := 180) (by decide +kernel)) (byA eNcX8_passesOver (p := 29) (v := 0) (by decide +kernel)) (byA eNcX8_passesOver (p := 30) (v := 26) (by decide +kernel)) rfl
theorem dX8_passesOver_31 : decode cX8_passesOver 31 = .ok (.aload_n 0, 1) := dc_42 (byA eNcX8_passesOver (p := 31) (v := 42) (by decide +kernel))
theorem dX8_passesOver_32 : decode cX8_passesOver 32 = .ok (.getfield 29, 3) := dc_180 (byA eNcX8_passesOver (p := 32) (v := 180) (by decide +kernel)) (byA eNcX8_passesOver (p := 33) (v := 0) (by decide +kernel)) (byA eNcX8_passesOver (p := 34) (v := 29) (by decide +kernel)) rfl
theorem dX8_passesOver_35 : decode cX8_passesOver 35 = .ok (.isub, 1) := dc_100 (byA eNcX8_passesOver (p := 35) (v := 100) (by decide +kernel))
theorem dX8_passesOver_36 : decode cX8_passesOver 36 = .ok (.iload_n 2, 1) := dc_28 (byA eNcX8_passesOver (p := 36) (v := 28) (by decide +kernel))
theorem dX8_passesOver_37 : decode cX8_passesOver 37 = .ok (.if_icmp .ge 5, 3) := dc_162 (byA eNcX8_passesOver (p := 37) (v := 162) (by decide +kernel)) (byA eNcX8_passesOver (p := 38) (v := 0) (by decide +kernel)) (byA eNcX8_passesOver (p := 39) (v := 5) (by decide +kernel)) (by decide +kernel)
theorem dX8_passesOver_40 : decode cX8_passesOver 40 = .ok (.iconst 0, 1) := dc_3 (byA eNcX8_passesOver (p := 40) (v := 3) (by decide +kernel))
theorem dX8_passesOver_41 : decode cX8_passesOver 41 = .ok (.ireturn, 1) := dc_172 (byA eNcX8_passesOver (p := 41) (v := 172) (by decide +kernel))
theorem dX8_passesOver_42 : decode cX8_passesOver 42 = .ok (.aload_n 0, 1) := dc_42 (byA eNcX8_passesOver (p := 42) (v := 42) (by decide +kernel))
theorem dX8_passesOver_43 : decode cX8_passesOver 43 = .ok (.dup, 1) := dc_89 (byA eNcX8_passesOver (p := 43) (v := 89) (by decide +kernel))
theorem dX8_passesOver_44 : decode cX8_passesOver 44 = .ok (.getfield 29, 3) := dc_180 (byA eNcX8_passesOver (p := 44) (v := 180) (by decide +kernel)) (byA eNcX8_passesOver (p := 45) (v := 0) (by decide +kernel)) (byA eNcX8_passesOver (p := 46) (v := 29) (by decide +kernel)) rfl
theorem dX8_passesOver_47 : decode cX8_passesOver 47 = .ok (.iload_n 2, 1) := dc_28 (byA eNcX8_passesOver (p := 47) (v := 28) (by decide +kernel))
theorem dX8_passesOver_48 : decode cX8_passesOver 48 = .ok (.iadd, 1) := dc_96 (byA eNcX8_passesOver (p := 48) (v := 96) (by decide +kernel))
theorem dX8_passesOver_49 : decode cX8_passesOver 49 = .ok (.putfield 29, 3) := dc_181 (byA eNcX8_passesOver (p := 49) (v := 181) (by decide +kernel)) (byA eNcX8_passesOver (p := 50) (v := 0) (by decide +kernel)) (byA eNcX8_passesOver (p := 51) (v := 29) (by decide +kernel)) rfl
theorem dX8_passesOver_52 : decode cX8_passesOver 52 = .ok (.iconst 1, 1) := dc_4 (byA eNcX8_passesOver (p := 52) (v := 4) (by decide +kernel))
theorem dX8_passesOver_53 : decode cX8_passesOver 53 = .ok (.ireturn, 1) := dc_172 (byA eNcX8_passesOver (p := 53) (v := 172) (by decide +kernel))
def X8_passesOver_L4 (l1 : Int) (k19 : Int → Mm → Rs) : Nat → Int → Int → Mm → Rs
  | 0, _, _, _ => none
  | n + 1, l2, l3, μ => if l1 < l3 then (k19 l2 μ) else (X8_passesOver_L4 l1 k19 n (iM l2 l3) (iA l3 1) μ)
def X8_passesOver (l1 : Int) (μ : Mm) : Rs := X8_passesOver_L4 l1 (fun v2 μ3 => if (μ3 67 4) = (-1) then (sF μ3 67 5 (iA (μ3 67 5) v2) fun μ5 => some (1, μ5)) else (if v2 ≤ (iS (μ3 67 4) (μ3 67 5)) then (sF μ3 67 5 (iA (μ3 67 5) v2) fun μ7 => some (1, μ7)) else (some (0, μ3)))) FU 1 2 μ
set_option maxHeartbeats 4000000 in
set_option maxRecDepth 100000 in
theorem kX8_passesOver_L4 (d : Nat) (hd : 1 ≤ d) {l1 : Int} {k19 : Int → Mm → Rs} {r : Int} {μ' : Mm} (hk_19 : ∀ (v2 : Int) (μ1 : Mm), k19 v2 μ1 = some (r, μ') → VV d mX8_passesOver 19 [some (vR 67), none, some (vI v2), none] [] μ1 r μ') : ∀ (n : Nat) {l2 l3 : Int} {μ : Mm}, X8_passesOver_L4 l1 k19 n l2 l3 μ = some (r, μ') → VV d mX8_passesOver 4 [some (vR 67), some (vI l1), some (vI l2), some (vI l3)] [] μ r μ' := by
  intro n
  induction n with
  | zero => intro l2 l3 μ h; rw [X8_passesOver_L4] at h; cases h
  | succ n ih =>
    intro l2 l3 μ h
    rw [X8_passesOver_L4] at h
    refine V_iload_n (q := 5) dX8_passesOver_4 rfl rfl rfl ?_
    refine V_iload_n (q := 6) dX8_passesOver_5 rfl rfl rfl ?_
    refine V_icmpgt (q := 19) (q2 := 9) dX8_passesOver_6 (by decide) rfl (fun hc1 => ?_) (fun hc1 => ?_)
    · have h := ifT hc1 h
      exact V_weak (hk_19 _ _ h) (sb_s rfl (sb_n (sb_s rfl (sb_n sb_0))))
    · have h := ifF hc1 h
      refine V_iload_n (q := 10) dX8_passesOver_9 rfl rfl rfl ?_
      refine V_iload_n (q := 11) dX8_passesOver_10 rfl rfl rfl ?_
      refine V_imul (q := 12) dX8_passesOver_11 rfl ?_
      refine V_istore_n (q := 13) dX8_passesOver_12 rfl (Nat.le_of_ble_eq_true rfl) trivial rfl ?_
      refine V_iinc (q := 16) dX8_passesOver_13 rfl (Nat.le_of_ble_eq_true rfl) trivial rfl ?_
      refine V_goto (q := 4) dX8_passesOver_16 (by decide) ?_
      exact V_weak (ih h) (sb_s rfl (sb_s rfl (sb_s rfl (sb_s rfl sb_0))))
set_option maxHeartbeats 4000000 in
set_option maxRecDepth 100000 in
theorem kX8_passesOver (d : Nat) (hd : 1 ≤ d) {l1 : Int} {μ : Mm} {r : Int} {μ' : Mm} (h : X8_passesOver l1 μ = some (r, μ')) : CC d mX8_passesOver [vR 67, vI l1] μ r μ' := by
  unfold X8_passesOver at h
  refine V_enter (by decide) (Nat.le_of_ble_eq_true rfl) ?_
  show VV d mX8_passesOver 0 [some (vR 67), some (vI l1), none, none] [] μ r μ'
  refine V_iconst (q := 1) dX8_passesOver_0 rfl rfl ?_
  refine V_istore_n (q := 2) dX8_passesOver_1 rfl (Nat.le_of_ble_eq_true rfl) trivial rfl ?_
  refine V_iconst (q := 3) dX8_passesOver_2 rfl rfl ?_
  refine V_istore_n (q := 4) dX8_passesOver_3 rfl (Nat.le_of_ble_eq_true rfl) trivial rfl ?_
  refine V_weak (kX8_passesOver_L4 d hd (fun v2 μ3 h => ?_) FU h) (sb_s rfl (sb_s rfl (sb_s rfl (sb_s rfl sb_0))))
  refine V_aload_n (q := 20) dX8_passesOver_19 rfl rfl rfl ?_
  refine V_getI (q := 23) fl_X8_26 rfl rfl rfl dX8_passesOver_20 rfl ?_
  refine V_iconst (q := 24) dX8_passesOver_23 rfl rfl ?_
  refine V_icmpeq (q := 42) (q2 := 27) dX8_passesOver_24 (by decide) rfl (fun hc4 => ?_) (fun hc4 => ?_)
  · have h := ifT hc4 h
    refine V_aload_n (q := 43) dX8_passesOver_42 rfl rfl rfl ?_
    refine V_dup (q := 44) dX8_passesOver_43 trivial rfl ?_
    refine V_getI (q := 47) fl_X8_29 rfl rfl rfl dX8_passesOver_44 rfl ?_
    refine V_iload_n (q := 48) dX8_passesOver_47 rfl rfl rfl ?_
    refine V_iadd (q := 49) dX8_passesOver_48 rfl ?_
    have h := sF_i h
    refine V_putI (q := 52) fl_X8_29 rfl rfl rfl dX8_passesOver_49 rfl ?_
    refine V_iconst (q := 53) dX8_passesOver_52 rfl rfl ?_
    exact V_zret rfl (Or.inr rfl) h dX8_passesOver_53
  · have h := ifF hc4 h
    refine V_aload_n (q := 28) dX8_passesOver_27 rfl rfl rfl ?_
    refine V_getI (q := 31) fl_X8_26 rfl rfl rfl dX8_passesOver_28 rfl ?_
    refine V_aload_n (q := 32) dX8_passesOver_31 rfl rfl rfl ?_
    refine V_getI (q := 35) fl_X8_29 rfl rfl rfl dX8_passesOver_32 rfl ?_
    refine V_isub (q := 36) dX8_passesOver_35 rfl ?_
    refine V_iload_n (q := 37) dX8_passesOver_36 rfl rfl rfl ?_
    refine V_icmpge (q := 42) (q2 := 40) dX8_passesOver_37 (by decide) rfl (fun hc6 => ?_) (fun hc6 => ?_)
    · have h := ifT hc6 h
      refine V_aload_n (q := 43) dX8_passesOver_42 rfl rfl rfl ?_
      refine V_dup (q := 44) dX8_passesOver_43 trivial rfl ?_
      refine V_getI (q := 47) fl_X8_29 rfl rfl rfl dX8_passesOver_44 rfl ?_
      refine V_iload_n (q := 48) dX8_passesOver_47 rfl rfl rfl ?_
      refine V_iadd (q := 49) dX8_passesOver_48 rfl ?_
      have h := sF_i h
      refine V_putI (q := 52) fl_X8_29 rfl rfl rfl dX8_passesOver_49 rfl ?_
      refine V_iconst (q := 53) dX8_passesOver_52 rfl rfl ?_
      exact V_zret rfl (Or.inr rfl) h dX8_passesOver_53
    · have h := ifF hc6 h
      refine V_iconst (q := 41) dX8_passesOver_40 rfl rfl ?_
      exact V_zret rfl (Or.inl rfl) h dX8_passesOver_41
abbrev mX8_heardAt : Mth := (yX8_heardAt, cX8_heardAt, 6, some .int)
set_option maxRecDepth 100000 in
theorem mi_X8_heardAt : Cond.instanceMethod yX8_heardAt ∈ tG ∧ Cond.selects yX8_heardAt.cls yX8_heardAt yX8_heardAt ∈ tG ∧ Cond.initialized yX8_heardAt.cls ∈ tG ∧ Cond.code yX8_heardAt cX8_heardAt 6 (some .int) ∈ tG ∧ (yX8_heardAt.cls ≠ "java/lang/invoke/MethodHandle" ∧ yX8_heardAt.cls ≠ "java/lang/invoke/VarHandle" ∧ (parseMethodDescriptor yX8_heardAt.desc).map (fun d => d.parameters.length) = some 3) ∧ 6 ≤ 60 := ⟨(tG_of (tb4 (List.mem_of_getElem? (i := 232) rfl)) (by decide +kernel)), (tG_of (List.mem_of_getElem? (i := 41) (by decide +kernel)) (by decide +kernel)), (tG_of (tb1 (List.mem_of_getElem? (i := 11) rfl)) (by decide +kernel)), (tG_of (tb4 (List.mem_of_getElem? (i := 233) rfl)) (by decide +kernel)), ⟨by decide, by decide, by decide +kernel⟩, by decide⟩
set_option maxRecDepth 100000 in
theorem mv_X8_62 : mV RX8 62 mX8_heardAt 3 := ⟨(tG_of (tb4 (List.mem_of_getElem? (i := 230) rfl)) (by decide +kernel)), mi_X8_heardAt⟩
theorem dX8_heardAt_0 : decode cX8_heardAt 0 = .ok (.iconst 0, 1) := dc_3 (byA eNcX8_heardAt (p := 0) (v := 3) (by decide +kernel))
theorem dX8_heardAt_1 : decode cX8_heardAt 1 = .ok (.istore 4, 2) := dc_54 (byA eNcX8_heardAt (p := 1) (v := 54) (by decide +kernel)) (byA eNcX8_heardAt (p := 2) (v := 4) (by decide +kernel))
theorem dX8_heardAt_3 : decode cX8_heardAt 3 = .ok (.iconst 0, 1) := dc_3 (byA eNcX8_heardAt (p := 3) (v := 3) (by decide +kernel))
theorem dX8_heardAt_4 : decode cX8_heardAt 4 = .ok (.istore 5, 2) := dc_54 (byA eNcX8_heardAt (p := 4) (v := 54) (by decide +kernel)) (byA eNcX8_heardAt (p := 5) (v := 5) (by decide +kernel))
theorem dX8_heardAt_6 : decode cX8_heardAt 6 = .ok (.iload 5, 2) := dc_21 (byA eNcX8_heardAt (p := 6) (v := 21) (by decide +kernel)) (byA eNcX8_heardAt (p := 7) (v := 5) (by decide +kernel))
theorem dX8_heardAt_8 : decode cX8_heardAt 8 = .ok (.aload_n 0, 1) := dc_42 (byA eNcX8_heardAt (p := 8) (v := 42) (by decide +kernel))
theorem dX8_heardAt_9 : decode cX8_heardAt 9 = .ok (.getfield 22, 3) := dc_180 (byA eNcX8_heardAt (p := 9) (v := 180) (by decide +kernel)) (byA eNcX8_heardAt (p := 10) (v := 0) (by decide +kernel)) (byA eNcX8_heardAt (p := 11) (v := 22) (by decide +kernel)) rfl
theorem dX8_heardAt_12 : decode cX8_heardAt 12 = .ok (.if_icmp .ge 51, 3) := dc_162 (byA eNcX8_heardAt (p := 12) (v := 162) (by decide +kernel)) (byA eNcX8_heardAt (p := 13) (v := 0) (by decide +kernel)) (byA eNcX8_heardAt (p := 14) (v := 51) (by decide +kernel)) (by decide +kernel)
theorem dX8_heardAt_15 : decode cX8_heardAt 15 = .ok (.aload_n 0, 1) := dc_42 (byA eNcX8_heardAt (p := 15) (v := 42) (by decide +kernel))
theorem dX8_heardAt_16 : decode cX8_heardAt 16 = .ok (.getfield 15, 3) := dc_180 (byA eNcX8_heardAt (p := 16) (v := 180) (by decide +kernel)) (byA eNcX8_heardAt (p := 17) (v := 0) (by decide +kernel)) (byA eNcX8_heardAt (p := 18) (v := 15) (by decide +kernel)) rfl
theorem dX8_heardAt_19 : decode cX8_heardAt 19 = .ok (.iload 5, 2) := dc_21 (byA eNcX8_heardAt (p := 19) (v := 21) (by decide +kernel)) (byA eNcX8_heardAt (p := 20) (v := 5) (by decide +kernel))
theorem dX8_heardAt_21 : decode cX8_heardAt 21 = .ok (.iaload, 1) := dc_46 (byA eNcX8_heardAt (p := 21) (v := 46) (by decide +kernel))
theorem dX8_heardAt_22 : decode cX8_heardAt 22 = .ok (.iload_n 1, 1) := dc_27 (byA eNcX8_heardAt (p := 22) (v := 27) (by decide +kernel))
theorem dX8_heardAt_23 : decode cX8_heardAt 23 = .ok (.if_icmp .ne 34, 3) := dc_160 (byA eNcX8_heardAt (p := 23) (v := 160) (by decide +kernel)) (byA eNcX8_heardAt (p := 24) (v := 0) (by decide +kernel)) (byA eNcX8_heardAt (p := 25) (v := 34) (by decide +kernel)) (by decide +kernel)
theorem dX8_heardAt_26 : decode cX8_heardAt 26 = .ok (.iload_n 2, 1) := dc_28 (byA eNcX8_heardAt (p := 26) (v := 28) (by decide +kernel))
theorem dX8_heardAt_27 : decode cX8_heardAt 27 = .ok (.aload_n 0, 1) := dc_42 (byA eNcX8_heardAt (p := 27) (v := 42) (by decide +kernel))
theorem dX8_heardAt_28 : decode cX8_heardAt 28 = .ok (.getfield 9, 3) := dc_180 (byA eNcX8_heardAt (p := 28) (v := 180) (by decide +kernel)) (byA eNcX8_heardAt (p := 29) (v := 0) (by decide +kernel)) (byA eNcX8_heardAt (p := 30) (v := 9) (by decide +kernel)) rfl
theorem dX8_heardAt_31 : decode cX8_heardAt 31 = .ok (.iload 5, 2) := dc_21 (byA eNcX8_heardAt (p := 31) (v := 21) (by decide +kernel)) (byA eNcX8_heardAt (p := 32) (v := 5) (by decide +kernel))
theorem dX8_heardAt_33 : decode cX8_heardAt 33 = .ok (.iaload, 1) := dc_46 (byA eNcX8_heardAt (p := 33) (v := 46) (by decide +kernel))
theorem dX8_heardAt_34 : decode cX8_heardAt 34 = .ok (.if_icmp .gt 23, 3) := dc_163 (byA eNcX8_heardAt (p := 34) (v := 163) (by decide +kernel)) (byA eNcX8_heardAt (p := 35) (v := 0) (by decide +kernel)) (byA eNcX8_heardAt (p := 36) (v := 23) (by decide +kernel)) (by decide +kernel)
theorem dX8_heardAt_37 : decode cX8_heardAt 37 = .ok (.aload_n 0, 1) := dc_42 (byA eNcX8_heardAt (p := 37) (v := 42) (by decide +kernel))
theorem dX8_heardAt_38 : decode cX8_heardAt 38 = .ok (.getfield 9, 3) := dc_180 (byA eNcX8_heardAt (p := 38) (v := 180) (by decide +kernel)) (byA eNcX8_heardAt (p := 39) (v := 0) (by decide +kernel)) (byA eNcX8_heardAt (p := 40) (v := 9) (by decide +kernel)) rfl
theorem dX8_heardAt_41 : decode cX8_heardAt 41 = .ok (.iload 5, 2) := dc_21 (byA eNcX8_heardAt (p := 41) (v := 21) (by decide +kernel)) (byA eNcX8_heardAt (p := 42) (v := 5) (by decide +kernel))
theorem dX8_heardAt_43 : decode cX8_heardAt 43 = .ok (.iaload, 1) := dc_46 (byA eNcX8_heardAt (p := 43) (v := 46) (by decide +kernel))
theorem dX8_heardAt_44 : decode cX8_heardAt 44 = .ok (.iload_n 3, 1) := dc_29 (byA eNcX8_heardAt (p := 44) (v := 29) (by decide +kernel))
theorem dX8_heardAt_45 : decode cX8_heardAt 45 = .ok (.if_icmp .gt 12, 3) := dc_163 (byA eNcX8_heardAt (p := 45) (v := 163) (by decide +kernel)) (byA eNcX8_heardAt (p := 46) (v := 0) (by decide +kernel)) (byA eNcX8_heardAt (p := 47) (v := 12) (by decide +kernel)) (by decide +kernel)
theorem dX8_heardAt_48 : decode cX8_heardAt 48 = .ok (.iload 4, 2) := dc_21 (byA eNcX8_heardAt (p := 48) (v := 21) (by decide +kernel)) (byA eNcX8_heardAt (p := 49) (v := 4) (by decide +kernel))
theorem dX8_heardAt_50 : decode cX8_heardAt 50 = .ok (.iconst 1, 1) := dc_4 (byA eNcX8_heardAt (p := 50) (v := 4) (by decide +kernel))
theorem dX8_heardAt_51 : decode cX8_heardAt 51 = .ok (.iload 5, 2) := dc_21 (byA eNcX8_heardAt (p := 51) (v := 21) (by decide +kernel)) (byA eNcX8_heardAt (p := 52) (v := 5) (by decide +kernel))
theorem dX8_heardAt_53 : decode cX8_heardAt 53 = .ok (.ishl, 1) := dc_120 (byA eNcX8_heardAt (p := 53) (v := 120) (by decide +kernel))
theorem dX8_heardAt_54 : decode cX8_heardAt 54 = .ok (.ior, 1) := dc_128 (byA eNcX8_heardAt (p := 54) (v := 128) (by decide +kernel))
theorem dX8_heardAt_55 : decode cX8_heardAt 55 = .ok (.istore 4, 2) := dc_54 (byA eNcX8_heardAt (p := 55) (v := 54) (by decide +kernel)) (byA eNcX8_heardAt (p := 56) (v := 4) (by decide +kernel))
theorem dX8_heardAt_57 : decode cX8_heardAt 57 = .ok (.iinc 5 1, 3) := dc_132 (byA eNcX8_heardAt (p := 57) (v := 132) (by decide +kernel)) (byA eNcX8_heardAt (p := 58) (v := 5) (by decide +kernel)) (byA eNcX8_heardAt (p := 59) (v := 1) (by decide +kernel)) (by decide +kernel)
theorem dX8_heardAt_60 : decode cX8_heardAt 60 = .ok (.goto (-54), 3) := dc_167 (byA eNcX8_heardAt (p := 60) (v := 167) (by decide +kernel)) (byA eNcX8_heardAt (p := 61) (v := 255) (by decide +kernel)) (byA eNcX8_heardAt (p := 62) (v := 202) (by decide +kernel)) (by decide +kernel)
theorem dX8_heardAt_63 : decode cX8_heardAt 63 = .ok (.iload 4, 2) := dc_21 (byA eNcX8_heardAt (p := 63) (v := 21) (by decide +kernel)) (byA eNcX8_heardAt (p := 64) (v := 4) (by decide +kernel))
theorem dX8_heardAt_65 : decode cX8_heardAt 65 = .ok (.ireturn, 1) := dc_172 (byA eNcX8_heardAt (p := 65) (v := 172) (by decide +kernel))
def X8_heardAt_L6 (l1 : Int) (l2 : Int) (l3 : Int) : Nat → Int → Int → Mm → Rs
  | 0, _, _, _ => none
  | n + 1, l4, l5, μ => if (μ 67 2) ≤ l5 then (some (l4, μ)) else (ldA μ 69 l5 fun v2 => if v2 = l1 then (ldA μ 68 l5 fun v5 => if v5 < l2 then (X8_heardAt_L6 l1 l2 l3 n l4 (iA l5 1) μ) else (ldA μ 68 l5 fun v8 => if l3 < v8 then (X8_heardAt_L6 l1 l2 l3 n l4 (iA l5 1) μ) else (lt_ (bO l4 (bL 1 l5)) fun v11 => X8_heardAt_L6 l1 l2 l3 n v11 (iA l5 1) μ))) else (X8_heardAt_L6 l1 l2 l3 n l4 (iA l5 1) μ))
def X8_heardAt (l1 : Int) (l2 : Int) (l3 : Int) (μ : Mm) : Rs := X8_heardAt_L6 l1 l2 l3 FU 0 0 μ
set_option maxHeartbeats 4000000 in
set_option maxRecDepth 100000 in
theorem kX8_heardAt_L6 (d : Nat) (hd : 1 ≤ d) {l1 : Int} {l2 : Int} {l3 : Int} {r : Int} {μ' : Mm} : ∀ (n : Nat) {l4 l5 : Int} {μ : Mm}, X8_heardAt_L6 l1 l2 l3 n l4 l5 μ = some (r, μ') → VV d mX8_heardAt 6 [some (vR 67), some (vI l1), some (vI l2), some (vI l3), some (vI l4), some (vI l5)] [] μ r μ' := by
  intro n
  induction n with
  | zero => intro l4 l5 μ h; rw [X8_heardAt_L6] at h; cases h
  | succ n ih =>
    intro l4 l5 μ h
    rw [X8_heardAt_L6] at h
    refine V_iload (q := 8) dX8_heardAt_6 rfl rfl ?_
    refine V_aload_n (q := 9) dX8_heardAt_8 rfl rfl rfl ?_
    refine V_getI (q := 12) fl_X8_22 rfl rfl rfl dX8_heardAt_9 rfl ?_
    refine V_icmpge (q := 63) (q2 := 15) dX8_heardAt_12 (by decide) rfl (fun hc1 => ?_) (fun hc1 => ?_)
    · have h := ifT hc1 h
      refine V_iload (q := 65) dX8_heardAt_63 rfl rfl ?_
      exact V_iret rfl h dX8_heardAt_65
    · have h := ifF hc1 h
      refine V_aload_n (q := 16) dX8_heardAt_15 rfl rfl rfl ?_
      refine V_getO (q := 19) (t := 69) fl_X8_15 rfl rfl rfl rfl dX8_heardAt_16 rfl ?_
      refine V_iload (q := 21) dX8_heardAt_19 rfl rfl ?_
      obtain ⟨hi3, h⟩ := ldA_i h
      refine V_iaload (q := 22) rfl hi3 dX8_heardAt_21 rfl ?_
      refine V_iload_n (q := 23) dX8_heardAt_22 rfl rfl rfl ?_
      refine V_icmpne (q := 57) (q2 := 26) dX8_heardAt_23 (by decide) rfl (fun hc4 => ?_) (fun hc4 => ?_)
      · have h := ifF hc4 h
        refine V_iinc (q := 60) dX8_heardAt_57 rfl (Nat.le_of_ble_eq_true rfl) trivial rfl ?_
        refine V_goto (q := 6) dX8_heardAt_60 (by decide) ?_
        exact V_weak (ih h) (sb_s rfl (sb_s rfl (sb_s rfl (sb_s rfl (sb_s rfl (sb_s rfl sb_0))))))
      · have h := ifT hc4 h
        refine V_iload_n (q := 27) dX8_heardAt_26 rfl rfl rfl ?_
        refine V_aload_n (q := 28) dX8_heardAt_27 rfl rfl rfl ?_
        refine V_getO (q := 31) (t := 68) fl_X8_9 rfl rfl rfl rfl dX8_heardAt_28 rfl ?_
        refine V_iload (q := 33) dX8_heardAt_31 rfl rfl ?_
        obtain ⟨hi6, h⟩ := ldA_i h
        refine V_iaload (q := 34) rfl hi6 dX8_heardAt_33 rfl ?_
        refine V_icmpgt (q := 57) (q2 := 37) dX8_heardAt_34 (by decide) rfl (fun hc7 => ?_) (fun hc7 => ?_)
        · have h := ifT hc7 h
          refine V_iinc (q := 60) dX8_heardAt_57 rfl (Nat.le_of_ble_eq_true rfl) trivial rfl ?_
          refine V_goto (q := 6) dX8_heardAt_60 (by decide) ?_
          exact V_weak (ih h) (sb_s rfl (sb_s rfl (sb_s rfl (sb_s rfl (sb_s rfl (sb_s rfl sb_0))))))
        · have h := ifF hc7 h
          refine V_aload_n (q := 38) dX8_heardAt_37 rfl rfl rfl ?_
          refine V_getO (q := 41) (t := 68) fl_X8_9 rfl rfl rfl rfl dX8_heardAt_38 rfl ?_
          refine V_iload (q := 43) dX8_heardAt_41 rfl rfl ?_
          obtain ⟨hi9, h⟩ := ldA_i h
          refine V_iaload (q := 44) rfl hi9 dX8_heardAt_43 rfl ?_
          refine V_iload_n (q := 45) dX8_heardAt_44 rfl rfl rfl ?_
          refine V_icmpgt (q := 57) (q2 := 48) dX8_heardAt_45 (by decide) rfl (fun hc10 => ?_) (fun hc10 => ?_)
          · have h := ifT hc10 h
            refine V_iinc (q := 60) dX8_heardAt_57 rfl (Nat.le_of_ble_eq_true rfl) trivial rfl ?_
            refine V_goto (q := 6) dX8_heardAt_60 (by decide) ?_
            exact V_weak (ih h) (sb_s rfl (sb_s rfl (sb_s rfl (sb_s rfl (sb_s rfl (sb_s rfl sb_0))))))
          · have h := ifF hc10 h
            refine V_iload (q := 50) dX8_heardAt_48 rfl rfl ?_
            refine V_iconst (q := 51) dX8_heardAt_50 rfl rfl ?_
            refine V_iload (q := 53) dX8_heardAt_51 rfl rfl ?_
            refine V_ishl (q := 54) dX8_heardAt_53 rfl ?_
            refine V_ior (q := 55) dX8_heardAt_54 rfl ?_
            have h := lt_i h
            refine V_istore (q := 57) dX8_heardAt_55 (Nat.le_of_ble_eq_true rfl) trivial rfl ?_
            refine V_iinc (q := 60) dX8_heardAt_57 rfl (Nat.le_of_ble_eq_true rfl) trivial rfl ?_
            refine V_goto (q := 6) dX8_heardAt_60 (by decide) ?_
            exact V_weak (ih h) (sb_s rfl (sb_s rfl (sb_s rfl (sb_s rfl (sb_s rfl (sb_s rfl sb_0))))))
set_option maxHeartbeats 4000000 in
set_option maxRecDepth 100000 in
theorem kX8_heardAt (d : Nat) (hd : 1 ≤ d) {l1 : Int} {l2 : Int} {l3 : Int} {μ : Mm} {r : Int} {μ' : Mm} (h : X8_heardAt l1 l2 l3 μ = some (r, μ')) : CC d mX8_heardAt [vR 67, vI l1, vI l2, vI l3] μ r μ' := by
  unfold X8_heardAt at h
  refine V_enter (by decide) (Nat.le_of_ble_eq_true rfl) ?_
  show VV d mX8_heardAt 0 [some (vR 67), some (vI l1), some (vI l2), some (vI l3), none, none] [] μ r μ'
  refine V_iconst (q := 1) dX8_heardAt_0 rfl rfl ?_
  refine V_istore (q := 3) dX8_heardAt_1 (Nat.le_of_ble_eq_true rfl) trivial rfl ?_
  refine V_iconst (q := 4) dX8_heardAt_3 rfl rfl ?_
  refine V_istore (q := 6) dX8_heardAt_4 (Nat.le_of_ble_eq_true rfl) trivial rfl ?_
  exact V_weak (kX8_heardAt_L6 d hd  FU h) (sb_s rfl (sb_s rfl (sb_s rfl (sb_s rfl (sb_s rfl (sb_s rfl sb_0))))))
abbrev mX8_isMissed : Mth := (yX8_isMissed, cX8_isMissed, 4, some .boolean)
set_option maxRecDepth 100000 in
theorem mi_X8_isMissed : Cond.instanceMethod yX8_isMissed ∈ tG ∧ Cond.selects yX8_isMissed.cls yX8_isMissed yX8_isMissed ∈ tG ∧ Cond.initialized yX8_isMissed.cls ∈ tG ∧ Cond.code yX8_isMissed cX8_isMissed 4 (some .boolean) ∈ tG ∧ (yX8_isMissed.cls ≠ "java/lang/invoke/MethodHandle" ∧ yX8_isMissed.cls ≠ "java/lang/invoke/VarHandle" ∧ (parseMethodDescriptor yX8_isMissed.desc).map (fun d => d.parameters.length) = some 2) ∧ 4 ≤ 60 := ⟨(tG_of (tb4 (List.mem_of_getElem? (i := 236) rfl)) (by decide +kernel)), (tG_of (List.mem_of_getElem? (i := 42) (by decide +kernel)) (by decide +kernel)), (tG_of (tb1 (List.mem_of_getElem? (i := 11) rfl)) (by decide +kernel)), (tG_of (tb4 (List.mem_of_getElem? (i := 237) rfl)) (by decide +kernel)), ⟨by decide, by decide, by decide +kernel⟩, by decide⟩
set_option maxRecDepth 100000 in
theorem mv_X8_65 : mV RX8 65 mX8_isMissed 2 := ⟨(tG_of (tb4 (List.mem_of_getElem? (i := 234) rfl)) (by decide +kernel)), mi_X8_isMissed⟩
theorem dX8_isMissed_0 : decode cX8_isMissed 0 = .ok (.iconst 0, 1) := dc_3 (byA eNcX8_isMissed (p := 0) (v := 3) (by decide +kernel))
theorem dX8_isMissed_1 : decode cX8_isMissed 1 = .ok (.istore_n 3, 1) := dc_62 (byA eNcX8_isMissed (p := 1) (v := 62) (by decide +kernel))
theorem dX8_isMissed_2 : decode cX8_isMissed 2 = .ok (.iload_n 3, 1) := dc_29 (byA eNcX8_isMissed (p := 2) (v := 29) (by decide +kernel))
theorem dX8_isMissed_3 : decode cX8_isMissed 3 = .ok (.aload_n 0, 1) := dc_42 (byA eNcX8_isMissed (p := 3) (v := 42) (by decide +kernel))
theorem dX8_isMissed_4 : decode cX8_isMissed 4 = .ok (.getfield 22, 3) := dc_180 (byA eNcX8_isMissed (p := 4) (v := 180) (by decide +kernel)) (byA eNcX8_isMissed (p := 5) (v := 0) (by decide +kernel)) (byA eNcX8_isMissed (p := 6) (v := 22) (by decide +kernel)) rfl
theorem dX8_isMissed_7 : decode cX8_isMissed 7 = .ok (.if_icmp .ge 29, 3) := dc_162 (byA eNcX8_isMissed (p := 7) (v := 162) (by decide +kernel)) (byA eNcX8_isMissed (p := 8) (v := 0) (by decide +kernel)) (byA eNcX8_isMissed (p := 9) (v := 29) (by decide +kernel)) (by decide +kernel)
theorem dX8_isMissed_10 : decode cX8_isMissed 10 = .ok (.aload_n 0, 1) := dc_42 (byA eNcX8_isMissed (p := 10) (v := 42) (by decide +kernel))
theorem dX8_isMissed_11 : decode cX8_isMissed 11 = .ok (.getfield 9, 3) := dc_180 (byA eNcX8_isMissed (p := 11) (v := 180) (by decide +kernel)) (byA eNcX8_isMissed (p := 12) (v := 0) (by decide +kernel)) (byA eNcX8_isMissed (p := 13) (v := 9) (by decide +kernel)) rfl
theorem dX8_isMissed_14 : decode cX8_isMissed 14 = .ok (.iload_n 3, 1) := dc_29 (byA eNcX8_isMissed (p := 14) (v := 29) (by decide +kernel))
theorem dX8_isMissed_15 : decode cX8_isMissed 15 = .ok (.iaload, 1) := dc_46 (byA eNcX8_isMissed (p := 15) (v := 46) (by decide +kernel))
theorem dX8_isMissed_16 : decode cX8_isMissed 16 = .ok (.iload_n 2, 1) := dc_28 (byA eNcX8_isMissed (p := 16) (v := 28) (by decide +kernel))
theorem dX8_isMissed_17 : decode cX8_isMissed 17 = .ok (.if_icmp .gt 13, 3) := dc_163 (byA eNcX8_isMissed (p := 17) (v := 163) (by decide +kernel)) (byA eNcX8_isMissed (p := 18) (v := 0) (by decide +kernel)) (byA eNcX8_isMissed (p := 19) (v := 13) (by decide +kernel)) (by decide +kernel)
theorem dX8_isMissed_20 : decode cX8_isMissed 20 = .ok (.iload_n 1, 1) := dc_27 (byA eNcX8_isMissed (p := 20) (v := 27) (by decide +kernel))
theorem dX8_isMissed_21 : decode cX8_isMissed 21 = .ok (.iload_n 3, 1) := dc_29 (byA eNcX8_isMissed (p := 21) (v := 29) (by decide +kernel))
theorem dX8_isMissed_22 : decode cX8_isMissed 22 = .ok (.ishr, 1) := dc_122 (byA eNcX8_isMissed (p := 22) (v := 122) (by decide +kernel))
theorem dX8_isMissed_23 : decode cX8_isMissed 23 = .ok (.iconst 1, 1) := dc_4 (byA eNcX8_isMissed (p := 23) (v := 4) (by decide +kernel))
theorem dX8_isMissed_24 : decode cX8_isMissed 24 = .ok (.iand, 1) := dc_126 (byA eNcX8_isMissed (p := 24) (v := 126) (by decide +kernel))
theorem dX8_isMissed_25 : decode cX8_isMissed 25 = .ok (.ifCond .ne 5, 3) := dc_154 (byA eNcX8_isMissed (p := 25) (v := 154) (by decide +kernel)) (byA eNcX8_isMissed (p := 26) (v := 0) (by decide +kernel)) (byA eNcX8_isMissed (p := 27) (v := 5) (by decide +kernel)) (by decide +kernel)
theorem dX8_isMissed_28 : decode cX8_isMissed 28 = .ok (.iconst 1, 1) := dc_4 (byA eNcX8_isMissed (p := 28) (v := 4) (by decide +kernel))
theorem dX8_isMissed_29 : decode cX8_isMissed 29 = .ok (.ireturn, 1) := dc_172 (byA eNcX8_isMissed (p := 29) (v := 172) (by decide +kernel))
theorem dX8_isMissed_30 : decode cX8_isMissed 30 = .ok (.iinc 3 1, 3) := dc_132 (byA eNcX8_isMissed (p := 30) (v := 132) (by decide +kernel)) (byA eNcX8_isMissed (p := 31) (v := 3) (by decide +kernel)) (byA eNcX8_isMissed (p := 32) (v := 1) (by decide +kernel)) (by decide +kernel)
theorem dX8_isMissed_33 : decode cX8_isMissed 33 = .ok (.goto (-31), 3) := dc_167 (byA eNcX8_isMissed (p := 33) (v := 167) (by decide +kernel)) (byA eNcX8_isMissed (p := 34) (v := 255) (by decide +kernel)) (byA eNcX8_isMissed (p := 35) (v := 225) (by decide +kernel)) (by decide +kernel)
theorem dX8_isMissed_36 : decode cX8_isMissed 36 = .ok (.iconst 0, 1) := dc_3 (byA eNcX8_isMissed (p := 36) (v := 3) (by decide +kernel))
theorem dX8_isMissed_37 : decode cX8_isMissed 37 = .ok (.ireturn, 1) := dc_172 (byA eNcX8_isMissed (p := 37) (v := 172) (by decide +kernel))
def X8_isMissed_L2 (l1 : Int) (l2 : Int) : Nat → Int → Mm → Rs
  | 0, _, _ => none
  | n + 1, l3, μ => if (μ 67 2) ≤ l3 then (some (0, μ)) else (ldA μ 68 l3 fun v2 => if l2 < v2 then (X8_isMissed_L2 l1 l2 n (iA l3 1) μ) else (if (bA (bR l1 l3) 1) = 0 then (some (1, μ)) else (X8_isMissed_L2 l1 l2 n (iA l3 1) μ)))
def X8_isMissed (l1 : Int) (l2 : Int) (μ : Mm) : Rs := X8_isMissed_L2 l1 l2 FU 0 μ
set_option maxHeartbeats 4000000 in
set_option maxRecDepth 100000 in
theorem kX8_isMissed_L2 (d : Nat) (hd : 1 ≤ d) {l1 : Int} {l2 : Int} {r : Int} {μ' : Mm} : ∀ (n : Nat) {l3 : Int} {μ : Mm}, X8_isMissed_L2 l1 l2 n l3 μ = some (r, μ') → VV d mX8_isMissed 2 [some (vR 67), some (vI l1), some (vI l2), some (vI l3)] [] μ r μ' := by
  intro n
  induction n with
  | zero => intro l3 μ h; rw [X8_isMissed_L2] at h; cases h
  | succ n ih =>
    intro l3 μ h
    rw [X8_isMissed_L2] at h
    refine V_iload_n (q := 3) dX8_isMissed_2 rfl rfl rfl ?_
    refine V_aload_n (q := 4) dX8_isMissed_3 rfl rfl rfl ?_
    refine V_getI (q := 7) fl_X8_22 rfl rfl rfl dX8_isMissed_4 rfl ?_
    refine V_icmpge (q := 36) (q2 := 10) dX8_isMissed_7 (by decide) rfl (fun hc1 => ?_) (fun hc1 => ?_)
    · have h := ifT hc1 h
      refine V_iconst (q := 37) dX8_isMissed_36 rfl rfl ?_
      exact V_zret rfl (Or.inl rfl) h dX8_isMissed_37
    · have h := ifF hc1 h
      refine V_aload_n (q := 11) dX8_isMissed_10 rfl rfl rfl ?_
      refine V_getO (q := 14) (t := 68) fl_X8_9 rfl rfl rfl rfl dX8_isMissed_11 rfl ?_
      refine V_iload_n (q := 15) dX8_isMissed_14 rfl rfl rfl ?_
      obtain ⟨hi3, h⟩ := ldA_i h
      refine V_iaload (q := 16) rfl hi3 dX8_isMissed_15 rfl ?_
      refine V_iload_n (q := 17) dX8_isMissed_16 rfl rfl rfl ?_
      refine V_icmpgt (q := 30) (q2 := 20) dX8_isMissed_17 (by decide) rfl (fun hc4 => ?_) (fun hc4 => ?_)
      · have h := ifT hc4 h
        refine V_iinc (q := 33) dX8_isMissed_30 rfl (Nat.le_of_ble_eq_true rfl) trivial rfl ?_
        refine V_goto (q := 2) dX8_isMissed_33 (by decide) ?_
        exact V_weak (ih h) (sb_s rfl (sb_s rfl (sb_s rfl (sb_s rfl sb_0))))
      · have h := ifF hc4 h
        refine V_iload_n (q := 21) dX8_isMissed_20 rfl rfl rfl ?_
        refine V_iload_n (q := 22) dX8_isMissed_21 rfl rfl rfl ?_
        refine V_ishr (q := 23) dX8_isMissed_22 rfl ?_
        refine V_iconst (q := 24) dX8_isMissed_23 rfl rfl ?_
        refine V_iand (q := 25) dX8_isMissed_24 rfl ?_
        refine V_ifne (q := 30) (q2 := 28) dX8_isMissed_25 (by decide) rfl (fun hc5 => ?_) (fun hc5 => ?_)
        · have h := ifF hc5 h
          refine V_iinc (q := 33) dX8_isMissed_30 rfl (Nat.le_of_ble_eq_true rfl) trivial rfl ?_
          refine V_goto (q := 2) dX8_isMissed_33 (by decide) ?_
          exact V_weak (ih h) (sb_s rfl (sb_s rfl (sb_s rfl (sb_s rfl sb_0))))
        · have h := ifT hc5 h
          refine V_iconst (q := 29) dX8_isMissed_28 rfl rfl ?_
          exact V_zret rfl (Or.inr rfl) h dX8_isMissed_29
set_option maxHeartbeats 4000000 in
set_option maxRecDepth 100000 in
theorem kX8_isMissed (d : Nat) (hd : 1 ≤ d) {l1 : Int} {l2 : Int} {μ : Mm} {r : Int} {μ' : Mm} (h : X8_isMissed l1 l2 μ = some (r, μ')) : CC d mX8_isMissed [vR 67, vI l1, vI l2] μ r μ' := by
  unfold X8_isMissed at h
  refine V_enter (by decide) (Nat.le_of_ble_eq_true rfl) ?_
  show VV d mX8_isMissed 0 [some (vR 67), some (vI l1), some (vI l2), none] [] μ r μ'
  refine V_iconst (q := 1) dX8_isMissed_0 rfl rfl ?_
  refine V_istore_n (q := 2) dX8_isMissed_1 rfl (Nat.le_of_ble_eq_true rfl) trivial rfl ?_
  exact V_weak (kX8_isMissed_L2 d hd  FU h) (sb_s rfl (sb_s rfl (sb_s rfl (sb_s rfl sb_0))))
abbrev mX8_follow : Mth := (yX8_follow, cX8_follow, 9, none)
set_option maxRecDepth 100000 in
theorem mi_X8_follow : Cond.instanceMethod yX8_follow ∈ tG ∧ Cond.selects yX8_follow.cls yX8_follow yX8_follow ∈ tG ∧ Cond.initialized yX8_follow.cls ∈ tG ∧ Cond.code yX8_follow cX8_follow 9 (none) ∈ tG ∧ (yX8_follow.cls ≠ "java/lang/invoke/MethodHandle" ∧ yX8_follow.cls ≠ "java/lang/invoke/VarHandle" ∧ (parseMethodDescriptor yX8_follow.desc).map (fun d => d.parameters.length) = some 6) ∧ 9 ≤ 60 := ⟨(tG_of (tb4 (List.mem_of_getElem? (i := 227) rfl)) (by decide +kernel)), (tG_of (List.mem_of_getElem? (i := 40) (by decide +kernel)) (by decide +kernel)), (tG_of (tb1 (List.mem_of_getElem? (i := 11) rfl)) (by decide +kernel)), (tG_of (tb4 (List.mem_of_getElem? (i := 228) rfl)) (by decide +kernel)), ⟨by decide, by decide, by decide +kernel⟩, by decide⟩
set_option maxRecDepth 100000 in
theorem mv_X8_54 : mV RX8 54 mX8_follow 6 := ⟨(tG_of (tb4 (List.mem_of_getElem? (i := 225) rfl)) (by decide +kernel)), mi_X8_follow⟩
abbrev mX8_visit : Mth := (yX8_visit, cX8_visit, 9, none)
set_option maxRecDepth 100000 in
theorem mi_X8_visit : Cond.instanceMethod yX8_visit ∈ tG ∧ Cond.selects yX8_visit.cls yX8_visit yX8_visit ∈ tG ∧ Cond.initialized yX8_visit.cls ∈ tG ∧ Cond.code yX8_visit cX8_visit 9 (none) ∈ tG ∧ (yX8_visit.cls ≠ "java/lang/invoke/MethodHandle" ∧ yX8_visit.cls ≠ "java/lang/invoke/VarHandle" ∧ (parseMethodDescriptor yX8_visit.desc).map (fun d => d.parameters.length) = some 6) ∧ 9 ≤ 60 := ⟨(tG_of (tb4 (List.mem_of_getElem? (i := 218) rfl)) (by decide +kernel)), (tG_of (List.mem_of_getElem? (i := 38) (by decide +kernel)) (by decide +kernel)), (tG_of (tb1 (List.mem_of_getElem? (i := 11) rfl)) (by decide +kernel)), (tG_of (tb4 (List.mem_of_getElem? (i := 219) rfl)) (by decide +kernel)), ⟨by decide, by decide, by decide +kernel⟩, by decide⟩
set_option maxRecDepth 100000 in
theorem mv_X8_41 : mV RX8 41 mX8_visit 6 := ⟨(tG_of (tb4 (List.mem_of_getElem? (i := 216) rfl)) (by decide +kernel)), mi_X8_visit⟩
theorem dX8_follow_0 : decode cX8_follow 0 = .ok (.aload_n 0, 1) := dc_42 (byA eNcX8_follow (p := 0) (v := 42) (by decide +kernel))
theorem dX8_follow_1 : decode cX8_follow 1 = .ok (.getfield 18, 3) := dc_180 (byA eNcX8_follow (p := 1) (v := 180) (by decide +kernel)) (byA eNcX8_follow (p := 2) (v := 0) (by decide +kernel)) (byA eNcX8_follow (p := 3) (v := 18) (by decide +kernel)) rfl
theorem dX8_follow_4 : decode cX8_follow 4 = .ok (.iload 5, 2) := dc_21 (byA eNcX8_follow (p := 4) (v := 21) (by decide +kernel)) (byA eNcX8_follow (p := 5) (v := 5) (by decide +kernel))
theorem dX8_follow_6 : decode cX8_follow 6 = .ok (.iload 4, 2) := dc_21 (byA eNcX8_follow (p := 6) (v := 21) (by decide +kernel)) (byA eNcX8_follow (p := 7) (v := 4) (by decide +kernel))
theorem dX8_follow_8 : decode cX8_follow 8 = .ok (.invokevirtual 57, 3) := dc_182 (byA eNcX8_follow (p := 8) (v := 182) (by decide +kernel)) (byA eNcX8_follow (p := 9) (v := 0) (by decide +kernel)) (byA eNcX8_follow (p := 10) (v := 57) (by decide +kernel)) rfl
theorem dX8_follow_11 : decode cX8_follow 11 = .ok (.istore 7, 2) := dc_54 (byA eNcX8_follow (p := 11) (v := 54) (by decide +kernel)) (byA eNcX8_follow (p := 12) (v := 7) (by decide +kernel))
theorem dX8_follow_13 : decode cX8_follow 13 = .ok (.iload_n 2, 1) := dc_28 (byA eNcX8_follow (p := 13) (v := 28) (by decide +kernel))
theorem dX8_follow_14 : decode cX8_follow 14 = .ok (.aload_n 0, 1) := dc_42 (byA eNcX8_follow (p := 14) (v := 42) (by decide +kernel))
theorem dX8_follow_15 : decode cX8_follow 15 = .ok (.aload_n 0, 1) := dc_42 (byA eNcX8_follow (p := 15) (v := 42) (by decide +kernel))
theorem dX8_follow_16 : decode cX8_follow 16 = .ok (.getfield 18, 3) := dc_180 (byA eNcX8_follow (p := 16) (v := 180) (by decide +kernel)) (byA eNcX8_follow (p := 17) (v := 0) (by decide +kernel)) (byA eNcX8_follow (p := 18) (v := 18) (by decide +kernel)) rfl
theorem dX8_follow_19 : decode cX8_follow 19 = .ok (.getfield 61, 3) := dc_180 (byA eNcX8_follow (p := 19) (v := 180) (by decide +kernel)) (byA eNcX8_follow (p := 20) (v := 0) (by decide +kernel)) (byA eNcX8_follow (p := 21) (v := 61) (by decide +kernel)) rfl
theorem dX8_follow_22 : decode cX8_follow 22 = .ok (.iload 4, 2) := dc_21 (byA eNcX8_follow (p := 22) (v := 21) (by decide +kernel)) (byA eNcX8_follow (p := 23) (v := 4) (by decide +kernel))
theorem dX8_follow_24 : decode cX8_follow 24 = .ok (.iaload, 1) := dc_46 (byA eNcX8_follow (p := 24) (v := 46) (by decide +kernel))
theorem dX8_follow_25 : decode cX8_follow 25 = .ok (.iload 5, 2) := dc_21 (byA eNcX8_follow (p := 25) (v := 21) (by decide +kernel)) (byA eNcX8_follow (p := 26) (v := 5) (by decide +kernel))
theorem dX8_follow_27 : decode cX8_follow 27 = .ok (.iload 7, 2) := dc_21 (byA eNcX8_follow (p := 27) (v := 21) (by decide +kernel)) (byA eNcX8_follow (p := 28) (v := 7) (by decide +kernel))
theorem dX8_follow_29 : decode cX8_follow 29 = .ok (.invokevirtual 62, 3) := dc_182 (byA eNcX8_follow (p := 29) (v := 182) (by decide +kernel)) (byA eNcX8_follow (p := 30) (v := 0) (by decide +kernel)) (byA eNcX8_follow (p := 31) (v := 62) (by decide +kernel)) rfl
theorem dX8_follow_32 : decode cX8_follow 32 = .ok (.ior, 1) := dc_128 (byA eNcX8_follow (p := 32) (v := 128) (by decide +kernel))
theorem dX8_follow_33 : decode cX8_follow 33 = .ok (.istore 8, 2) := dc_54 (byA eNcX8_follow (p := 33) (v := 54) (by decide +kernel)) (byA eNcX8_follow (p := 34) (v := 8) (by decide +kernel))
theorem dX8_follow_35 : decode cX8_follow 35 = .ok (.aload_n 0, 1) := dc_42 (byA eNcX8_follow (p := 35) (v := 42) (by decide +kernel))
theorem dX8_follow_36 : decode cX8_follow 36 = .ok (.iload 8, 2) := dc_21 (byA eNcX8_follow (p := 36) (v := 21) (by decide +kernel)) (byA eNcX8_follow (p := 37) (v := 8) (by decide +kernel))
theorem dX8_follow_38 : decode cX8_follow 38 = .ok (.iload 7, 2) := dc_21 (byA eNcX8_follow (p := 38) (v := 21) (by decide +kernel)) (byA eNcX8_follow (p := 39) (v := 7) (by decide +kernel))
theorem dX8_follow_40 : decode cX8_follow 40 = .ok (.invokevirtual 65, 3) := dc_182 (byA eNcX8_follow (p := 40) (v := 182) (by decide +kernel)) (byA eNcX8_follow (p := 41) (v := 0) (by decide +kernel)) (byA eNcX8_follow (p := 42) (v := 65) (by decide +kernel)) rfl
theorem dX8_follow_43 : decode cX8_follow 43 = .ok (.ifCond .ne 19, 3) := dc_154 (byA eNcX8_follow (p := 43) (v := 154) (by decide +kernel)) (byA eNcX8_follow (p := 44) (v := 0) (by decide +kernel)) (byA eNcX8_follow (p := 45) (v := 19) (by decide +kernel)) (by decide +kernel)
theorem dX8_follow_46 : decode cX8_follow 46 = .ok (.aload_n 0, 1) := dc_42 (byA eNcX8_follow (p := 46) (v := 42) (by decide +kernel))
theorem dX8_follow_47 : decode cX8_follow 47 = .ok (.iload_n 1, 1) := dc_27 (byA eNcX8_follow (p := 47) (v := 27) (by decide +kernel))
theorem dX8_follow_48 : decode cX8_follow 48 = .ok (.iconst 1, 1) := dc_4 (byA eNcX8_follow (p := 48) (v := 4) (by decide +kernel))
theorem dX8_follow_49 : decode cX8_follow 49 = .ok (.iadd, 1) := dc_96 (byA eNcX8_follow (p := 49) (v := 96) (by decide +kernel))
theorem dX8_follow_50 : decode cX8_follow 50 = .ok (.iload 8, 2) := dc_21 (byA eNcX8_follow (p := 50) (v := 21) (by decide +kernel)) (byA eNcX8_follow (p := 51) (v := 8) (by decide +kernel))
theorem dX8_follow_52 : decode cX8_follow 52 = .ok (.iload_n 3, 1) := dc_29 (byA eNcX8_follow (p := 52) (v := 29) (by decide +kernel))
theorem dX8_follow_53 : decode cX8_follow 53 = .ok (.iload 4, 2) := dc_21 (byA eNcX8_follow (p := 53) (v := 21) (by decide +kernel)) (byA eNcX8_follow (p := 54) (v := 4) (by decide +kernel))
theorem dX8_follow_55 : decode cX8_follow 55 = .ok (.iload 7, 2) := dc_21 (byA eNcX8_follow (p := 55) (v := 21) (by decide +kernel)) (byA eNcX8_follow (p := 56) (v := 7) (by decide +kernel))
theorem dX8_follow_57 : decode cX8_follow 57 = .ok (.iload 6, 2) := dc_21 (byA eNcX8_follow (p := 57) (v := 21) (by decide +kernel)) (byA eNcX8_follow (p := 58) (v := 6) (by decide +kernel))
theorem dX8_follow_59 : decode cX8_follow 59 = .ok (.invokevirtual 41, 3) := dc_182 (byA eNcX8_follow (p := 59) (v := 182) (by decide +kernel)) (byA eNcX8_follow (p := 60) (v := 0) (by decide +kernel)) (byA eNcX8_follow (p := 61) (v := 41) (by decide +kernel)) rfl
theorem dX8_follow_62 : decode cX8_follow 62 = .ok (.return_, 1) := dc_177 (byA eNcX8_follow (p := 62) (v := 177) (by decide +kernel))
def X8_follow_o (rec : Int → Int → Int → Int → Int → Int → Mm → Rs) (l1 : Int) (l2 : Int) (l3 : Int) (l4 : Int) (l5 : Int) (l6 : Int) (μ : Mm) : Rs := mR μ 67 3 (11, 7) fun v1 => bd (X1_dones v1 l5 l4 μ) fun v3 μ4 => mR μ4 67 3 (11, 7) fun v6 => ldA μ4 (v6 + 1) l4 fun v8 => bd (X8_heardAt v8 l5 v3 μ4) fun v10 μ11 => bd (X8_isMissed (bO l2 v10) v3 μ11) fun v13 μ14 => if v13 = 0 then (bd (rec (iA l1 1) (bO l2 v10) l3 l4 v3 l6 μ14) fun v17 μ18 => some (0, μ18)) else (some (0, μ14))
set_option maxHeartbeats 4000000 in
set_option maxRecDepth 100000 in
theorem kX8_follow (d : Nat) {d0 : Nat} (hd : d0 + 2 ≤ d) {rec : Int → Int → Int → Int → Int → Int → Mm → Rs} (hrec : ∀ {q1 : Int} {q2 : Int} {q3 : Int} {q4 : Int} {q5 : Int} {q6 : Int} {μ1 : Mm} {r1 : Int} {μ2 : Mm}, rec q1 q2 q3 q4 q5 q6 μ1 = some (r1, μ2) → CC d0 mX8_visit [vR 67, vI q1, vI q2, vI q3, vI q4, vI q5, vI q6] μ1 r1 μ2) (hb : 5 ≤ d) {l1 : Int} {l2 : Int} {l3 : Int} {l4 : Int} {l5 : Int} {l6 : Int} {μ : Mm} {r : Int} {μ' : Mm} (h : X8_follow_o rec l1 l2 l3 l4 l5 l6 μ = some (r, μ')) : CC d mX8_follow [vR 67, vI l1, vI l2, vI l3, vI l4, vI l5, vI l6] μ r μ' := by
  unfold X8_follow_o at h
  refine V_enter (by decide) (Nat.le_of_ble_eq_true rfl) ?_
  show VV d mX8_follow 0 [some (vR 67), some (vI l1), some (vI l2), some (vI l3), some (vI l4), some (vI l5), some (vI l6), none, none] [] μ r μ'
  refine V_aload_n (q := 1) dX8_follow_0 rfl rfl rfl ?_
  obtain ⟨hm2, h⟩ := mR_i h
  refine V_getM (q := 4) fl_X8_18 rfl rfl rfl dX8_follow_1 rfl ?_
  refine V_iload (q := 6) dX8_follow_4 rfl rfl ?_
  refine V_iload (q := 8) dX8_follow_6 rfl rfl ?_
  obtain ⟨v3, μ4, hc5, h⟩ := bd_i h
  refine V_cV1 (q := 11) (v := vI v3) (kX1_dones (d - 1) (by omega) hm2 hc5) (by omega) mv_X8_57 hm2 rfl rfl rfl rfl rfl dX8_follow_8 rfl ?_
  refine V_istore (q := 13) dX8_follow_11 (Nat.le_of_ble_eq_true rfl) trivial rfl ?_
  refine V_iload_n (q := 14) dX8_follow_13 rfl rfl rfl ?_
  refine V_aload_n (q := 15) dX8_follow_14 rfl rfl rfl ?_
  refine V_aload_n (q := 16) dX8_follow_15 rfl rfl rfl ?_
  obtain ⟨hm7, h⟩ := mR_i h
  refine V_getM (q := 19) fl_X8_18 rfl rfl rfl dX8_follow_16 rfl ?_
  refine V_getO (q := 22) (t := _) fl_X8_61 hm7 rfl rfl rfl dX8_follow_19 rfl ?_
  refine V_iload (q := 24) dX8_follow_22 rfl rfl ?_
  obtain ⟨hi9, h⟩ := ldA_i h
  refine V_iaload (q := 25) (kdo_1_1 hm7) hi9 dX8_follow_24 rfl ?_
  refine V_iload (q := 27) dX8_follow_25 rfl rfl ?_
  refine V_iload (q := 29) dX8_follow_27 rfl rfl ?_
  obtain ⟨v10, μ11, hc12, h⟩ := bd_i h
  refine V_cV1 (q := 32) (v := vI v10) (kX8_heardAt (d - 1) (by omega) hc12) (by omega) mv_X8_62 rfl rfl rfl rfl rfl rfl dX8_follow_29 rfl ?_
  refine V_ior (q := 33) dX8_follow_32 rfl ?_
  refine V_istore (q := 35) dX8_follow_33 (Nat.le_of_ble_eq_true rfl) trivial rfl ?_
  refine V_aload_n (q := 36) dX8_follow_35 rfl rfl rfl ?_
  refine V_iload (q := 38) dX8_follow_36 rfl rfl ?_
  refine V_iload (q := 40) dX8_follow_38 rfl rfl ?_
  obtain ⟨v13, μ14, hc15, h⟩ := bd_i h
  refine V_cV1 (q := 43) (v := vI v13) (kX8_isMissed (d - 1) (by omega) hc15) (by omega) mv_X8_65 rfl rfl rfl rfl rfl rfl dX8_follow_40 rfl ?_
  refine V_ifne (q := 62) (q2 := 46) dX8_follow_43 (by decide) rfl (fun hc16 => ?_) (fun hc16 => ?_)
  · have h := ifF hc16 h
    exact V_vret rfl h dX8_follow_62
  · have h := ifT hc16 h
    refine V_aload_n (q := 47) dX8_follow_46 rfl rfl rfl ?_
    refine V_iload_n (q := 48) dX8_follow_47 rfl rfl rfl ?_
    refine V_iconst (q := 49) dX8_follow_48 rfl rfl ?_
    refine V_iadd (q := 50) dX8_follow_49 rfl ?_
    refine V_iload (q := 52) dX8_follow_50 rfl rfl ?_
    refine V_iload_n (q := 53) dX8_follow_52 rfl rfl rfl ?_
    refine V_iload (q := 55) dX8_follow_53 rfl rfl ?_
    refine V_iload (q := 57) dX8_follow_55 rfl rfl ?_
    refine V_iload (q := 59) dX8_follow_57 rfl rfl ?_
    obtain ⟨v17, μ18, hc19, h⟩ := bd_i h
    refine V_cV0 (q := 62) (hrec hc19) (by omega) mv_X8_41 rfl rfl rfl rfl rfl rfl dX8_follow_59 rfl ?_
    exact V_vret rfl h dX8_follow_62
theorem dX8_visit_0 : decode cX8_visit 0 = .ok (.iload_n 2, 1) := dc_28 (byA eNcX8_visit (p := 0) (v := 28) (by decide +kernel))
theorem dX8_visit_1 : decode cX8_visit 1 = .ok (.iconst 1, 1) := dc_4 (byA eNcX8_visit (p := 1) (v := 4) (by decide +kernel))
theorem dX8_visit_2 : decode cX8_visit 2 = .ok (.aload_n 0, 1) := dc_42 (byA eNcX8_visit (p := 2) (v := 42) (by decide +kernel))
theorem dX8_visit_3 : decode cX8_visit 3 = .ok (.getfield 22, 3) := dc_180 (byA eNcX8_visit (p := 3) (v := 180) (by decide +kernel)) (byA eNcX8_visit (p := 4) (v := 0) (by decide +kernel)) (byA eNcX8_visit (p := 5) (v := 22) (by decide +kernel)) rfl
theorem dX8_visit_6 : decode cX8_visit 6 = .ok (.ishl, 1) := dc_120 (byA eNcX8_visit (p := 6) (v := 120) (by decide +kernel))
theorem dX8_visit_7 : decode cX8_visit 7 = .ok (.iconst 1, 1) := dc_4 (byA eNcX8_visit (p := 7) (v := 4) (by decide +kernel))
theorem dX8_visit_8 : decode cX8_visit 8 = .ok (.isub, 1) := dc_100 (byA eNcX8_visit (p := 8) (v := 100) (by decide +kernel))
theorem dX8_visit_9 : decode cX8_visit 9 = .ok (.if_icmp .ne 20, 3) := dc_160 (byA eNcX8_visit (p := 9) (v := 160) (by decide +kernel)) (byA eNcX8_visit (p := 10) (v := 0) (by decide +kernel)) (byA eNcX8_visit (p := 11) (v := 20) (by decide +kernel)) (by decide +kernel)
theorem dX8_visit_12 : decode cX8_visit 12 = .ok (.aload_n 0, 1) := dc_42 (byA eNcX8_visit (p := 12) (v := 42) (by decide +kernel))
theorem dX8_visit_13 : decode cX8_visit 13 = .ok (.aload_n 0, 1) := dc_42 (byA eNcX8_visit (p := 13) (v := 42) (by decide +kernel))
theorem dX8_visit_14 : decode cX8_visit 14 = .ok (.getfield 18, 3) := dc_180 (byA eNcX8_visit (p := 14) (v := 180) (by decide +kernel)) (byA eNcX8_visit (p := 15) (v := 0) (by decide +kernel)) (byA eNcX8_visit (p := 16) (v := 18) (by decide +kernel)) rfl
theorem dX8_visit_17 : decode cX8_visit 17 = .ok (.getfield 45, 3) := dc_180 (byA eNcX8_visit (p := 17) (v := 180) (by decide +kernel)) (byA eNcX8_visit (p := 18) (v := 0) (by decide +kernel)) (byA eNcX8_visit (p := 19) (v := 45) (by decide +kernel)) rfl
theorem dX8_visit_20 : decode cX8_visit 20 = .ok (.iload_n 1, 1) := dc_27 (byA eNcX8_visit (p := 20) (v := 27) (by decide +kernel))
theorem dX8_visit_21 : decode cX8_visit 21 = .ok (.isub, 1) := dc_100 (byA eNcX8_visit (p := 21) (v := 100) (by decide +kernel))
theorem dX8_visit_22 : decode cX8_visit 22 = .ok (.invokevirtual 46, 3) := dc_182 (byA eNcX8_visit (p := 22) (v := 182) (by decide +kernel)) (byA eNcX8_visit (p := 23) (v := 0) (by decide +kernel)) (byA eNcX8_visit (p := 24) (v := 46) (by decide +kernel)) rfl
theorem dX8_visit_25 : decode cX8_visit 25 = .ok (.ifCond .eq 4, 3) := dc_153 (byA eNcX8_visit (p := 25) (v := 153) (by decide +kernel)) (byA eNcX8_visit (p := 26) (v := 0) (by decide +kernel)) (byA eNcX8_visit (p := 27) (v := 4) (by decide +kernel)) (by decide +kernel)
theorem dX8_visit_28 : decode cX8_visit 28 = .ok (.return_, 1) := dc_177 (byA eNcX8_visit (p := 28) (v := 177) (by decide +kernel))
theorem dX8_visit_29 : decode cX8_visit 29 = .ok (.iload_n 1, 1) := dc_27 (byA eNcX8_visit (p := 29) (v := 27) (by decide +kernel))
theorem dX8_visit_30 : decode cX8_visit 30 = .ok (.aload_n 0, 1) := dc_42 (byA eNcX8_visit (p := 30) (v := 42) (by decide +kernel))
theorem dX8_visit_31 : decode cX8_visit 31 = .ok (.getfield 18, 3) := dc_180 (byA eNcX8_visit (p := 31) (v := 180) (by decide +kernel)) (byA eNcX8_visit (p := 32) (v := 0) (by decide +kernel)) (byA eNcX8_visit (p := 33) (v := 18) (by decide +kernel)) rfl
theorem dX8_visit_34 : decode cX8_visit 34 = .ok (.getfield 45, 3) := dc_180 (byA eNcX8_visit (p := 34) (v := 180) (by decide +kernel)) (byA eNcX8_visit (p := 35) (v := 0) (by decide +kernel)) (byA eNcX8_visit (p := 36) (v := 45) (by decide +kernel)) rfl
theorem dX8_visit_37 : decode cX8_visit 37 = .ok (.if_icmp .lt 22, 3) := dc_161 (byA eNcX8_visit (p := 37) (v := 161) (by decide +kernel)) (byA eNcX8_visit (p := 38) (v := 0) (by decide +kernel)) (byA eNcX8_visit (p := 39) (v := 22) (by decide +kernel)) (by decide +kernel)
theorem dX8_visit_40 : decode cX8_visit 40 = .ok (.iload_n 2, 1) := dc_28 (byA eNcX8_visit (p := 40) (v := 28) (by decide +kernel))
theorem dX8_visit_41 : decode cX8_visit 41 = .ok (.iconst 1, 1) := dc_4 (byA eNcX8_visit (p := 41) (v := 4) (by decide +kernel))
theorem dX8_visit_42 : decode cX8_visit 42 = .ok (.aload_n 0, 1) := dc_42 (byA eNcX8_visit (p := 42) (v := 42) (by decide +kernel))
theorem dX8_visit_43 : decode cX8_visit 43 = .ok (.getfield 22, 3) := dc_180 (byA eNcX8_visit (p := 43) (v := 180) (by decide +kernel)) (byA eNcX8_visit (p := 44) (v := 0) (by decide +kernel)) (byA eNcX8_visit (p := 45) (v := 22) (by decide +kernel)) rfl
theorem dX8_visit_46 : decode cX8_visit 46 = .ok (.ishl, 1) := dc_120 (byA eNcX8_visit (p := 46) (v := 120) (by decide +kernel))
theorem dX8_visit_47 : decode cX8_visit 47 = .ok (.iconst 1, 1) := dc_4 (byA eNcX8_visit (p := 47) (v := 4) (by decide +kernel))
theorem dX8_visit_48 : decode cX8_visit 48 = .ok (.isub, 1) := dc_100 (byA eNcX8_visit (p := 48) (v := 100) (by decide +kernel))
theorem dX8_visit_49 : decode cX8_visit 49 = .ok (.if_icmp .ne 9, 3) := dc_160 (byA eNcX8_visit (p := 49) (v := 160) (by decide +kernel)) (byA eNcX8_visit (p := 50) (v := 0) (by decide +kernel)) (byA eNcX8_visit (p := 51) (v := 9) (by decide +kernel)) (by decide +kernel)
theorem dX8_visit_52 : decode cX8_visit 52 = .ok (.aload_n 0, 1) := dc_42 (byA eNcX8_visit (p := 52) (v := 42) (by decide +kernel))
theorem dX8_visit_53 : decode cX8_visit 53 = .ok (.iload 6, 2) := dc_21 (byA eNcX8_visit (p := 53) (v := 21) (by decide +kernel)) (byA eNcX8_visit (p := 54) (v := 6) (by decide +kernel))
theorem dX8_visit_55 : decode cX8_visit 55 = .ok (.putfield 32, 3) := dc_181 (byA eNcX8_visit (p := 55) (v := 181) (by decide +kernel)) (byA eNcX8_visit (p := 56) (v := 0) (by decide +kernel)) (byA eNcX8_visit (p := 57) (v := 32) (by decide +kernel)) rfl
theorem dX8_visit_58 : decode cX8_visit 58 = .ok (.return_, 1) := dc_177 (byA eNcX8_visit (p := 58) (v := 177) (by decide +kernel))
theorem dX8_visit_59 : decode cX8_visit 59 = .ok (.iconst 0, 1) := dc_3 (byA eNcX8_visit (p := 59) (v := 3) (by decide +kernel))
theorem dX8_visit_60 : decode cX8_visit 60 = .ok (.istore 7, 2) := dc_54 (byA eNcX8_visit (p := 60) (v := 54) (by decide +kernel)) (byA eNcX8_visit (p := 61) (v := 7) (by decide +kernel))
theorem dX8_visit_62 : decode cX8_visit 62 = .ok (.iload 7, 2) := dc_21 (byA eNcX8_visit (p := 62) (v := 21) (by decide +kernel)) (byA eNcX8_visit (p := 63) (v := 7) (by decide +kernel))
theorem dX8_visit_64 : decode cX8_visit 64 = .ok (.aload_n 0, 1) := dc_42 (byA eNcX8_visit (p := 64) (v := 42) (by decide +kernel))
theorem dX8_visit_65 : decode cX8_visit 65 = .ok (.getfield 18, 3) := dc_180 (byA eNcX8_visit (p := 65) (v := 180) (by decide +kernel)) (byA eNcX8_visit (p := 66) (v := 0) (by decide +kernel)) (byA eNcX8_visit (p := 67) (v := 18) (by decide +kernel)) rfl
theorem dX8_visit_68 : decode cX8_visit 68 = .ok (.getfield 45, 3) := dc_180 (byA eNcX8_visit (p := 68) (v := 180) (by decide +kernel)) (byA eNcX8_visit (p := 69) (v := 0) (by decide +kernel)) (byA eNcX8_visit (p := 70) (v := 45) (by decide +kernel)) rfl
theorem dX8_visit_71 : decode cX8_visit 71 = .ok (.if_icmp .ge 76, 3) := dc_162 (byA eNcX8_visit (p := 71) (v := 162) (by decide +kernel)) (byA eNcX8_visit (p := 72) (v := 0) (by decide +kernel)) (byA eNcX8_visit (p := 73) (v := 76) (by decide +kernel)) (by decide +kernel)
theorem dX8_visit_74 : decode cX8_visit 74 = .ok (.aload_n 0, 1) := dc_42 (byA eNcX8_visit (p := 74) (v := 42) (by decide +kernel))
theorem dX8_visit_75 : decode cX8_visit 75 = .ok (.getfield 32, 3) := dc_180 (byA eNcX8_visit (p := 75) (v := 180) (by decide +kernel)) (byA eNcX8_visit (p := 76) (v := 0) (by decide +kernel)) (byA eNcX8_visit (p := 77) (v := 32) (by decide +kernel)) rfl
theorem dX8_visit_78 : decode cX8_visit 78 = .ok (.iconst (-1), 1) := dc_2 (byA eNcX8_visit (p := 78) (v := 2) (by decide +kernel))
theorem dX8_visit_79 : decode cX8_visit 79 = .ok (.if_icmp .ne 68, 3) := dc_160 (byA eNcX8_visit (p := 79) (v := 160) (by decide +kernel)) (byA eNcX8_visit (p := 80) (v := 0) (by decide +kernel)) (byA eNcX8_visit (p := 81) (v := 68) (by decide +kernel)) (by decide +kernel)
theorem dX8_visit_82 : decode cX8_visit 82 = .ok (.iload_n 3, 1) := dc_29 (byA eNcX8_visit (p := 82) (v := 29) (by decide +kernel))
theorem dX8_visit_83 : decode cX8_visit 83 = .ok (.iload 7, 2) := dc_21 (byA eNcX8_visit (p := 83) (v := 21) (by decide +kernel)) (byA eNcX8_visit (p := 84) (v := 7) (by decide +kernel))
theorem dX8_visit_85 : decode cX8_visit 85 = .ok (.ishr, 1) := dc_122 (byA eNcX8_visit (p := 85) (v := 122) (by decide +kernel))
theorem dX8_visit_86 : decode cX8_visit 86 = .ok (.iconst 1, 1) := dc_4 (byA eNcX8_visit (p := 86) (v := 4) (by decide +kernel))
theorem dX8_visit_87 : decode cX8_visit 87 = .ok (.iand, 1) := dc_126 (byA eNcX8_visit (p := 87) (v := 126) (by decide +kernel))
theorem dX8_visit_88 : decode cX8_visit 88 = .ok (.iconst 1, 1) := dc_4 (byA eNcX8_visit (p := 88) (v := 4) (by decide +kernel))
theorem dX8_visit_89 : decode cX8_visit 89 = .ok (.if_icmp .ne 7, 3) := dc_160 (byA eNcX8_visit (p := 89) (v := 160) (by decide +kernel)) (byA eNcX8_visit (p := 90) (v := 0) (by decide +kernel)) (byA eNcX8_visit (p := 91) (v := 7) (by decide +kernel)) (by decide +kernel)
theorem dX8_visit_92 : decode cX8_visit 92 = .ok (.iconst (-1), 1) := dc_2 (byA eNcX8_visit (p := 92) (v := 2) (by decide +kernel))
theorem dX8_visit_93 : decode cX8_visit 93 = .ok (.goto 16, 3) := dc_167 (byA eNcX8_visit (p := 93) (v := 167) (by decide +kernel)) (byA eNcX8_visit (p := 94) (v := 0) (by decide +kernel)) (byA eNcX8_visit (p := 95) (v := 16) (by decide +kernel)) (by decide +kernel)
theorem dX8_visit_96 : decode cX8_visit 96 = .ok (.aload_n 0, 1) := dc_42 (byA eNcX8_visit (p := 96) (v := 42) (by decide +kernel))
theorem dX8_visit_97 : decode cX8_visit 97 = .ok (.getfield 18, 3) := dc_180 (byA eNcX8_visit (p := 97) (v := 180) (by decide +kernel)) (byA eNcX8_visit (p := 98) (v := 0) (by decide +kernel)) (byA eNcX8_visit (p := 99) (v := 18) (by decide +kernel)) rfl
theorem dX8_visit_100 : decode cX8_visit 100 = .ok (.iload 5, 2) := dc_21 (byA eNcX8_visit (p := 100) (v := 21) (by decide +kernel)) (byA eNcX8_visit (p := 101) (v := 5) (by decide +kernel))
theorem dX8_visit_102 : decode cX8_visit 102 = .ok (.iload 4, 2) := dc_21 (byA eNcX8_visit (p := 102) (v := 21) (by decide +kernel)) (byA eNcX8_visit (p := 103) (v := 4) (by decide +kernel))
theorem dX8_visit_104 : decode cX8_visit 104 = .ok (.iload 7, 2) := dc_21 (byA eNcX8_visit (p := 104) (v := 21) (by decide +kernel)) (byA eNcX8_visit (p := 105) (v := 7) (by decide +kernel))
theorem dX8_visit_106 : decode cX8_visit 106 = .ok (.invokevirtual 50, 3) := dc_182 (byA eNcX8_visit (p := 106) (v := 182) (by decide +kernel)) (byA eNcX8_visit (p := 107) (v := 0) (by decide +kernel)) (byA eNcX8_visit (p := 108) (v := 50) (by decide +kernel)) rfl
theorem dX8_visit_109 : decode cX8_visit 109 = .ok (.istore 8, 2) := dc_54 (byA eNcX8_visit (p := 109) (v := 54) (by decide +kernel)) (byA eNcX8_visit (p := 110) (v := 8) (by decide +kernel))
theorem dX8_visit_111 : decode cX8_visit 111 = .ok (.iload 8, 2) := dc_21 (byA eNcX8_visit (p := 111) (v := 21) (by decide +kernel)) (byA eNcX8_visit (p := 112) (v := 8) (by decide +kernel))
theorem dX8_visit_113 : decode cX8_visit 113 = .ok (.iconst (-1), 1) := dc_2 (byA eNcX8_visit (p := 113) (v := 2) (by decide +kernel))
theorem dX8_visit_114 : decode cX8_visit 114 = .ok (.if_icmp .eq 27, 3) := dc_159 (byA eNcX8_visit (p := 114) (v := 159) (by decide +kernel)) (byA eNcX8_visit (p := 115) (v := 0) (by decide +kernel)) (byA eNcX8_visit (p := 116) (v := 27) (by decide +kernel)) (by decide +kernel)
theorem dX8_visit_117 : decode cX8_visit 117 = .ok (.aload_n 0, 1) := dc_42 (byA eNcX8_visit (p := 117) (v := 42) (by decide +kernel))
theorem dX8_visit_118 : decode cX8_visit 118 = .ok (.iload_n 1, 1) := dc_27 (byA eNcX8_visit (p := 118) (v := 27) (by decide +kernel))
theorem dX8_visit_119 : decode cX8_visit 119 = .ok (.iload_n 2, 1) := dc_28 (byA eNcX8_visit (p := 119) (v := 28) (by decide +kernel))
theorem dX8_visit_120 : decode cX8_visit 120 = .ok (.iload_n 3, 1) := dc_29 (byA eNcX8_visit (p := 120) (v := 29) (by decide +kernel))
theorem dX8_visit_121 : decode cX8_visit 121 = .ok (.iconst 1, 1) := dc_4 (byA eNcX8_visit (p := 121) (v := 4) (by decide +kernel))
theorem dX8_visit_122 : decode cX8_visit 122 = .ok (.iload 7, 2) := dc_21 (byA eNcX8_visit (p := 122) (v := 21) (by decide +kernel)) (byA eNcX8_visit (p := 123) (v := 7) (by decide +kernel))
theorem dX8_visit_124 : decode cX8_visit 124 = .ok (.ishl, 1) := dc_120 (byA eNcX8_visit (p := 124) (v := 120) (by decide +kernel))
theorem dX8_visit_125 : decode cX8_visit 125 = .ok (.ior, 1) := dc_128 (byA eNcX8_visit (p := 125) (v := 128) (by decide +kernel))
theorem dX8_visit_126 : decode cX8_visit 126 = .ok (.iload 7, 2) := dc_21 (byA eNcX8_visit (p := 126) (v := 21) (by decide +kernel)) (byA eNcX8_visit (p := 127) (v := 7) (by decide +kernel))
theorem dX8_visit_128 : decode cX8_visit 128 = .ok (.iload 8, 2) := dc_21 (byA eNcX8_visit (p := 128) (v := 21) (by decide +kernel)) (byA eNcX8_visit (p := 129) (v := 8) (by decide +kernel))
theorem dX8_visit_130 : decode cX8_visit 130 = .ok (.bipush 10, 2) := dc_16 (byA eNcX8_visit (p := 130) (v := 16) (by decide +kernel)) (byA eNcX8_visit (p := 131) (v := 10) (by decide +kernel)) (by decide +kernel)
theorem dX8_visit_132 : decode cX8_visit 132 = .ok (.iload 6, 2) := dc_21 (byA eNcX8_visit (p := 132) (v := 21) (by decide +kernel)) (byA eNcX8_visit (p := 133) (v := 6) (by decide +kernel))
theorem dX8_visit_134 : decode cX8_visit 134 = .ok (.imul, 1) := dc_104 (byA eNcX8_visit (p := 134) (v := 104) (by decide +kernel))
theorem dX8_visit_135 : decode cX8_visit 135 = .ok (.iload 7, 2) := dc_21 (byA eNcX8_visit (p := 135) (v := 21) (by decide +kernel)) (byA eNcX8_visit (p := 136) (v := 7) (by decide +kernel))
theorem dX8_visit_137 : decode cX8_visit 137 = .ok (.iadd, 1) := dc_96 (byA eNcX8_visit (p := 137) (v := 96) (by decide +kernel))
theorem dX8_visit_138 : decode cX8_visit 138 = .ok (.invokevirtual 54, 3) := dc_182 (byA eNcX8_visit (p := 138) (v := 182) (by decide +kernel)) (byA eNcX8_visit (p := 139) (v := 0) (by decide +kernel)) (byA eNcX8_visit (p := 140) (v := 54) (by decide +kernel)) rfl
theorem dX8_visit_141 : decode cX8_visit 141 = .ok (.iinc 7 1, 3) := dc_132 (byA eNcX8_visit (p := 141) (v := 132) (by decide +kernel)) (byA eNcX8_visit (p := 142) (v := 7) (by decide +kernel)) (byA eNcX8_visit (p := 143) (v := 1) (by decide +kernel)) (by decide +kernel)
theorem dX8_visit_144 : decode cX8_visit 144 = .ok (.goto (-82), 3) := dc_167 (byA eNcX8_visit (p := 144) (v := 167) (by decide +kernel)) (byA eNcX8_visit (p := 145) (v := 255) (by decide +kernel)) (byA eNcX8_visit (p := 146) (v := 174) (by decide +kernel)) (by decide +kernel)
theorem dX8_visit_147 : decode cX8_visit 147 = .ok (.return_, 1) := dc_177 (byA eNcX8_visit (p := 147) (v := 177) (by decide +kernel))
def X8_visit_J109 (rec : Int → Int → Int → Int → Int → Int → Mm → Rs) (k62 : Int → Mm → Rs) (l1 : Int) (l2 : Int) (l3 : Int) (l4 : Int) (l5 : Int) (l6 : Int) (l7 : Int) (s0 : Int) (μ : Mm) : Rs := if s0 = (-1) then (k62 (iA l7 1) μ) else (bd (X8_follow_o rec l1 l2 (bO l3 (bL 1 l7)) l7 s0 (iA (iM 10 l6) l7) μ) fun v16 μ17 => k62 (iA l7 1) μ17)
def X8_visit_L62 (rec : Int → Int → Int → Int → Int → Int → Mm → Rs) (l1 : Int) (l2 : Int) (l3 : Int) (l4 : Int) (l5 : Int) (l6 : Int) : Nat → Int → Mm → Rs
  | 0, _, _ => none
  | n + 1, l7, μ => mR μ 67 3 (11, 7) fun v5 => if (μ v5 5) ≤ l7 then (some (0, μ)) else (if (μ 67 6) = (-1) then (if (bA (bR l3 l7) 1) = 1 then (X8_visit_J109 rec (fun w7 μq => X8_visit_L62 rec l1 l2 l3 l4 l5 l6 n w7 μq) l1 l2 l3 l4 l5 l6 l7 (-1) μ) else (mR μ 67 3 (11, 7) fun v10 => bd (X1_comes v10 l5 l4 l7 μ) fun v12 μ13 => X8_visit_J109 rec (fun w7 μq => X8_visit_L62 rec l1 l2 l3 l4 l5 l6 n w7 μq) l1 l2 l3 l4 l5 l6 l7 v12 μ13)) else (some (0, μ)))
def X8_visit_J29 (rec : Int → Int → Int → Int → Int → Int → Mm → Rs) (l1 : Int) (l2 : Int) (l3 : Int) (l4 : Int) (l5 : Int) (l6 : Int) (μ : Mm) : Rs := mR μ 67 3 (11, 7) fun v2 => if l1 < (μ v2 5) then (X8_visit_L62 rec l1 l2 l3 l4 l5 l6 FU 0 μ) else (if l2 = (iS (bL 1 (μ 67 2)) 1) then (sF μ 67 6 l6 fun μ20 => some (0, μ20)) else (some (0, μ)))
def X8_visit : Nat → Int → Int → Int → Int → Int → Int → Mm → Rs
  | 0, _, _, _, _, _, _, _ => none
  | n + 1, l1, l2, l3, l4, l5, l6, μ => if l2 = (iS (bL 1 (μ 67 2)) 1) then (mR μ 67 3 (11, 7) fun v21 => bd (X8_passesOver (iS (μ v21 5) l1) μ) fun v23 μ24 => if v23 = 0 then (X8_visit_J29 (fun w0 w1 w2 w3 w4 w5 μq => X8_visit n w0 w1 w2 w3 w4 w5 μq) l1 l2 l3 l4 l5 l6 μ24) else (some (0, μ24))) else (X8_visit_J29 (fun w0 w1 w2 w3 w4 w5 μq => X8_visit n w0 w1 w2 w3 w4 w5 μq) l1 l2 l3 l4 l5 l6 μ)
set_option maxHeartbeats 4000000 in
set_option maxRecDepth 100000 in
theorem kX8_visit_J109 (d : Nat) {d0 : Nat} (hd : d0 + 9 ≤ d) (hb : 12 ≤ d) {rec : Int → Int → Int → Int → Int → Int → Mm → Rs} (hrec : ∀ {q1 : Int} {q2 : Int} {q3 : Int} {q4 : Int} {q5 : Int} {q6 : Int} {μ1 : Mm} {r1 : Int} {μ2 : Mm}, rec q1 q2 q3 q4 q5 q6 μ1 = some (r1, μ2) → CC d0 mX8_visit [vR 67, vI q1, vI q2, vI q3, vI q4, vI q5, vI q6] μ1 r1 μ2) {k62 : Int → Mm → Rs} {l1 : Int} {l2 : Int} {l3 : Int} {l4 : Int} {l5 : Int} {l6 : Int} {l7 : Int} {s0 : Int} {μ : Mm} {r : Int} {μ' : Mm} (hk_62 : ∀ (v7 : Int) (μ1 : Mm), k62 v7 μ1 = some (r, μ') → VV d mX8_visit 62 [some (vR 67), some (vI l1), some (vI l2), some (vI l3), some (vI l4), some (vI l5), some (vI l6), some (vI v7), none] [] μ1 r μ') (h : X8_visit_J109 rec k62 l1 l2 l3 l4 l5 l6 l7 s0 μ = some (r, μ')) : VV d mX8_visit 109 [some (vR 67), some (vI l1), some (vI l2), some (vI l3), some (vI l4), some (vI l5), some (vI l6), some (vI l7), none] [vI s0] μ r μ' := by
  unfold X8_visit_J109 at h
  refine V_istore (q := 111) dX8_visit_109 (Nat.le_of_ble_eq_true rfl) trivial rfl ?_
  refine V_iload (q := 113) dX8_visit_111 rfl rfl ?_
  refine V_iconst (q := 114) dX8_visit_113 rfl rfl ?_
  refine V_icmpeq (q := 141) (q2 := 117) dX8_visit_114 (by decide) rfl (fun hc15 => ?_) (fun hc15 => ?_)
  · have h := ifT hc15 h
    refine V_iinc (q := 144) dX8_visit_141 rfl (Nat.le_of_ble_eq_true rfl) trivial rfl ?_
    refine V_goto (q := 62) dX8_visit_144 (by decide) ?_
    exact V_weak (hk_62 _ _ h) (sb_s rfl (sb_s rfl (sb_s rfl (sb_s rfl (sb_s rfl (sb_s rfl (sb_s rfl (sb_s rfl (sb_n sb_0)))))))))
  · have h := ifF hc15 h
    refine V_aload_n (q := 118) dX8_visit_117 rfl rfl rfl ?_
    refine V_iload_n (q := 119) dX8_visit_118 rfl rfl rfl ?_
    refine V_iload_n (q := 120) dX8_visit_119 rfl rfl rfl ?_
    refine V_iload_n (q := 121) dX8_visit_120 rfl rfl rfl ?_
    refine V_iconst (q := 122) dX8_visit_121 rfl rfl ?_
    refine V_iload (q := 124) dX8_visit_122 rfl rfl ?_
    refine V_ishl (q := 125) dX8_visit_124 rfl ?_
    refine V_ior (q := 126) dX8_visit_125 rfl ?_
    refine V_iload (q := 128) dX8_visit_126 rfl rfl ?_
    refine V_iload (q := 130) dX8_visit_128 rfl rfl ?_
    refine V_bipush (q := 132) dX8_visit_130 rfl rfl rfl ?_
    refine V_iload (q := 134) dX8_visit_132 rfl rfl ?_
    refine V_imul (q := 135) dX8_visit_134 rfl ?_
    refine V_iload (q := 137) dX8_visit_135 rfl rfl ?_
    refine V_iadd (q := 138) dX8_visit_137 rfl ?_
    obtain ⟨v16, μ17, hc18, h⟩ := bd_i h
    refine V_cV0 (q := 141) (kX8_follow (d - 1) (by omega) hrec (by omega) hc18) (by omega) mv_X8_54 rfl rfl rfl rfl rfl rfl dX8_visit_138 rfl ?_
    refine V_iinc (q := 144) dX8_visit_141 rfl (Nat.le_of_ble_eq_true rfl) trivial rfl ?_
    refine V_goto (q := 62) dX8_visit_144 (by decide) ?_
    exact V_weak (hk_62 _ _ h) (sb_s rfl (sb_s rfl (sb_s rfl (sb_s rfl (sb_s rfl (sb_s rfl (sb_s rfl (sb_s rfl (sb_n sb_0)))))))))
set_option maxHeartbeats 4000000 in
set_option maxRecDepth 100000 in
theorem kX8_visit_L62 (d : Nat) {d0 : Nat} (hd : d0 + 9 ≤ d) (hb : 12 ≤ d) {rec : Int → Int → Int → Int → Int → Int → Mm → Rs} (hrec : ∀ {q1 : Int} {q2 : Int} {q3 : Int} {q4 : Int} {q5 : Int} {q6 : Int} {μ1 : Mm} {r1 : Int} {μ2 : Mm}, rec q1 q2 q3 q4 q5 q6 μ1 = some (r1, μ2) → CC d0 mX8_visit [vR 67, vI q1, vI q2, vI q3, vI q4, vI q5, vI q6] μ1 r1 μ2) {l1 : Int} {l2 : Int} {l3 : Int} {l4 : Int} {l5 : Int} {l6 : Int} {r : Int} {μ' : Mm} : ∀ (n : Nat) {l7 : Int} {μ : Mm}, X8_visit_L62 rec l1 l2 l3 l4 l5 l6 n l7 μ = some (r, μ') → VV d mX8_visit 62 [some (vR 67), some (vI l1), some (vI l2), some (vI l3), some (vI l4), some (vI l5), some (vI l6), some (vI l7), none] [] μ r μ' := by
  intro n
  induction n with
  | zero => intro l7 μ h; rw [X8_visit_L62] at h; cases h
  | succ n ih =>
    intro l7 μ h
    rw [X8_visit_L62] at h
    refine V_iload (q := 64) dX8_visit_62 rfl rfl ?_
    refine V_aload_n (q := 65) dX8_visit_64 rfl rfl rfl ?_
    obtain ⟨hm6, h⟩ := mR_i h
    refine V_getM (q := 68) fl_X8_18 rfl rfl rfl dX8_visit_65 rfl ?_
    refine V_getI (q := 71) fl_X8_45 hm6 rfl rfl dX8_visit_68 rfl ?_
    refine V_icmpge (q := 147) (q2 := 74) dX8_visit_71 (by decide) rfl (fun hc7 => ?_) (fun hc7 => ?_)
    · have h := ifT hc7 h
      exact V_vret rfl h dX8_visit_147
    · have h := ifF hc7 h
      refine V_aload_n (q := 75) dX8_visit_74 rfl rfl rfl ?_
      refine V_getI (q := 78) fl_X8_32 rfl rfl rfl dX8_visit_75 rfl ?_
      refine V_iconst (q := 79) dX8_visit_78 rfl rfl ?_
      refine V_icmpne (q := 147) (q2 := 82) dX8_visit_79 (by decide) rfl (fun hc8 => ?_) (fun hc8 => ?_)
      · have h := ifF hc8 h
        exact V_vret rfl h dX8_visit_147
      · have h := ifT hc8 h
        refine V_iload_n (q := 83) dX8_visit_82 rfl rfl rfl ?_
        refine V_iload (q := 85) dX8_visit_83 rfl rfl ?_
        refine V_ishr (q := 86) dX8_visit_85 rfl ?_
        refine V_iconst (q := 87) dX8_visit_86 rfl rfl ?_
        refine V_iand (q := 88) dX8_visit_87 rfl ?_
        refine V_iconst (q := 89) dX8_visit_88 rfl rfl ?_
        refine V_icmpne (q := 96) (q2 := 92) dX8_visit_89 (by decide) rfl (fun hc9 => ?_) (fun hc9 => ?_)
        · have h := ifF hc9 h
          refine V_aload_n (q := 97) dX8_visit_96 rfl rfl rfl ?_
          obtain ⟨hm11, h⟩ := mR_i h
          refine V_getM (q := 100) fl_X8_18 rfl rfl rfl dX8_visit_97 rfl ?_
          refine V_iload (q := 102) dX8_visit_100 rfl rfl ?_
          refine V_iload (q := 104) dX8_visit_102 rfl rfl ?_
          refine V_iload (q := 106) dX8_visit_104 rfl rfl ?_
          obtain ⟨v12, μ13, hc14, h⟩ := bd_i h
          refine V_cV1 (q := 109) (v := vI v12) (kX1_comes (d - 1) (by omega) hm11 hc14) (by omega) mv_X8_50 hm11 rfl rfl rfl rfl rfl dX8_visit_106 rfl ?_
          exact V_weak (kX8_visit_J109 d hd hb hrec (fun _ _ h => ih h) h) (sb_s rfl (sb_s rfl (sb_s rfl (sb_s rfl (sb_s rfl (sb_s rfl (sb_s rfl (sb_s rfl (sb_n sb_0)))))))))
        · have h := ifT hc9 h
          refine V_iconst (q := 93) dX8_visit_92 rfl rfl ?_
          refine V_goto (q := 109) dX8_visit_93 (by decide) ?_
          exact V_weak (kX8_visit_J109 d hd hb hrec (fun _ _ h => ih h) h) (sb_s rfl (sb_s rfl (sb_s rfl (sb_s rfl (sb_s rfl (sb_s rfl (sb_s rfl (sb_s rfl (sb_n sb_0)))))))))
set_option maxHeartbeats 4000000 in
set_option maxRecDepth 100000 in
theorem kX8_visit_J29 (d : Nat) {d0 : Nat} (hd : d0 + 9 ≤ d) (hb : 12 ≤ d) {rec : Int → Int → Int → Int → Int → Int → Mm → Rs} (hrec : ∀ {q1 : Int} {q2 : Int} {q3 : Int} {q4 : Int} {q5 : Int} {q6 : Int} {μ1 : Mm} {r1 : Int} {μ2 : Mm}, rec q1 q2 q3 q4 q5 q6 μ1 = some (r1, μ2) → CC d0 mX8_visit [vR 67, vI q1, vI q2, vI q3, vI q4, vI q5, vI q6] μ1 r1 μ2) {l1 : Int} {l2 : Int} {l3 : Int} {l4 : Int} {l5 : Int} {l6 : Int} {μ : Mm} {r : Int} {μ' : Mm} (h : X8_visit_J29 rec l1 l2 l3 l4 l5 l6 μ = some (r, μ')) : VV d mX8_visit 29 [some (vR 67), some (vI l1), some (vI l2), some (vI l3), some (vI l4), some (vI l5), some (vI l6), none, none] [] μ r μ' := by
  unfold X8_visit_J29 at h
  refine V_iload_n (q := 30) dX8_visit_29 rfl rfl rfl ?_
  refine V_aload_n (q := 31) dX8_visit_30 rfl rfl rfl ?_
  obtain ⟨hm3, h⟩ := mR_i h
  refine V_getM (q := 34) fl_X8_18 rfl rfl rfl dX8_visit_31 rfl ?_
  refine V_getI (q := 37) fl_X8_45 hm3 rfl rfl dX8_visit_34 rfl ?_
  refine V_icmplt (q := 59) (q2 := 40) dX8_visit_37 (by decide) rfl (fun hc4 => ?_) (fun hc4 => ?_)
  · have h := ifT hc4 h
    refine V_iconst (q := 60) dX8_visit_59 rfl rfl ?_
    refine V_istore (q := 62) dX8_visit_60 (Nat.le_of_ble_eq_true rfl) trivial rfl ?_
    exact V_weak (kX8_visit_L62 d hd hb hrec  FU h) (sb_s rfl (sb_s rfl (sb_s rfl (sb_s rfl (sb_s rfl (sb_s rfl (sb_s rfl (sb_s rfl (sb_n sb_0)))))))))
  · have h := ifF hc4 h
    refine V_iload_n (q := 41) dX8_visit_40 rfl rfl rfl ?_
    refine V_iconst (q := 42) dX8_visit_41 rfl rfl ?_
    refine V_aload_n (q := 43) dX8_visit_42 rfl rfl rfl ?_
    refine V_getI (q := 46) fl_X8_22 rfl rfl rfl dX8_visit_43 rfl ?_
    refine V_ishl (q := 47) dX8_visit_46 rfl ?_
    refine V_iconst (q := 48) dX8_visit_47 rfl rfl ?_
    refine V_isub (q := 49) dX8_visit_48 rfl ?_
    refine V_icmpne (q := 58) (q2 := 52) dX8_visit_49 (by decide) rfl (fun hc19 => ?_) (fun hc19 => ?_)
    · have h := ifF hc19 h
      exact V_vret rfl h dX8_visit_58
    · have h := ifT hc19 h
      refine V_aload_n (q := 53) dX8_visit_52 rfl rfl rfl ?_
      refine V_iload (q := 55) dX8_visit_53 rfl rfl ?_
      have h := sF_i h
      refine V_putI (q := 58) fl_X8_32 rfl rfl rfl dX8_visit_55 rfl ?_
      exact V_vret rfl h dX8_visit_58
set_option maxHeartbeats 4000000 in
set_option maxRecDepth 100000 in
theorem kX8_visit : ∀ (n d : Nat) (hd : 10 * n + 13 ≤ d) {l1 : Int} {l2 : Int} {l3 : Int} {l4 : Int} {l5 : Int} {l6 : Int} {μ : Mm} {r : Int} {μ' : Mm} (h : X8_visit n l1 l2 l3 l4 l5 l6 μ = some (r, μ')), CC d mX8_visit [vR 67, vI l1, vI l2, vI l3, vI l4, vI l5, vI l6] μ r μ' := by
  intro n
  induction n with
  | zero => intro d hd l1 l2 l3 l4 l5 l6   μ r μ' h; rw [X8_visit] at h; cases h
  | succ n ih =>
    intro d hd l1 l2 l3 l4 l5 l6   μ r μ' h
    have hb : 12 ≤ d := by omega
    obtain ⟨d0, hd0⟩ : ∃ z, z = 10 * n + 13 := ⟨_, rfl⟩
    have hd : d0 + 10 ≤ d := by omega
    have hrec : ∀ {q1 : Int} {q2 : Int} {q3 : Int} {q4 : Int} {q5 : Int} {q6 : Int} {μ1 : Mm} {r1 : Int} {μ2 : Mm}, ((fun w0 w1 w2 w3 w4 w5 μq => X8_visit n w0 w1 w2 w3 w4 w5 μq)) q1 q2 q3 q4 q5 q6 μ1 = some (r1, μ2) → CC d0 mX8_visit [vR 67, vI q1, vI q2, vI q3, vI q4, vI q5, vI q6] μ1 r1 μ2 := fun h1 => ih d0 (by omega) h1
    rw [X8_visit] at h
    refine V_enter (by decide) (Nat.le_of_ble_eq_true rfl) ?_
    show VV d mX8_visit 0 [some (vR 67), some (vI l1), some (vI l2), some (vI l3), some (vI l4), some (vI l5), some (vI l6), none, none] [] μ r μ'
    refine V_iload_n (q := 1) dX8_visit_0 rfl rfl rfl ?_
    refine V_iconst (q := 2) dX8_visit_1 rfl rfl ?_
    refine V_aload_n (q := 3) dX8_visit_2 rfl rfl rfl ?_
    refine V_getI (q := 6) fl_X8_22 rfl rfl rfl dX8_visit_3 rfl ?_
    refine V_ishl (q := 7) dX8_visit_6 rfl ?_
    refine V_iconst (q := 8) dX8_visit_7 rfl rfl ?_
    refine V_isub (q := 9) dX8_visit_8 rfl ?_
    refine V_icmpne (q := 29) (q2 := 12) dX8_visit_9 (by decide) rfl (fun hc1 => ?_) (fun hc1 => ?_)
    · have h := ifF hc1 h
      exact V_weak (kX8_visit_J29 d (by omega) hb hrec h) (sb_s rfl (sb_s rfl (sb_s rfl (sb_s rfl (sb_s rfl (sb_s rfl (sb_s rfl (sb_n (sb_n sb_0)))))))))
    · have h := ifT hc1 h
      refine V_aload_n (q := 13) dX8_visit_12 rfl rfl rfl ?_
      refine V_aload_n (q := 14) dX8_visit_13 rfl rfl rfl ?_
      obtain ⟨hm22, h⟩ := mR_i h
      refine V_getM (q := 17) fl_X8_18 rfl rfl rfl dX8_visit_14 rfl ?_
      refine V_getI (q := 20) fl_X8_45 hm22 rfl rfl dX8_visit_17 rfl ?_
      refine V_iload_n (q := 21) dX8_visit_20 rfl rfl rfl ?_
      refine V_isub (q := 22) dX8_visit_21 rfl ?_
      obtain ⟨v23, μ24, hc25, h⟩ := bd_i h
      refine V_cV1 (q := 25) (v := vI v23) (kX8_passesOver (d - 1) (by omega) hc25) (by omega) mv_X8_46 rfl rfl rfl rfl rfl rfl dX8_visit_22 rfl ?_
      refine V_ifeq (q := 29) (q2 := 28) dX8_visit_25 (by decide) rfl (fun hc26 => ?_) (fun hc26 => ?_)
      · have h := ifT hc26 h
        exact V_weak (kX8_visit_J29 d (by omega) hb hrec h) (sb_s rfl (sb_s rfl (sb_s rfl (sb_s rfl (sb_s rfl (sb_s rfl (sb_s rfl (sb_n (sb_n sb_0)))))))))
      · have h := ifF hc26 h
        exact V_vret rfl h dX8_visit_28
theorem kX8_follow_c (d : Nat) (hd : 135 ≤ d) {l1 : Int} {l2 : Int} {l3 : Int} {l4 : Int} {l5 : Int} {l6 : Int} {μ : Mm} {r : Int} {μ' : Mm} (h : X8_follow_o (X8_visit RD) l1 l2 l3 l4 l5 l6 μ = some (r, μ')) : CC d mX8_follow [vR 67, vI l1, vI l2, vI l3, vI l4, vI l5, vI l6] μ r μ' := kX8_follow (d0 := 10 * RD + 13) d (by unfold RD; omega) (fun h1 => kX8_visit RD _ (Nat.le_refl _) h1) (by omega) h
abbrev mX8_fitting : Mth := (yX8_fitting, cX8_fitting, 3, some .int)
set_option maxRecDepth 100000 in
theorem mi_X8_fitting : Cond.instanceMethod yX8_fitting ∈ tG ∧ Cond.selects yX8_fitting.cls yX8_fitting yX8_fitting ∈ tG ∧ Cond.initialized yX8_fitting.cls ∈ tG ∧ Cond.code yX8_fitting cX8_fitting 3 (some .int) ∈ tG ∧ (yX8_fitting.cls ≠ "java/lang/invoke/MethodHandle" ∧ yX8_fitting.cls ≠ "java/lang/invoke/VarHandle" ∧ (parseMethodDescriptor yX8_fitting.desc).map (fun d => d.parameters.length) = some 2) ∧ 3 ≤ 60 := ⟨(tG_of (tb4 (List.mem_of_getElem? (i := 212) rfl)) (by decide +kernel)), (tG_of (tb4 (List.mem_of_getElem? (i := 213) rfl)) (by decide +kernel)), (tG_of (tb1 (List.mem_of_getElem? (i := 11) rfl)) (by decide +kernel)), (tG_of (tb4 (List.mem_of_getElem? (i := 214) rfl)) (by decide +kernel)), ⟨by decide, by decide, by decide +kernel⟩, by decide⟩
set_option maxRecDepth 100000 in
theorem mv_X10_355 : mV RX10 355 mX8_fitting 2 := ⟨(tG_of (tb4 (List.mem_of_getElem? (i := 211) rfl)) (by decide +kernel)), mi_X8_fitting⟩
theorem dX8_fitting_0 : decode cX8_fitting 0 = .ok (.aload_n 0, 1) := dc_42 (byA eNcX8_fitting (p := 0) (v := 42) (by decide +kernel))
theorem dX8_fitting_1 : decode cX8_fitting 1 = .ok (.aload_n 1, 1) := dc_43 (byA eNcX8_fitting (p := 1) (v := 43) (by decide +kernel))
theorem dX8_fitting_2 : decode cX8_fitting 2 = .ok (.putfield 18, 3) := dc_181 (byA eNcX8_fitting (p := 2) (v := 181) (by decide +kernel)) (byA eNcX8_fitting (p := 3) (v := 0) (by decide +kernel)) (byA eNcX8_fitting (p := 4) (v := 18) (by decide +kernel)) rfl
theorem dX8_fitting_5 : decode cX8_fitting 5 = .ok (.aload_n 0, 1) := dc_42 (byA eNcX8_fitting (p := 5) (v := 42) (by decide +kernel))
theorem dX8_fitting_6 : decode cX8_fitting 6 = .ok (.iload_n 2, 1) := dc_28 (byA eNcX8_fitting (p := 6) (v := 28) (by decide +kernel))
theorem dX8_fitting_7 : decode cX8_fitting 7 = .ok (.putfield 26, 3) := dc_181 (byA eNcX8_fitting (p := 7) (v := 181) (by decide +kernel)) (byA eNcX8_fitting (p := 8) (v := 0) (by decide +kernel)) (byA eNcX8_fitting (p := 9) (v := 26) (by decide +kernel)) rfl
theorem dX8_fitting_10 : decode cX8_fitting 10 = .ok (.aload_n 0, 1) := dc_42 (byA eNcX8_fitting (p := 10) (v := 42) (by decide +kernel))
theorem dX8_fitting_11 : decode cX8_fitting 11 = .ok (.iconst 0, 1) := dc_3 (byA eNcX8_fitting (p := 11) (v := 3) (by decide +kernel))
theorem dX8_fitting_12 : decode cX8_fitting 12 = .ok (.putfield 29, 3) := dc_181 (byA eNcX8_fitting (p := 12) (v := 181) (by decide +kernel)) (byA eNcX8_fitting (p := 13) (v := 0) (by decide +kernel)) (byA eNcX8_fitting (p := 14) (v := 29) (by decide +kernel)) rfl
theorem dX8_fitting_15 : decode cX8_fitting 15 = .ok (.aload_n 0, 1) := dc_42 (byA eNcX8_fitting (p := 15) (v := 42) (by decide +kernel))
theorem dX8_fitting_16 : decode cX8_fitting 16 = .ok (.iconst (-1), 1) := dc_2 (byA eNcX8_fitting (p := 16) (v := 2) (by decide +kernel))
theorem dX8_fitting_17 : decode cX8_fitting 17 = .ok (.putfield 32, 3) := dc_181 (byA eNcX8_fitting (p := 17) (v := 181) (by decide +kernel)) (byA eNcX8_fitting (p := 18) (v := 0) (by decide +kernel)) (byA eNcX8_fitting (p := 19) (v := 32) (by decide +kernel)) rfl
theorem dX8_fitting_20 : decode cX8_fitting 20 = .ok (.aload_n 0, 1) := dc_42 (byA eNcX8_fitting (p := 20) (v := 42) (by decide +kernel))
theorem dX8_fitting_21 : decode cX8_fitting 21 = .ok (.getfield 18, 3) := dc_180 (byA eNcX8_fitting (p := 21) (v := 180) (by decide +kernel)) (byA eNcX8_fitting (p := 22) (v := 0) (by decide +kernel)) (byA eNcX8_fitting (p := 23) (v := 18) (by decide +kernel)) rfl
theorem dX8_fitting_24 : decode cX8_fitting 24 = .ok (.invokevirtual 35, 3) := dc_182 (byA eNcX8_fitting (p := 24) (v := 182) (by decide +kernel)) (byA eNcX8_fitting (p := 25) (v := 0) (by decide +kernel)) (byA eNcX8_fitting (p := 26) (v := 35) (by decide +kernel)) rfl
theorem dX8_fitting_27 : decode cX8_fitting 27 = .ok (.ifCond .eq 14, 3) := dc_153 (byA eNcX8_fitting (p := 27) (v := 153) (by decide +kernel)) (byA eNcX8_fitting (p := 28) (v := 0) (by decide +kernel)) (byA eNcX8_fitting (p := 29) (v := 14) (by decide +kernel)) (by decide +kernel)
theorem dX8_fitting_30 : decode cX8_fitting 30 = .ok (.aload_n 0, 1) := dc_42 (byA eNcX8_fitting (p := 30) (v := 42) (by decide +kernel))
theorem dX8_fitting_31 : decode cX8_fitting 31 = .ok (.iconst 0, 1) := dc_3 (byA eNcX8_fitting (p := 31) (v := 3) (by decide +kernel))
theorem dX8_fitting_32 : decode cX8_fitting 32 = .ok (.iconst 0, 1) := dc_3 (byA eNcX8_fitting (p := 32) (v := 3) (by decide +kernel))
theorem dX8_fitting_33 : decode cX8_fitting 33 = .ok (.iconst 0, 1) := dc_3 (byA eNcX8_fitting (p := 33) (v := 3) (by decide +kernel))
theorem dX8_fitting_34 : decode cX8_fitting 34 = .ok (.bipush 8, 2) := dc_16 (byA eNcX8_fitting (p := 34) (v := 16) (by decide +kernel)) (byA eNcX8_fitting (p := 35) (v := 8) (by decide +kernel)) (by decide +kernel)
theorem dX8_fitting_36 : decode cX8_fitting 36 = .ok (.iconst 0, 1) := dc_3 (byA eNcX8_fitting (p := 36) (v := 3) (by decide +kernel))
theorem dX8_fitting_37 : decode cX8_fitting 37 = .ok (.iconst 0, 1) := dc_3 (byA eNcX8_fitting (p := 37) (v := 3) (by decide +kernel))
theorem dX8_fitting_38 : decode cX8_fitting 38 = .ok (.invokevirtual 41, 3) := dc_182 (byA eNcX8_fitting (p := 38) (v := 182) (by decide +kernel)) (byA eNcX8_fitting (p := 39) (v := 0) (by decide +kernel)) (byA eNcX8_fitting (p := 40) (v := 41) (by decide +kernel)) rfl
theorem dX8_fitting_41 : decode cX8_fitting 41 = .ok (.iload_n 2, 1) := dc_28 (byA eNcX8_fitting (p := 41) (v := 28) (by decide +kernel))
theorem dX8_fitting_42 : decode cX8_fitting 42 = .ok (.iconst (-1), 1) := dc_2 (byA eNcX8_fitting (p := 42) (v := 2) (by decide +kernel))
theorem dX8_fitting_43 : decode cX8_fitting 43 = .ok (.if_icmp .ne 10, 3) := dc_160 (byA eNcX8_fitting (p := 43) (v := 160) (by decide +kernel)) (byA eNcX8_fitting (p := 44) (v := 0) (by decide +kernel)) (byA eNcX8_fitting (p := 45) (v := 10) (by decide +kernel)) (by decide +kernel)
theorem dX8_fitting_46 : decode cX8_fitting 46 = .ok (.aload_n 0, 1) := dc_42 (byA eNcX8_fitting (p := 46) (v := 42) (by decide +kernel))
theorem dX8_fitting_47 : decode cX8_fitting 47 = .ok (.getfield 29, 3) := dc_180 (byA eNcX8_fitting (p := 47) (v := 180) (by decide +kernel)) (byA eNcX8_fitting (p := 48) (v := 0) (by decide +kernel)) (byA eNcX8_fitting (p := 49) (v := 29) (by decide +kernel)) rfl
theorem dX8_fitting_50 : decode cX8_fitting 50 = .ok (.goto 7, 3) := dc_167 (byA eNcX8_fitting (p := 50) (v := 167) (by decide +kernel)) (byA eNcX8_fitting (p := 51) (v := 0) (by decide +kernel)) (byA eNcX8_fitting (p := 52) (v := 7) (by decide +kernel)) (by decide +kernel)
theorem dX8_fitting_53 : decode cX8_fitting 53 = .ok (.aload_n 0, 1) := dc_42 (byA eNcX8_fitting (p := 53) (v := 42) (by decide +kernel))
theorem dX8_fitting_54 : decode cX8_fitting 54 = .ok (.getfield 32, 3) := dc_180 (byA eNcX8_fitting (p := 54) (v := 180) (by decide +kernel)) (byA eNcX8_fitting (p := 55) (v := 0) (by decide +kernel)) (byA eNcX8_fitting (p := 56) (v := 32) (by decide +kernel)) rfl
theorem dX8_fitting_57 : decode cX8_fitting 57 = .ok (.ireturn, 1) := dc_172 (byA eNcX8_fitting (p := 57) (v := 172) (by decide +kernel))
def X8_fitting_J41 (l2 : Int) (μ : Mm) : Rs := if l2 = (-1) then (some (μ 67 5, μ)) else (some (μ 67 6, μ))
def X8_fitting (l1 : Nat) (l2 : Int) (μ : Mm) : Rs := sF μ 67 3 ((l1 : Nat) : Int) fun μ1 => sF μ1 67 4 l2 fun μ2 => sF μ2 67 5 0 fun μ3 => sF μ3 67 6 (-1) fun μ4 => mR μ4 67 3 (11, 7) fun v5 => bd (X1_canBe v5 μ4) fun v7 μ8 => if v7 = 0 then (X8_fitting_J41 l2 μ8) else (bd (X8_visit RD 0 0 0 8 0 0 μ8) fun v12 μ13 => X8_fitting_J41 l2 μ13)
set_option maxHeartbeats 4000000 in
set_option maxRecDepth 100000 in
theorem kX8_fitting_J41 (d : Nat) (hd : 134 ≤ d) {l2 : Int} {μ : Mm} {r : Int} {μ' : Mm} (h : X8_fitting_J41 l2 μ = some (r, μ')) : VV d mX8_fitting 41 [some (vR 67), none, some (vI l2)] [] μ r μ' := by
  unfold X8_fitting_J41 at h
  refine V_iload_n (q := 42) dX8_fitting_41 rfl rfl rfl ?_
  refine V_iconst (q := 43) dX8_fitting_42 rfl rfl ?_
  refine V_icmpne (q := 53) (q2 := 46) dX8_fitting_43 (by decide) rfl (fun hc11 => ?_) (fun hc11 => ?_)
  · have h := ifF hc11 h
    refine V_aload_n (q := 54) dX8_fitting_53 rfl rfl rfl ?_
    refine V_getI (q := 57) fl_X8_32 rfl rfl rfl dX8_fitting_54 rfl ?_
    exact V_iret rfl h dX8_fitting_57
  · have h := ifT hc11 h
    refine V_aload_n (q := 47) dX8_fitting_46 rfl rfl rfl ?_
    refine V_getI (q := 50) fl_X8_29 rfl rfl rfl dX8_fitting_47 rfl ?_
    refine V_goto (q := 57) dX8_fitting_50 (by decide) ?_
    exact V_iret rfl h dX8_fitting_57
set_option maxHeartbeats 4000000 in
set_option maxRecDepth 100000 in
theorem kX8_fitting (d : Nat) (hd : 134 ≤ d) {l1 : Nat} {l2 : Int} (hk1 : kD l1 = (11, 7)) {μ : Mm} {r : Int} {μ' : Mm} (h : X8_fitting l1 l2 μ = some (r, μ')) : CC d mX8_fitting [vR 67, vR l1, vI l2] μ r μ' := by
  unfold X8_fitting at h
  refine V_enter (by decide) (Nat.le_of_ble_eq_true rfl) ?_
  show VV d mX8_fitting 0 [some (vR 67), some (vR l1), some (vI l2)] [] μ r μ'
  refine V_aload_n (q := 1) dX8_fitting_0 rfl rfl rfl ?_
  refine V_aload_n (q := 2) dX8_fitting_1 rfl rfl rfl ?_
  have h := sF_i h
  refine V_putM (q := 5) fl_X8_18 rfl rfl rfl (kD_e (hk1 : kD _ = (11, 7)) (by decide)) dX8_fitting_2 rfl ?_
  refine V_aload_n (q := 6) dX8_fitting_5 rfl rfl rfl ?_
  refine V_iload_n (q := 7) dX8_fitting_6 rfl rfl rfl ?_
  have h := sF_i h
  refine V_putI (q := 10) fl_X8_26 rfl rfl rfl dX8_fitting_7 rfl ?_
  refine V_aload_n (q := 11) dX8_fitting_10 rfl rfl rfl ?_
  refine V_iconst (q := 12) dX8_fitting_11 rfl rfl ?_
  have h := sF_i h
  refine V_putI (q := 15) fl_X8_29 rfl rfl rfl dX8_fitting_12 rfl ?_
  refine V_aload_n (q := 16) dX8_fitting_15 rfl rfl rfl ?_
  refine V_iconst (q := 17) dX8_fitting_16 rfl rfl ?_
  have h := sF_i h
  refine V_putI (q := 20) fl_X8_32 rfl rfl rfl dX8_fitting_17 rfl ?_
  refine V_aload_n (q := 21) dX8_fitting_20 rfl rfl rfl ?_
  obtain ⟨hm6, h⟩ := mR_i h
  refine V_getM (q := 24) fl_X8_18 rfl rfl rfl dX8_fitting_21 rfl ?_
  obtain ⟨v7, μ8, hc9, h⟩ := bd_i h
  refine V_cV1 (q := 27) (v := vI v7) (kX1_canBe (d - 1) (by omega) hm6 hc9) (by omega) mv_X8_35 hm6 rfl rfl rfl rfl rfl dX8_fitting_24 rfl ?_
  refine V_ifeq (q := 41) (q2 := 30) dX8_fitting_27 (by decide) rfl (fun hc10 => ?_) (fun hc10 => ?_)
  · have h := ifT hc10 h
    exact V_weak (kX8_fitting_J41 d hd h) (sb_s rfl (sb_n (sb_s rfl sb_0)))
  · have h := ifF hc10 h
    refine V_aload_n (q := 31) dX8_fitting_30 rfl rfl rfl ?_
    refine V_iconst (q := 32) dX8_fitting_31 rfl rfl ?_
    refine V_iconst (q := 33) dX8_fitting_32 rfl rfl ?_
    refine V_iconst (q := 34) dX8_fitting_33 rfl rfl ?_
    refine V_bipush (q := 36) dX8_fitting_34 rfl rfl rfl ?_
    refine V_iconst (q := 37) dX8_fitting_36 rfl rfl ?_
    refine V_iconst (q := 38) dX8_fitting_37 rfl rfl ?_
    obtain ⟨v12, μ13, hc14, h⟩ := bd_i h
    refine V_cV0 (q := 41) (kX8_visit RD (d - 1) (by unfold RD; omega) hc14) (by omega) mv_X8_41 rfl rfl rfl rfl rfl rfl dX8_fitting_38 rfl ?_
    exact V_weak (kX8_fitting_J41 d hd h) (sb_s rfl (sb_n (sb_s rfl sb_0)))
abbrev mX10_feed : Mth := (yX10_feed, cX10_feed, 7, some .int)
set_option maxRecDepth 100000 in
theorem mi_X10_feed : Cond.instanceMethod yX10_feed ∈ tG ∧ Cond.selects yX10_feed.cls yX10_feed yX10_feed ∈ tG ∧ Cond.initialized yX10_feed.cls ∈ tG ∧ Cond.code yX10_feed cX10_feed 7 (some .int) ∈ tG ∧ (yX10_feed.cls ≠ "java/lang/invoke/MethodHandle" ∧ yX10_feed.cls ≠ "java/lang/invoke/VarHandle" ∧ (parseMethodDescriptor yX10_feed.desc).map (fun d => d.parameters.length) = some 5) ∧ 7 ≤ 60 := ⟨(tG_of (tb2 (List.mem_of_getElem? (i := 143) rfl)) (by decide +kernel)), (tG_of (tb2 (List.mem_of_getElem? (i := 144) rfl)) (by decide +kernel)), (tG_of (tb1 (List.mem_of_getElem? (i := 1) rfl)) (by decide +kernel)), (tG_of (tb2 (List.mem_of_getElem? (i := 145) rfl)) (by decide +kernel)), ⟨by decide, by decide, by decide +kernel⟩, by decide⟩
theorem dX10_feed_0 : decode cX10_feed 0 = .ok (.iload_n 1, 1) := dc_27 (byA eNcX10_feed (p := 0) (v := 27) (by decide +kernel))
theorem dX10_feed_1 : decode cX10_feed 1 = .ok (.invokestatic 108, 3) := dc_184 (byA eNcX10_feed (p := 1) (v := 184) (by decide +kernel)) (byA eNcX10_feed (p := 2) (v := 0) (by decide +kernel)) (byA eNcX10_feed (p := 3) (v := 108) (by decide +kernel)) rfl
theorem dX10_feed_4 : decode cX10_feed 4 = .ok (.iload_n 2, 1) := dc_28 (byA eNcX10_feed (p := 4) (v := 28) (by decide +kernel))
theorem dX10_feed_5 : decode cX10_feed 5 = .ok (.invokestatic 108, 3) := dc_184 (byA eNcX10_feed (p := 5) (v := 184) (by decide +kernel)) (byA eNcX10_feed (p := 6) (v := 0) (by decide +kernel)) (byA eNcX10_feed (p := 7) (v := 108) (by decide +kernel)) rfl
theorem dX10_feed_8 : decode cX10_feed 8 = .ok (.iadd, 1) := dc_96 (byA eNcX10_feed (p := 8) (v := 96) (by decide +kernel))
theorem dX10_feed_9 : decode cX10_feed 9 = .ok (.iload_n 3, 1) := dc_29 (byA eNcX10_feed (p := 9) (v := 29) (by decide +kernel))
theorem dX10_feed_10 : decode cX10_feed 10 = .ok (.invokestatic 108, 3) := dc_184 (byA eNcX10_feed (p := 10) (v := 184) (by decide +kernel)) (byA eNcX10_feed (p := 11) (v := 0) (by decide +kernel)) (byA eNcX10_feed (p := 12) (v := 108) (by decide +kernel)) rfl
theorem dX10_feed_13 : decode cX10_feed 13 = .ok (.iadd, 1) := dc_96 (byA eNcX10_feed (p := 13) (v := 96) (by decide +kernel))
theorem dX10_feed_14 : decode cX10_feed 14 = .ok (.iload 4, 2) := dc_21 (byA eNcX10_feed (p := 14) (v := 21) (by decide +kernel)) (byA eNcX10_feed (p := 15) (v := 4) (by decide +kernel))
theorem dX10_feed_16 : decode cX10_feed 16 = .ok (.invokestatic 108, 3) := dc_184 (byA eNcX10_feed (p := 16) (v := 184) (by decide +kernel)) (byA eNcX10_feed (p := 17) (v := 0) (by decide +kernel)) (byA eNcX10_feed (p := 18) (v := 108) (by decide +kernel)) rfl
theorem dX10_feed_19 : decode cX10_feed 19 = .ok (.iadd, 1) := dc_96 (byA eNcX10_feed (p := 19) (v := 96) (by decide +kernel))
theorem dX10_feed_20 : decode cX10_feed 20 = .ok (.iload 5, 2) := dc_21 (byA eNcX10_feed (p := 20) (v := 21) (by decide +kernel)) (byA eNcX10_feed (p := 21) (v := 5) (by decide +kernel))
theorem dX10_feed_22 : decode cX10_feed 22 = .ok (.invokestatic 108, 3) := dc_184 (byA eNcX10_feed (p := 22) (v := 184) (by decide +kernel)) (byA eNcX10_feed (p := 23) (v := 0) (by decide +kernel)) (byA eNcX10_feed (p := 24) (v := 108) (by decide +kernel)) rfl
theorem dX10_feed_25 : decode cX10_feed 25 = .ok (.iadd, 1) := dc_96 (byA eNcX10_feed (p := 25) (v := 96) (by decide +kernel))
theorem dX10_feed_26 : decode cX10_feed 26 = .ok (.istore 6, 2) := dc_54 (byA eNcX10_feed (p := 26) (v := 54) (by decide +kernel)) (byA eNcX10_feed (p := 27) (v := 6) (by decide +kernel))
theorem dX10_feed_28 : decode cX10_feed 28 = .ok (.aload_n 0, 1) := dc_42 (byA eNcX10_feed (p := 28) (v := 42) (by decide +kernel))
theorem dX10_feed_29 : decode cX10_feed 29 = .ok (.getfield 10, 3) := dc_180 (byA eNcX10_feed (p := 29) (v := 180) (by decide +kernel)) (byA eNcX10_feed (p := 30) (v := 0) (by decide +kernel)) (byA eNcX10_feed (p := 31) (v := 10) (by decide +kernel)) rfl
theorem dX10_feed_32 : decode cX10_feed 32 = .ok (.getfield 112, 3) := dc_180 (byA eNcX10_feed (p := 32) (v := 180) (by decide +kernel)) (byA eNcX10_feed (p := 33) (v := 0) (by decide +kernel)) (byA eNcX10_feed (p := 34) (v := 112) (by decide +kernel)) rfl
theorem dX10_feed_35 : decode cX10_feed 35 = .ok (.iload 6, 2) := dc_21 (byA eNcX10_feed (p := 35) (v := 21) (by decide +kernel)) (byA eNcX10_feed (p := 36) (v := 6) (by decide +kernel))
theorem dX10_feed_37 : decode cX10_feed 37 = .ok (.iadd, 1) := dc_96 (byA eNcX10_feed (p := 37) (v := 96) (by decide +kernel))
theorem dX10_feed_38 : decode cX10_feed 38 = .ok (.sipush 160, 3) := dc_17 (byA eNcX10_feed (p := 38) (v := 17) (by decide +kernel)) (byA eNcX10_feed (p := 39) (v := 0) (by decide +kernel)) (byA eNcX10_feed (p := 40) (v := 160) (by decide +kernel)) (by decide +kernel)
theorem dX10_feed_41 : decode cX10_feed 41 = .ok (.if_icmp .le 5, 3) := dc_164 (byA eNcX10_feed (p := 41) (v := 164) (by decide +kernel)) (byA eNcX10_feed (p := 42) (v := 0) (by decide +kernel)) (byA eNcX10_feed (p := 43) (v := 5) (by decide +kernel)) (by decide +kernel)
theorem dX10_feed_44 : decode cX10_feed 44 = .ok (.iconst (-1), 1) := dc_2 (byA eNcX10_feed (p := 44) (v := 2) (by decide +kernel))
theorem dX10_feed_45 : decode cX10_feed 45 = .ok (.ireturn, 1) := dc_172 (byA eNcX10_feed (p := 45) (v := 172) (by decide +kernel))
theorem dX10_feed_46 : decode cX10_feed 46 = .ok (.aload_n 0, 1) := dc_42 (byA eNcX10_feed (p := 46) (v := 42) (by decide +kernel))
theorem dX10_feed_47 : decode cX10_feed 47 = .ok (.getfield 10, 3) := dc_180 (byA eNcX10_feed (p := 47) (v := 180) (by decide +kernel)) (byA eNcX10_feed (p := 48) (v := 0) (by decide +kernel)) (byA eNcX10_feed (p := 49) (v := 10) (by decide +kernel)) rfl
theorem dX10_feed_50 : decode cX10_feed 50 = .ok (.iload_n 1, 1) := dc_27 (byA eNcX10_feed (p := 50) (v := 27) (by decide +kernel))
theorem dX10_feed_51 : decode cX10_feed 51 = .ok (.invokevirtual 115, 3) := dc_182 (byA eNcX10_feed (p := 51) (v := 182) (by decide +kernel)) (byA eNcX10_feed (p := 52) (v := 0) (by decide +kernel)) (byA eNcX10_feed (p := 53) (v := 115) (by decide +kernel)) rfl
theorem dX10_feed_54 : decode cX10_feed 54 = .ok (.aload_n 0, 1) := dc_42 (byA eNcX10_feed (p := 54) (v := 42) (by decide +kernel))
theorem dX10_feed_55 : decode cX10_feed 55 = .ok (.getfield 10, 3) := dc_180 (byA eNcX10_feed (p := 55) (v := 180) (by decide +kernel)) (byA eNcX10_feed (p := 56) (v := 0) (by decide +kernel)) (byA eNcX10_feed (p := 57) (v := 10) (by decide +kernel)) rfl
theorem dX10_feed_58 : decode cX10_feed 58 = .ok (.iload_n 2, 1) := dc_28 (byA eNcX10_feed (p := 58) (v := 28) (by decide +kernel))
theorem dX10_feed_59 : decode cX10_feed 59 = .ok (.invokevirtual 115, 3) := dc_182 (byA eNcX10_feed (p := 59) (v := 182) (by decide +kernel)) (byA eNcX10_feed (p := 60) (v := 0) (by decide +kernel)) (byA eNcX10_feed (p := 61) (v := 115) (by decide +kernel)) rfl
theorem dX10_feed_62 : decode cX10_feed 62 = .ok (.aload_n 0, 1) := dc_42 (byA eNcX10_feed (p := 62) (v := 42) (by decide +kernel))
theorem dX10_feed_63 : decode cX10_feed 63 = .ok (.getfield 10, 3) := dc_180 (byA eNcX10_feed (p := 63) (v := 180) (by decide +kernel)) (byA eNcX10_feed (p := 64) (v := 0) (by decide +kernel)) (byA eNcX10_feed (p := 65) (v := 10) (by decide +kernel)) rfl
theorem dX10_feed_66 : decode cX10_feed 66 = .ok (.iload_n 3, 1) := dc_29 (byA eNcX10_feed (p := 66) (v := 29) (by decide +kernel))
theorem dX10_feed_67 : decode cX10_feed 67 = .ok (.invokevirtual 115, 3) := dc_182 (byA eNcX10_feed (p := 67) (v := 182) (by decide +kernel)) (byA eNcX10_feed (p := 68) (v := 0) (by decide +kernel)) (byA eNcX10_feed (p := 69) (v := 115) (by decide +kernel)) rfl
theorem dX10_feed_70 : decode cX10_feed 70 = .ok (.aload_n 0, 1) := dc_42 (byA eNcX10_feed (p := 70) (v := 42) (by decide +kernel))
theorem dX10_feed_71 : decode cX10_feed 71 = .ok (.getfield 10, 3) := dc_180 (byA eNcX10_feed (p := 71) (v := 180) (by decide +kernel)) (byA eNcX10_feed (p := 72) (v := 0) (by decide +kernel)) (byA eNcX10_feed (p := 73) (v := 10) (by decide +kernel)) rfl
theorem dX10_feed_74 : decode cX10_feed 74 = .ok (.iload 4, 2) := dc_21 (byA eNcX10_feed (p := 74) (v := 21) (by decide +kernel)) (byA eNcX10_feed (p := 75) (v := 4) (by decide +kernel))
theorem dX10_feed_76 : decode cX10_feed 76 = .ok (.invokevirtual 115, 3) := dc_182 (byA eNcX10_feed (p := 76) (v := 182) (by decide +kernel)) (byA eNcX10_feed (p := 77) (v := 0) (by decide +kernel)) (byA eNcX10_feed (p := 78) (v := 115) (by decide +kernel)) rfl
theorem dX10_feed_79 : decode cX10_feed 79 = .ok (.aload_n 0, 1) := dc_42 (byA eNcX10_feed (p := 79) (v := 42) (by decide +kernel))
theorem dX10_feed_80 : decode cX10_feed 80 = .ok (.getfield 10, 3) := dc_180 (byA eNcX10_feed (p := 80) (v := 180) (by decide +kernel)) (byA eNcX10_feed (p := 81) (v := 0) (by decide +kernel)) (byA eNcX10_feed (p := 82) (v := 10) (by decide +kernel)) rfl
theorem dX10_feed_83 : decode cX10_feed 83 = .ok (.iload 5, 2) := dc_21 (byA eNcX10_feed (p := 83) (v := 21) (by decide +kernel)) (byA eNcX10_feed (p := 84) (v := 5) (by decide +kernel))
theorem dX10_feed_85 : decode cX10_feed 85 = .ok (.invokevirtual 115, 3) := dc_182 (byA eNcX10_feed (p := 85) (v := 182) (by decide +kernel)) (byA eNcX10_feed (p := 86) (v := 0) (by decide +kernel)) (byA eNcX10_feed (p := 87) (v := 115) (by decide +kernel)) rfl
theorem dX10_feed_88 : decode cX10_feed 88 = .ok (.aload_n 0, 1) := dc_42 (byA eNcX10_feed (p := 88) (v := 42) (by decide +kernel))
theorem dX10_feed_89 : decode cX10_feed 89 = .ok (.getfield 10, 3) := dc_180 (byA eNcX10_feed (p := 89) (v := 180) (by decide +kernel)) (byA eNcX10_feed (p := 90) (v := 0) (by decide +kernel)) (byA eNcX10_feed (p := 91) (v := 10) (by decide +kernel)) rfl
theorem dX10_feed_92 : decode cX10_feed 92 = .ok (.getfield 112, 3) := dc_180 (byA eNcX10_feed (p := 92) (v := 180) (by decide +kernel)) (byA eNcX10_feed (p := 93) (v := 0) (by decide +kernel)) (byA eNcX10_feed (p := 94) (v := 112) (by decide +kernel)) rfl
theorem dX10_feed_95 : decode cX10_feed 95 = .ok (.ireturn, 1) := dc_172 (byA eNcX10_feed (p := 95) (v := 172) (by decide +kernel))
def X10_feed (l1 : Int) (l2 : Int) (l3 : Int) (l4 : Int) (l5 : Int) (μ : Mm) : Rs := bd (X7_bytesIn l1 μ) fun v1 μ2 => bd (X7_bytesIn l2 μ2) fun v4 μ5 => bd (X7_bytesIn l3 μ5) fun v7 μ8 => bd (X7_bytesIn l4 μ8) fun v10 μ11 => bd (X7_bytesIn l5 μ11) fun v13 μ14 => lt_ (iA (iA (iA (iA v1 v4) v7) v10) v13) fun v16 => if (iA (μ14 1 1) v16) ≤ 160 then (bd (X7_add 1 l1 μ14) fun v18 μ19 => bd (X7_add 1 l2 μ19) fun v21 μ22 => bd (X7_add 1 l3 μ22) fun v24 μ25 => bd (X7_add 1 l4 μ25) fun v27 μ28 => bd (X7_add 1 l5 μ28) fun v30 μ31 => some (μ31 1 1, μ31)) else (some ((-1), μ14))
set_option maxHeartbeats 4000000 in
set_option maxRecDepth 100000 in
theorem kX10_feed (d : Nat) (hd : 2 ≤ d) {l1 : Int} {l2 : Int} {l3 : Int} {l4 : Int} {l5 : Int} {μ : Mm} {r : Int} {μ' : Mm} (h : X10_feed l1 l2 l3 l4 l5 μ = some (r, μ')) : CC d mX10_feed [vR 0, vI l1, vI l2, vI l3, vI l4, vI l5] μ r μ' := by
  unfold X10_feed at h
  refine V_enter (by decide) (Nat.le_of_ble_eq_true rfl) ?_
  show VV d mX10_feed 0 [some (vR 0), some (vI l1), some (vI l2), some (vI l3), some (vI l4), some (vI l5), none] [] μ r μ'
  refine V_iload_n (q := 1) dX10_feed_0 rfl rfl rfl ?_
  obtain ⟨v1, μ2, hc3, h⟩ := bd_i h
  refine V_cS1 (q := 4) (v := vI v1) (kX7_bytesIn (d - 1) (by omega) hc3) (by omega) mv_X10_108 rfl rfl rfl rfl dX10_feed_1 rfl ?_
  refine V_iload_n (q := 5) dX10_feed_4 rfl rfl rfl ?_
  obtain ⟨v4, μ5, hc6, h⟩ := bd_i h
  refine V_cS1 (q := 8) (v := vI v4) (kX7_bytesIn (d - 1) (by omega) hc6) (by omega) mv_X10_108 rfl rfl rfl rfl dX10_feed_5 rfl ?_
  refine V_iadd (q := 9) dX10_feed_8 rfl ?_
  refine V_iload_n (q := 10) dX10_feed_9 rfl rfl rfl ?_
  obtain ⟨v7, μ8, hc9, h⟩ := bd_i h
  refine V_cS1 (q := 13) (v := vI v7) (kX7_bytesIn (d - 1) (by omega) hc9) (by omega) mv_X10_108 rfl rfl rfl rfl dX10_feed_10 rfl ?_
  refine V_iadd (q := 14) dX10_feed_13 rfl ?_
  refine V_iload (q := 16) dX10_feed_14 rfl rfl ?_
  obtain ⟨v10, μ11, hc12, h⟩ := bd_i h
  refine V_cS1 (q := 19) (v := vI v10) (kX7_bytesIn (d - 1) (by omega) hc12) (by omega) mv_X10_108 rfl rfl rfl rfl dX10_feed_16 rfl ?_
  refine V_iadd (q := 20) dX10_feed_19 rfl ?_
  refine V_iload (q := 22) dX10_feed_20 rfl rfl ?_
  obtain ⟨v13, μ14, hc15, h⟩ := bd_i h
  refine V_cS1 (q := 25) (v := vI v13) (kX7_bytesIn (d - 1) (by omega) hc15) (by omega) mv_X10_108 rfl rfl rfl rfl dX10_feed_22 rfl ?_
  refine V_iadd (q := 26) dX10_feed_25 rfl ?_
  have h := lt_i h
  refine V_istore (q := 28) dX10_feed_26 (Nat.le_of_ble_eq_true rfl) trivial rfl ?_
  refine V_aload_n (q := 29) dX10_feed_28 rfl rfl rfl ?_
  refine V_getO (q := 32) (t := 1) fl_X10_10 rfl rfl rfl rfl dX10_feed_29 rfl ?_
  refine V_getI (q := 35) fl_X10_112 rfl rfl rfl dX10_feed_32 rfl ?_
  refine V_iload (q := 37) dX10_feed_35 rfl rfl ?_
  refine V_iadd (q := 38) dX10_feed_37 rfl ?_
  refine V_sipush (q := 41) dX10_feed_38 rfl rfl rfl ?_
  refine V_icmple (q := 46) (q2 := 44) dX10_feed_41 (by decide) rfl (fun hc17 => ?_) (fun hc17 => ?_)
  · have h := ifT hc17 h
    refine V_aload_n (q := 47) dX10_feed_46 rfl rfl rfl ?_
    refine V_getO (q := 50) (t := 1) fl_X10_10 rfl rfl rfl rfl dX10_feed_47 rfl ?_
    refine V_iload_n (q := 51) dX10_feed_50 rfl rfl rfl ?_
    obtain ⟨v18, μ19, hc20, h⟩ := bd_i h
    refine V_cV0 (q := 54) (kX7_add (d - 1) (by omega) rfl hc20) (by omega) mv_X10_115 rfl rfl rfl rfl rfl rfl dX10_feed_51 rfl ?_
    refine V_aload_n (q := 55) dX10_feed_54 rfl rfl rfl ?_
    refine V_getO (q := 58) (t := 1) fl_X10_10 rfl rfl rfl rfl dX10_feed_55 rfl ?_
    refine V_iload_n (q := 59) dX10_feed_58 rfl rfl rfl ?_
    obtain ⟨v21, μ22, hc23, h⟩ := bd_i h
    refine V_cV0 (q := 62) (kX7_add (d - 1) (by omega) rfl hc23) (by omega) mv_X10_115 rfl rfl rfl rfl rfl rfl dX10_feed_59 rfl ?_
    refine V_aload_n (q := 63) dX10_feed_62 rfl rfl rfl ?_
    refine V_getO (q := 66) (t := 1) fl_X10_10 rfl rfl rfl rfl dX10_feed_63 rfl ?_
    refine V_iload_n (q := 67) dX10_feed_66 rfl rfl rfl ?_
    obtain ⟨v24, μ25, hc26, h⟩ := bd_i h
    refine V_cV0 (q := 70) (kX7_add (d - 1) (by omega) rfl hc26) (by omega) mv_X10_115 rfl rfl rfl rfl rfl rfl dX10_feed_67 rfl ?_
    refine V_aload_n (q := 71) dX10_feed_70 rfl rfl rfl ?_
    refine V_getO (q := 74) (t := 1) fl_X10_10 rfl rfl rfl rfl dX10_feed_71 rfl ?_
    refine V_iload (q := 76) dX10_feed_74 rfl rfl ?_
    obtain ⟨v27, μ28, hc29, h⟩ := bd_i h
    refine V_cV0 (q := 79) (kX7_add (d - 1) (by omega) rfl hc29) (by omega) mv_X10_115 rfl rfl rfl rfl rfl rfl dX10_feed_76 rfl ?_
    refine V_aload_n (q := 80) dX10_feed_79 rfl rfl rfl ?_
    refine V_getO (q := 83) (t := 1) fl_X10_10 rfl rfl rfl rfl dX10_feed_80 rfl ?_
    refine V_iload (q := 85) dX10_feed_83 rfl rfl ?_
    obtain ⟨v30, μ31, hc32, h⟩ := bd_i h
    refine V_cV0 (q := 88) (kX7_add (d - 1) (by omega) rfl hc32) (by omega) mv_X10_115 rfl rfl rfl rfl rfl rfl dX10_feed_85 rfl ?_
    refine V_aload_n (q := 89) dX10_feed_88 rfl rfl rfl ?_
    refine V_getO (q := 92) (t := 1) fl_X10_10 rfl rfl rfl rfl dX10_feed_89 rfl ?_
    refine V_getI (q := 95) fl_X10_112 rfl rfl rfl dX10_feed_92 rfl ?_
    exact V_iret rfl h dX10_feed_95
  · have h := ifF hc17 h
    refine V_iconst (q := 45) dX10_feed_44 rfl rfl ?_
    exact V_iret rfl h dX10_feed_45
abbrev mX10_end : Mth := (yX10_end, cX10_end, 2, some .boolean)
set_option maxRecDepth 100000 in
theorem mi_X10_end : Cond.instanceMethod yX10_end ∈ tG ∧ Cond.selects yX10_end.cls yX10_end yX10_end ∈ tG ∧ Cond.initialized yX10_end.cls ∈ tG ∧ Cond.code yX10_end cX10_end 2 (some .boolean) ∈ tG ∧ (yX10_end.cls ≠ "java/lang/invoke/MethodHandle" ∧ yX10_end.cls ≠ "java/lang/invoke/VarHandle" ∧ (parseMethodDescriptor yX10_end.desc).map (fun d => d.parameters.length) = some 1) ∧ 2 ≤ 60 := ⟨(tG_of (tb2 (List.mem_of_getElem? (i := 154) rfl)) (by decide +kernel)), (tG_of (tb2 (List.mem_of_getElem? (i := 155) rfl)) (by decide +kernel)), (tG_of (tb1 (List.mem_of_getElem? (i := 1) rfl)) (by decide +kernel)), (tG_of (tb2 (List.mem_of_getElem? (i := 156) rfl)) (by decide +kernel)), ⟨by decide, by decide, by decide +kernel⟩, by decide⟩
theorem dX10_end_0 : decode cX10_end 0 = .ok (.aload_n 0, 1) := dc_42 (byA eNcX10_end (p := 0) (v := 42) (by decide +kernel))
theorem dX10_end_1 : decode cX10_end 1 = .ok (.getfield 10, 3) := dc_180 (byA eNcX10_end (p := 1) (v := 180) (by decide +kernel)) (byA eNcX10_end (p := 2) (v := 0) (by decide +kernel)) (byA eNcX10_end (p := 3) (v := 10) (by decide +kernel)) rfl
theorem dX10_end_4 : decode cX10_end 4 = .ok (.iload_n 1, 1) := dc_27 (byA eNcX10_end (p := 4) (v := 27) (by decide +kernel))
theorem dX10_end_5 : decode cX10_end 5 = .ok (.invokevirtual 119, 3) := dc_182 (byA eNcX10_end (p := 5) (v := 182) (by decide +kernel)) (byA eNcX10_end (p := 6) (v := 0) (by decide +kernel)) (byA eNcX10_end (p := 7) (v := 119) (by decide +kernel)) rfl
theorem dX10_end_8 : decode cX10_end 8 = .ok (.ireturn, 1) := dc_172 (byA eNcX10_end (p := 8) (v := 172) (by decide +kernel))
def X10_end (l1 : Int) (μ : Mm) : Rs := bd (X7_cut 1 l1 μ) fun v1 μ2 => rZ v1 μ2
set_option maxHeartbeats 4000000 in
set_option maxRecDepth 100000 in
theorem kX10_end (d : Nat) (hd : 2 ≤ d) {l1 : Int} {μ : Mm} {r : Int} {μ' : Mm} (h : X10_end l1 μ = some (r, μ')) : CC d mX10_end [vR 0, vI l1] μ r μ' := by
  unfold X10_end at h
  refine V_enter (by decide) (Nat.le_of_ble_eq_true rfl) ?_
  show VV d mX10_end 0 [some (vR 0), some (vI l1)] [] μ r μ'
  refine V_aload_n (q := 1) dX10_end_0 rfl rfl rfl ?_
  refine V_getO (q := 4) (t := 1) fl_X10_10 rfl rfl rfl rfl dX10_end_1 rfl ?_
  refine V_iload_n (q := 5) dX10_end_4 rfl rfl rfl ?_
  obtain ⟨v1, μ2, hc3, h⟩ := bd_i h
  refine V_cV1 (q := 8) (v := vI v1) (kX7_cut (d - 1) (by omega) rfl hc3) (by omega) mv_X10_119 rfl rfl rfl rfl rfl rfl dX10_end_5 rfl ?_
  obtain ⟨hz4, h⟩ := rZ_i h
  exact V_zret rfl hz4 h dX10_end_8
abbrev mX10_isSort : Mth := (yX10_isSort, cX10_isSort, 1, some .boolean)
set_option maxRecDepth 100000 in
theorem mi_X10_isSort : Cond.static yX10_isSort ∈ tG ∧ Cond.initialized yX10_isSort.cls ∈ tG ∧ Cond.code yX10_isSort cX10_isSort 1 (some .boolean) ∈ tG ∧ (yX10_isSort.cls ≠ "java/lang/invoke/MethodHandle" ∧ yX10_isSort.cls ≠ "java/lang/invoke/VarHandle" ∧ (parseMethodDescriptor yX10_isSort.desc).map (fun d => d.parameters.length) = some 1) ∧ 1 ≤ 60 := ⟨(tG_of (tb2 (List.mem_of_getElem? (i := 166) rfl)) (by decide +kernel)), (tG_of (tb1 (List.mem_of_getElem? (i := 1) rfl)) (by decide +kernel)), (tG_of (tb2 (List.mem_of_getElem? (i := 167) rfl)) (by decide +kernel)), ⟨by decide, by decide, by decide +kernel⟩, by decide⟩
set_option maxRecDepth 100000 in
theorem mv_X10_123 : mS RX10 123 mX10_isSort 1 := ⟨(tG_of (tb2 (List.mem_of_getElem? (i := 165) rfl)) (by decide +kernel)), mi_X10_isSort.1, (tG_of (tb1 (List.mem_of_getElem? (i := 1) rfl)) (by decide +kernel)), mi_X10_isSort.2⟩
theorem dX10_isSort_0 : decode cX10_isSort 0 = .ok (.iload_n 0, 1) := dc_26 (byA eNcX10_isSort (p := 0) (v := 26) (by decide +kernel))
theorem dX10_isSort_1 : decode cX10_isSort 1 = .ok (.ifCond .lt 12, 3) := dc_155 (byA eNcX10_isSort (p := 1) (v := 155) (by decide +kernel)) (byA eNcX10_isSort (p := 2) (v := 0) (by decide +kernel)) (byA eNcX10_isSort (p := 3) (v := 12) (by decide +kernel)) (by decide +kernel)
theorem dX10_isSort_4 : decode cX10_isSort 4 = .ok (.iload_n 0, 1) := dc_26 (byA eNcX10_isSort (p := 4) (v := 26) (by decide +kernel))
theorem dX10_isSort_5 : decode cX10_isSort 5 = .ok (.iconst 2, 1) := dc_5 (byA eNcX10_isSort (p := 5) (v := 5) (by decide +kernel))
theorem dX10_isSort_6 : decode cX10_isSort 6 = .ok (.if_icmp .gt 7, 3) := dc_163 (byA eNcX10_isSort (p := 6) (v := 163) (by decide +kernel)) (byA eNcX10_isSort (p := 7) (v := 0) (by decide +kernel)) (byA eNcX10_isSort (p := 8) (v := 7) (by decide +kernel)) (by decide +kernel)
theorem dX10_isSort_9 : decode cX10_isSort 9 = .ok (.iconst 1, 1) := dc_4 (byA eNcX10_isSort (p := 9) (v := 4) (by decide +kernel))
theorem dX10_isSort_10 : decode cX10_isSort 10 = .ok (.goto 4, 3) := dc_167 (byA eNcX10_isSort (p := 10) (v := 167) (by decide +kernel)) (byA eNcX10_isSort (p := 11) (v := 0) (by decide +kernel)) (byA eNcX10_isSort (p := 12) (v := 4) (by decide +kernel)) (by decide +kernel)
theorem dX10_isSort_13 : decode cX10_isSort 13 = .ok (.iconst 0, 1) := dc_3 (byA eNcX10_isSort (p := 13) (v := 3) (by decide +kernel))
theorem dX10_isSort_14 : decode cX10_isSort 14 = .ok (.ireturn, 1) := dc_172 (byA eNcX10_isSort (p := 14) (v := 172) (by decide +kernel))
def X10_isSort (l0 : Int) (μ : Mm) : Rs := if l0 < 0 then (some (0, μ)) else (if 2 < l0 then (some (0, μ)) else (some (1, μ)))
set_option maxHeartbeats 4000000 in
set_option maxRecDepth 100000 in
theorem kX10_isSort (d : Nat) (hd : 1 ≤ d) {l0 : Int} {μ : Mm} {r : Int} {μ' : Mm} (h : X10_isSort l0 μ = some (r, μ')) : CC d mX10_isSort [vI l0] μ r μ' := by
  unfold X10_isSort at h
  refine V_enter (by decide) (Nat.le_of_ble_eq_true rfl) ?_
  show VV d mX10_isSort 0 [some (vI l0)] [] μ r μ'
  refine V_iload_n (q := 1) dX10_isSort_0 rfl rfl rfl ?_
  refine V_iflt (q := 13) (q2 := 4) dX10_isSort_1 (by decide) rfl (fun hc1 => ?_) (fun hc1 => ?_)
  · have h := ifT hc1 h
    refine V_iconst (q := 14) dX10_isSort_13 rfl rfl ?_
    exact V_zret rfl (Or.inl rfl) h dX10_isSort_14
  · have h := ifF hc1 h
    refine V_iload_n (q := 5) dX10_isSort_4 rfl rfl rfl ?_
    refine V_iconst (q := 6) dX10_isSort_5 rfl rfl ?_
    refine V_icmpgt (q := 13) (q2 := 9) dX10_isSort_6 (by decide) rfl (fun hc2 => ?_) (fun hc2 => ?_)
    · have h := ifT hc2 h
      refine V_iconst (q := 14) dX10_isSort_13 rfl rfl ?_
      exact V_zret rfl (Or.inl rfl) h dX10_isSort_14
    · have h := ifF hc2 h
      refine V_iconst (q := 10) dX10_isSort_9 rfl rfl ?_
      refine V_goto (q := 14) dX10_isSort_10 (by decide) ?_
      exact V_zret rfl (Or.inr rfl) h dX10_isSort_14
abbrev mX10_faultOfTape : Mth := (yX10_faultOfTape, cX10_faultOfTape, 2, some .int)
set_option maxRecDepth 100000 in
theorem mi_X10_faultOfTape : Cond.instanceMethod yX10_faultOfTape ∈ tG ∧ Cond.selects yX10_faultOfTape.cls yX10_faultOfTape yX10_faultOfTape ∈ tG ∧ Cond.initialized yX10_faultOfTape.cls ∈ tG ∧ Cond.code yX10_faultOfTape cX10_faultOfTape 2 (some .int) ∈ tG ∧ (yX10_faultOfTape.cls ≠ "java/lang/invoke/MethodHandle" ∧ yX10_faultOfTape.cls ≠ "java/lang/invoke/VarHandle" ∧ (parseMethodDescriptor yX10_faultOfTape.desc).map (fun d => d.parameters.length) = some 1) ∧ 2 ≤ 60 := ⟨(tG_of (tb2 (List.mem_of_getElem? (i := 170) rfl)) (by decide +kernel)), (tG_of (List.mem_of_getElem? (i := 0) (by decide +kernel)) (by decide +kernel)), (tG_of (tb1 (List.mem_of_getElem? (i := 1) rfl)) (by decide +kernel)), (tG_of (tb2 (List.mem_of_getElem? (i := 171) rfl)) (by decide +kernel)), ⟨by decide, by decide, by decide +kernel⟩, by decide⟩
set_option maxRecDepth 100000 in
theorem mv_X10_126 : mV RX10 126 mX10_faultOfTape 1 := ⟨(tG_of (tb2 (List.mem_of_getElem? (i := 168) rfl)) (by decide +kernel)), mi_X10_faultOfTape⟩
theorem dX10_faultOfTape_0 : decode cX10_faultOfTape 0 = .ok (.aload_n 0, 1) := dc_42 (byA eNcX10_faultOfTape (p := 0) (v := 42) (by decide +kernel))
theorem dX10_faultOfTape_1 : decode cX10_faultOfTape 1 = .ok (.getfield 21, 3) := dc_180 (byA eNcX10_faultOfTape (p := 1) (v := 180) (by decide +kernel)) (byA eNcX10_faultOfTape (p := 2) (v := 0) (by decide +kernel)) (byA eNcX10_faultOfTape (p := 3) (v := 21) (by decide +kernel)) rfl
theorem dX10_faultOfTape_4 : decode cX10_faultOfTape 4 = .ok (.aload_n 0, 1) := dc_42 (byA eNcX10_faultOfTape (p := 4) (v := 42) (by decide +kernel))
theorem dX10_faultOfTape_5 : decode cX10_faultOfTape 5 = .ok (.getfield 10, 3) := dc_180 (byA eNcX10_faultOfTape (p := 5) (v := 180) (by decide +kernel)) (byA eNcX10_faultOfTape (p := 6) (v := 0) (by decide +kernel)) (byA eNcX10_faultOfTape (p := 7) (v := 10) (by decide +kernel)) rfl
theorem dX10_faultOfTape_8 : decode cX10_faultOfTape 8 = .ok (.invokevirtual 139, 3) := dc_182 (byA eNcX10_faultOfTape (p := 8) (v := 182) (by decide +kernel)) (byA eNcX10_faultOfTape (p := 9) (v := 0) (by decide +kernel)) (byA eNcX10_faultOfTape (p := 10) (v := 139) (by decide +kernel)) rfl
theorem dX10_faultOfTape_11 : decode cX10_faultOfTape 11 = .ok (.iload_n 1, 1) := dc_27 (byA eNcX10_faultOfTape (p := 11) (v := 27) (by decide +kernel))
theorem dX10_faultOfTape_12 : decode cX10_faultOfTape 12 = .ok (.ifCond .ne 15, 3) := dc_154 (byA eNcX10_faultOfTape (p := 12) (v := 154) (by decide +kernel)) (byA eNcX10_faultOfTape (p := 13) (v := 0) (by decide +kernel)) (byA eNcX10_faultOfTape (p := 14) (v := 15) (by decide +kernel)) (by decide +kernel)
theorem dX10_faultOfTape_15 : decode cX10_faultOfTape 15 = .ok (.aload_n 0, 1) := dc_42 (byA eNcX10_faultOfTape (p := 15) (v := 42) (by decide +kernel))
theorem dX10_faultOfTape_16 : decode cX10_faultOfTape 16 = .ok (.getfield 44, 3) := dc_180 (byA eNcX10_faultOfTape (p := 16) (v := 180) (by decide +kernel)) (byA eNcX10_faultOfTape (p := 17) (v := 0) (by decide +kernel)) (byA eNcX10_faultOfTape (p := 18) (v := 44) (by decide +kernel)) rfl
theorem dX10_faultOfTape_19 : decode cX10_faultOfTape 19 = .ok (.aload_n 0, 1) := dc_42 (byA eNcX10_faultOfTape (p := 19) (v := 42) (by decide +kernel))
theorem dX10_faultOfTape_20 : decode cX10_faultOfTape 20 = .ok (.getfield 21, 3) := dc_180 (byA eNcX10_faultOfTape (p := 20) (v := 180) (by decide +kernel)) (byA eNcX10_faultOfTape (p := 21) (v := 0) (by decide +kernel)) (byA eNcX10_faultOfTape (p := 22) (v := 21) (by decide +kernel)) rfl
theorem dX10_faultOfTape_23 : decode cX10_faultOfTape 23 = .ok (.invokevirtual 142, 3) := dc_182 (byA eNcX10_faultOfTape (p := 23) (v := 182) (by decide +kernel)) (byA eNcX10_faultOfTape (p := 24) (v := 0) (by decide +kernel)) (byA eNcX10_faultOfTape (p := 25) (v := 142) (by decide +kernel)) rfl
theorem dX10_faultOfTape_26 : decode cX10_faultOfTape 26 = .ok (.ireturn, 1) := dc_172 (byA eNcX10_faultOfTape (p := 26) (v := 172) (by decide +kernel))
theorem dX10_faultOfTape_27 : decode cX10_faultOfTape 27 = .ok (.iload_n 1, 1) := dc_27 (byA eNcX10_faultOfTape (p := 27) (v := 27) (by decide +kernel))
theorem dX10_faultOfTape_28 : decode cX10_faultOfTape 28 = .ok (.iconst 1, 1) := dc_4 (byA eNcX10_faultOfTape (p := 28) (v := 4) (by decide +kernel))
theorem dX10_faultOfTape_29 : decode cX10_faultOfTape 29 = .ok (.if_icmp .ne 17, 3) := dc_160 (byA eNcX10_faultOfTape (p := 29) (v := 160) (by decide +kernel)) (byA eNcX10_faultOfTape (p := 30) (v := 0) (by decide +kernel)) (byA eNcX10_faultOfTape (p := 31) (v := 17) (by decide +kernel)) (by decide +kernel)
theorem dX10_faultOfTape_32 : decode cX10_faultOfTape 32 = .ok (.aload_n 0, 1) := dc_42 (byA eNcX10_faultOfTape (p := 32) (v := 42) (by decide +kernel))
theorem dX10_faultOfTape_33 : decode cX10_faultOfTape 33 = .ok (.getfield 54, 3) := dc_180 (byA eNcX10_faultOfTape (p := 33) (v := 180) (by decide +kernel)) (byA eNcX10_faultOfTape (p := 34) (v := 0) (by decide +kernel)) (byA eNcX10_faultOfTape (p := 35) (v := 54) (by decide +kernel)) rfl
theorem dX10_faultOfTape_36 : decode cX10_faultOfTape 36 = .ok (.aload_n 0, 1) := dc_42 (byA eNcX10_faultOfTape (p := 36) (v := 42) (by decide +kernel))
theorem dX10_faultOfTape_37 : decode cX10_faultOfTape 37 = .ok (.getfield 21, 3) := dc_180 (byA eNcX10_faultOfTape (p := 37) (v := 180) (by decide +kernel)) (byA eNcX10_faultOfTape (p := 38) (v := 0) (by decide +kernel)) (byA eNcX10_faultOfTape (p := 39) (v := 21) (by decide +kernel)) rfl
theorem dX10_faultOfTape_40 : decode cX10_faultOfTape 40 = .ok (.invokevirtual 146, 3) := dc_182 (byA eNcX10_faultOfTape (p := 40) (v := 182) (by decide +kernel)) (byA eNcX10_faultOfTape (p := 41) (v := 0) (by decide +kernel)) (byA eNcX10_faultOfTape (p := 42) (v := 146) (by decide +kernel)) rfl
theorem dX10_faultOfTape_43 : decode cX10_faultOfTape 43 = .ok (.goto 10, 3) := dc_167 (byA eNcX10_faultOfTape (p := 43) (v := 167) (by decide +kernel)) (byA eNcX10_faultOfTape (p := 44) (v := 0) (by decide +kernel)) (byA eNcX10_faultOfTape (p := 45) (v := 10) (by decide +kernel)) (by decide +kernel)
theorem dX10_faultOfTape_46 : decode cX10_faultOfTape 46 = .ok (.aload_n 0, 1) := dc_42 (byA eNcX10_faultOfTape (p := 46) (v := 42) (by decide +kernel))
theorem dX10_faultOfTape_47 : decode cX10_faultOfTape 47 = .ok (.getfield 30, 3) := dc_180 (byA eNcX10_faultOfTape (p := 47) (v := 180) (by decide +kernel)) (byA eNcX10_faultOfTape (p := 48) (v := 0) (by decide +kernel)) (byA eNcX10_faultOfTape (p := 49) (v := 30) (by decide +kernel)) rfl
theorem dX10_faultOfTape_50 : decode cX10_faultOfTape 50 = .ok (.invokevirtual 147, 3) := dc_182 (byA eNcX10_faultOfTape (p := 50) (v := 182) (by decide +kernel)) (byA eNcX10_faultOfTape (p := 51) (v := 0) (by decide +kernel)) (byA eNcX10_faultOfTape (p := 52) (v := 147) (by decide +kernel)) rfl
theorem dX10_faultOfTape_53 : decode cX10_faultOfTape 53 = .ok (.ireturn, 1) := dc_172 (byA eNcX10_faultOfTape (p := 53) (v := 172) (by decide +kernel))
def X10_faultOfTape (l1 : Int) (μ : Mm) : Rs := bd (X4_open 1 μ) fun v1 μ2 => if l1 = 0 then (bd (X0_read 13 μ2) fun v12 μ13 => some (v12, μ13)) else (if l1 = 1 then (bd (X3_read 33 μ2) fun v9 μ10 => some (v9, μ10)) else (bd (X2_check μ2) fun v6 μ7 => some (v6, μ7)))
set_option maxHeartbeats 4000000 in
set_option maxRecDepth 100000 in
theorem kX10_faultOfTape (d : Nat) (hd : 271 ≤ d) {l1 : Int} {μ : Mm} {r : Int} {μ' : Mm} (h : X10_faultOfTape l1 μ = some (r, μ')) : CC d mX10_faultOfTape [vR 0, vI l1] μ r μ' := by
  unfold X10_faultOfTape at h
  refine V_enter (by decide) (Nat.le_of_ble_eq_true rfl) ?_
  show VV d mX10_faultOfTape 0 [some (vR 0), some (vI l1)] [] μ r μ'
  refine V_aload_n (q := 1) dX10_faultOfTape_0 rfl rfl rfl ?_
  refine V_getO (q := 4) (t := 3) fl_X10_21 rfl rfl rfl rfl dX10_faultOfTape_1 rfl ?_
  refine V_aload_n (q := 5) dX10_faultOfTape_4 rfl rfl rfl ?_
  refine V_getO (q := 8) (t := 1) fl_X10_10 rfl rfl rfl rfl dX10_faultOfTape_5 rfl ?_
  obtain ⟨v1, μ2, hc3, h⟩ := bd_i h
  refine V_cV0 (q := 11) (kX4_open (d - 1) (by omega) rfl hc3) (by omega) mv_X10_139 rfl rfl rfl rfl rfl rfl dX10_faultOfTape_8 rfl ?_
  refine V_iload_n (q := 12) dX10_faultOfTape_11 rfl rfl rfl ?_
  refine V_ifne (q := 27) (q2 := 15) dX10_faultOfTape_12 (by decide) rfl (fun hc4 => ?_) (fun hc4 => ?_)
  · have h := ifF hc4 h
    refine V_iload_n (q := 28) dX10_faultOfTape_27 rfl rfl rfl ?_
    refine V_iconst (q := 29) dX10_faultOfTape_28 rfl rfl ?_
    refine V_icmpne (q := 46) (q2 := 32) dX10_faultOfTape_29 (by decide) rfl (fun hc5 => ?_) (fun hc5 => ?_)
    · have h := ifF hc5 h
      refine V_aload_n (q := 47) dX10_faultOfTape_46 rfl rfl rfl ?_
      refine V_getO (q := 50) (t := 4) fl_X10_30 rfl rfl rfl rfl dX10_faultOfTape_47 rfl ?_
      obtain ⟨v6, μ7, hc8, h⟩ := bd_i h
      refine V_cV1 (q := 53) (v := vI v6) (kX2_check (d - 1) (by omega) hc8) (by omega) mv_X10_147 rfl rfl rfl rfl rfl rfl dX10_faultOfTape_50 rfl ?_
      exact V_iret rfl h dX10_faultOfTape_53
    · have h := ifT hc5 h
      refine V_aload_n (q := 33) dX10_faultOfTape_32 rfl rfl rfl ?_
      refine V_getO (q := 36) (t := 33) fl_X10_54 rfl rfl rfl rfl dX10_faultOfTape_33 rfl ?_
      refine V_aload_n (q := 37) dX10_faultOfTape_36 rfl rfl rfl ?_
      refine V_getO (q := 40) (t := 3) fl_X10_21 rfl rfl rfl rfl dX10_faultOfTape_37 rfl ?_
      obtain ⟨v9, μ10, hc11, h⟩ := bd_i h
      refine V_cV1 (q := 43) (v := vI v9) (kX3_read (d - 1) (by omega) rfl hc11) (by omega) mv_X10_146 rfl rfl rfl rfl rfl rfl dX10_faultOfTape_40 rfl ?_
      refine V_goto (q := 53) dX10_faultOfTape_43 (by decide) ?_
      exact V_iret rfl h dX10_faultOfTape_53
  · have h := ifT hc4 h
    refine V_aload_n (q := 16) dX10_faultOfTape_15 rfl rfl rfl ?_
    refine V_getO (q := 19) (t := 13) fl_X10_44 rfl rfl rfl rfl dX10_faultOfTape_16 rfl ?_
    refine V_aload_n (q := 20) dX10_faultOfTape_19 rfl rfl rfl ?_
    refine V_getO (q := 23) (t := 3) fl_X10_21 rfl rfl rfl rfl dX10_faultOfTape_20 rfl ?_
    obtain ⟨v12, μ13, hc14, h⟩ := bd_i h
    refine V_cV1 (q := 26) (v := vI v12) (kX0_read (d - 1) (by omega) rfl hc14) (by omega) mv_X10_142 rfl rfl rfl rfl rfl rfl dX10_faultOfTape_23 rfl ?_
    exact V_iret rfl h dX10_faultOfTape_26
abbrev mX10_fault : Mth := (yX10_fault, cX10_fault, 2, some .int)
set_option maxRecDepth 100000 in
theorem mi_X10_fault : Cond.instanceMethod yX10_fault ∈ tG ∧ Cond.selects yX10_fault.cls yX10_fault yX10_fault ∈ tG ∧ Cond.initialized yX10_fault.cls ∈ tG ∧ Cond.code yX10_fault cX10_fault 2 (some .int) ∈ tG ∧ (yX10_fault.cls ≠ "java/lang/invoke/MethodHandle" ∧ yX10_fault.cls ≠ "java/lang/invoke/VarHandle" ∧ (parseMethodDescriptor yX10_fault.desc).map (fun d => d.parameters.length) = some 1) ∧ 2 ≤ 60 := ⟨(tG_of (tb2 (List.mem_of_getElem? (i := 162) rfl)) (by decide +kernel)), (tG_of (tb2 (List.mem_of_getElem? (i := 163) rfl)) (by decide +kernel)), (tG_of (tb1 (List.mem_of_getElem? (i := 1) rfl)) (by decide +kernel)), (tG_of (tb2 (List.mem_of_getElem? (i := 164) rfl)) (by decide +kernel)), ⟨by decide, by decide, by decide +kernel⟩, by decide⟩
theorem dX10_fault_0 : decode cX10_fault 0 = .ok (.iload_n 1, 1) := dc_27 (byA eNcX10_fault (p := 0) (v := 27) (by decide +kernel))
theorem dX10_fault_1 : decode cX10_fault 1 = .ok (.invokestatic 123, 3) := dc_184 (byA eNcX10_fault (p := 1) (v := 184) (by decide +kernel)) (byA eNcX10_fault (p := 2) (v := 0) (by decide +kernel)) (byA eNcX10_fault (p := 3) (v := 123) (by decide +kernel)) rfl
theorem dX10_fault_4 : decode cX10_fault 4 = .ok (.ifCond .eq 11, 3) := dc_153 (byA eNcX10_fault (p := 4) (v := 153) (by decide +kernel)) (byA eNcX10_fault (p := 5) (v := 0) (by decide +kernel)) (byA eNcX10_fault (p := 6) (v := 11) (by decide +kernel)) (by decide +kernel)
theorem dX10_fault_7 : decode cX10_fault 7 = .ok (.aload_n 0, 1) := dc_42 (byA eNcX10_fault (p := 7) (v := 42) (by decide +kernel))
theorem dX10_fault_8 : decode cX10_fault 8 = .ok (.iload_n 1, 1) := dc_27 (byA eNcX10_fault (p := 8) (v := 27) (by decide +kernel))
theorem dX10_fault_9 : decode cX10_fault 9 = .ok (.invokevirtual 126, 3) := dc_182 (byA eNcX10_fault (p := 9) (v := 182) (by decide +kernel)) (byA eNcX10_fault (p := 10) (v := 0) (by decide +kernel)) (byA eNcX10_fault (p := 11) (v := 126) (by decide +kernel)) rfl
theorem dX10_fault_12 : decode cX10_fault 12 = .ok (.goto 5, 3) := dc_167 (byA eNcX10_fault (p := 12) (v := 167) (by decide +kernel)) (byA eNcX10_fault (p := 13) (v := 0) (by decide +kernel)) (byA eNcX10_fault (p := 14) (v := 5) (by decide +kernel)) (by decide +kernel)
theorem dX10_fault_15 : decode cX10_fault 15 = .ok (.bipush (-2), 2) := dc_16 (byA eNcX10_fault (p := 15) (v := 16) (by decide +kernel)) (byA eNcX10_fault (p := 16) (v := 254) (by decide +kernel)) (by decide +kernel)
theorem dX10_fault_17 : decode cX10_fault 17 = .ok (.ireturn, 1) := dc_172 (byA eNcX10_fault (p := 17) (v := 172) (by decide +kernel))
def X10_fault (l1 : Int) (μ : Mm) : Rs := bd (X10_isSort l1 μ) fun v1 μ2 => if v1 = 0 then (some ((-2), μ2)) else (bd (X10_faultOfTape l1 μ2) fun v5 μ6 => some (v5, μ6))
set_option maxHeartbeats 4000000 in
set_option maxRecDepth 100000 in
theorem kX10_fault (d : Nat) (hd : 272 ≤ d) {l1 : Int} {μ : Mm} {r : Int} {μ' : Mm} (h : X10_fault l1 μ = some (r, μ')) : CC d mX10_fault [vR 0, vI l1] μ r μ' := by
  unfold X10_fault at h
  refine V_enter (by decide) (Nat.le_of_ble_eq_true rfl) ?_
  show VV d mX10_fault 0 [some (vR 0), some (vI l1)] [] μ r μ'
  refine V_iload_n (q := 1) dX10_fault_0 rfl rfl rfl ?_
  obtain ⟨v1, μ2, hc3, h⟩ := bd_i h
  refine V_cS1 (q := 4) (v := vI v1) (kX10_isSort (d - 1) (by omega) hc3) (by omega) mv_X10_123 rfl rfl rfl rfl dX10_fault_1 rfl ?_
  refine V_ifeq (q := 15) (q2 := 7) dX10_fault_4 (by decide) rfl (fun hc4 => ?_) (fun hc4 => ?_)
  · have h := ifT hc4 h
    refine V_bipush (q := 17) dX10_fault_15 rfl rfl rfl ?_
    exact V_iret rfl h dX10_fault_17
  · have h := ifF hc4 h
    refine V_aload_n (q := 8) dX10_fault_7 rfl rfl rfl ?_
    refine V_iload_n (q := 9) dX10_fault_8 rfl rfl rfl ?_
    obtain ⟨v5, μ6, hc7, h⟩ := bd_i h
    refine V_cV1 (q := 12) (v := vI v5) (kX10_faultOfTape (d - 1) (by omega) hc7) (by omega) mv_X10_126 rfl rfl rfl rfl rfl rfl dX10_fault_9 rfl ?_
    refine V_goto (q := 17) dX10_fault_12 (by decide) ?_
    exact V_iret rfl h dX10_fault_17
