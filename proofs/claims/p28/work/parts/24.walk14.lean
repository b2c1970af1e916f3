abbrev mX11_isReady : Mth := (yX11_isReady, cX11_isReady, 2, some .boolean)
set_option maxRecDepth 100000 in
theorem mi_X11_isReady : Cond.instanceMethod yX11_isReady ∈ tG ∧ Cond.selects yX11_isReady.cls yX11_isReady yX11_isReady ∈ tG ∧ Cond.initialized yX11_isReady.cls ∈ tG ∧ Cond.code yX11_isReady cX11_isReady 2 (some .boolean) ∈ tG ∧ (yX11_isReady.cls ≠ "java/lang/invoke/MethodHandle" ∧ yX11_isReady.cls ≠ "java/lang/invoke/VarHandle" ∧ (parseMethodDescriptor yX11_isReady.desc).map (fun d => d.parameters.length) = some 1) ∧ 2 ≤ 60 := ⟨(tG_of (tb7 (List.mem_of_getElem? (i := 19) rfl)) (by decide +kernel)), (tG_of (List.mem_of_getElem? (i := 82) (by decide +kernel)) (by decide +kernel)), (tG_of (tb1 (List.mem_of_getElem? (i := 12) rfl)) (by decide +kernel)), (tG_of (tb7 (List.mem_of_getElem? (i := 20) rfl)) (by decide +kernel)), ⟨by decide, by decide, by decide +kernel⟩, by decide⟩
set_option maxRecDepth 100000 in
theorem mv_X11_335 : mV RX11 335 mX11_isReady 1 := ⟨(tG_of (tb7 (List.mem_of_getElem? (i := 17) rfl)) (by decide +kernel)), mi_X11_isReady⟩
theorem dX11_isReady_0 : decode cX11_isReady 0 = .ok (.aload_n 0, 1) := dc_42 (byA eNcX11_isReady (p := 0) (v := 42) (by decide +kernel))
theorem dX11_isReady_1 : decode cX11_isReady 1 = .ok (.getfield 252, 3) := dc_180 (byA eNcX11_isReady (p := 1) (v := 180) (by decide +kernel)) (byA eNcX11_isReady (p := 2) (v := 0) (by decide +kernel)) (byA eNcX11_isReady (p := 3) (v := 252) (by decide +kernel)) rfl
theorem dX11_isReady_4 : decode cX11_isReady 4 = .ok (.ifCond .eq 11, 3) := dc_153 (byA eNcX11_isReady (p := 4) (v := 153) (by decide +kernel)) (byA eNcX11_isReady (p := 5) (v := 0) (by decide +kernel)) (byA eNcX11_isReady (p := 6) (v := 11) (by decide +kernel)) (by decide +kernel)
theorem dX11_isReady_7 : decode cX11_isReady 7 = .ok (.aload_n 0, 1) := dc_42 (byA eNcX11_isReady (p := 7) (v := 42) (by decide +kernel))
theorem dX11_isReady_8 : decode cX11_isReady 8 = .ok (.iload_n 1, 1) := dc_27 (byA eNcX11_isReady (p := 8) (v := 27) (by decide +kernel))
theorem dX11_isReady_9 : decode cX11_isReady 9 = .ok (.invokevirtual 304, 3) := dc_182 (byA eNcX11_isReady (p := 9) (v := 182) (by decide +kernel)) (byA eNcX11_isReady (p := 10) (v := 1) (by decide +kernel)) (byA eNcX11_isReady (p := 11) (v := 48) (by decide +kernel)) rfl
theorem dX11_isReady_12 : decode cX11_isReady 12 = .ok (.ifCond .ne 5, 3) := dc_154 (byA eNcX11_isReady (p := 12) (v := 154) (by decide +kernel)) (byA eNcX11_isReady (p := 13) (v := 0) (by decide +kernel)) (byA eNcX11_isReady (p := 14) (v := 5) (by decide +kernel)) (by decide +kernel)
theorem dX11_isReady_15 : decode cX11_isReady 15 = .ok (.iconst 0, 1) := dc_3 (byA eNcX11_isReady (p := 15) (v := 3) (by decide +kernel))
theorem dX11_isReady_16 : decode cX11_isReady 16 = .ok (.ireturn, 1) := dc_172 (byA eNcX11_isReady (p := 16) (v := 172) (by decide +kernel))
theorem dX11_isReady_17 : decode cX11_isReady 17 = .ok (.aload_n 0, 1) := dc_42 (byA eNcX11_isReady (p := 17) (v := 42) (by decide +kernel))
theorem dX11_isReady_18 : decode cX11_isReady 18 = .ok (.iload_n 1, 1) := dc_27 (byA eNcX11_isReady (p := 18) (v := 27) (by decide +kernel))
theorem dX11_isReady_19 : decode cX11_isReady 19 = .ok (.aload_n 0, 1) := dc_42 (byA eNcX11_isReady (p := 19) (v := 42) (by decide +kernel))
theorem dX11_isReady_20 : decode cX11_isReady 20 = .ok (.getfield 307, 3) := dc_180 (byA eNcX11_isReady (p := 20) (v := 180) (by decide +kernel)) (byA eNcX11_isReady (p := 21) (v := 1) (by decide +kernel)) (byA eNcX11_isReady (p := 22) (v := 51) (by decide +kernel)) rfl
theorem dX11_isReady_23 : decode cX11_isReady 23 = .ok (.invokevirtual 310, 3) := dc_182 (byA eNcX11_isReady (p := 23) (v := 182) (by decide +kernel)) (byA eNcX11_isReady (p := 24) (v := 1) (by decide +kernel)) (byA eNcX11_isReady (p := 25) (v := 54) (by decide +kernel)) rfl
theorem dX11_isReady_26 : decode cX11_isReady 26 = .ok (.aload_n 0, 1) := dc_42 (byA eNcX11_isReady (p := 26) (v := 42) (by decide +kernel))
theorem dX11_isReady_27 : decode cX11_isReady 27 = .ok (.iload_n 1, 1) := dc_27 (byA eNcX11_isReady (p := 27) (v := 27) (by decide +kernel))
theorem dX11_isReady_28 : decode cX11_isReady 28 = .ok (.aload_n 0, 1) := dc_42 (byA eNcX11_isReady (p := 28) (v := 42) (by decide +kernel))
theorem dX11_isReady_29 : decode cX11_isReady 29 = .ok (.iconst 2, 1) := dc_5 (byA eNcX11_isReady (p := 29) (v := 5) (by decide +kernel))
theorem dX11_isReady_30 : decode cX11_isReady 30 = .ok (.invokevirtual 281, 3) := dc_182 (byA eNcX11_isReady (p := 30) (v := 182) (by decide +kernel)) (byA eNcX11_isReady (p := 31) (v := 1) (by decide +kernel)) (byA eNcX11_isReady (p := 32) (v := 25) (by decide +kernel)) rfl
theorem dX11_isReady_33 : decode cX11_isReady 33 = .ok (.aload_n 0, 1) := dc_42 (byA eNcX11_isReady (p := 33) (v := 42) (by decide +kernel))
theorem dX11_isReady_34 : decode cX11_isReady 34 = .ok (.getfield 58, 3) := dc_180 (byA eNcX11_isReady (p := 34) (v := 180) (by decide +kernel)) (byA eNcX11_isReady (p := 35) (v := 0) (by decide +kernel)) (byA eNcX11_isReady (p := 36) (v := 58) (by decide +kernel)) rfl
theorem dX11_isReady_37 : decode cX11_isReady 37 = .ok (.invokevirtual 322, 3) := dc_182 (byA eNcX11_isReady (p := 37) (v := 182) (by decide +kernel)) (byA eNcX11_isReady (p := 38) (v := 1) (by decide +kernel)) (byA eNcX11_isReady (p := 39) (v := 66) (by decide +kernel)) rfl
theorem dX11_isReady_40 : decode cX11_isReady 40 = .ok (.iconst 1, 1) := dc_4 (byA eNcX11_isReady (p := 40) (v := 4) (by decide +kernel))
theorem dX11_isReady_41 : decode cX11_isReady 41 = .ok (.ireturn, 1) := dc_172 (byA eNcX11_isReady (p := 41) (v := 172) (by decide +kernel))
def X11_isReady (l1 : Int) (μ : Mm) : Rs := if (μ 70 23) = 0 then (some (0, μ)) else (bd (X11_isPlay l1 μ) fun v2 μ3 => if v2 = 0 then (some (0, μ3)) else (bd (X11_layTimes l1 (μ3 70 31) μ3) fun v6 μ7 => bd (X11_placeOf 2 μ7) fun v9 μ10 => bd (X11_lay l1 v9 (μ10 70 30) μ10) fun v12 μ13 => some (1, μ13)))
set_option maxHeartbeats 4000000 in
set_option maxRecDepth 100000 in
theorem kX11_isReady (d : Nat) (hd : 6 ≤ d) {l1 : Int} {μ : Mm} {r : Int} {μ' : Mm} (h : X11_isReady l1 μ = some (r, μ')) : CC d mX11_isReady [vR 70, vI l1] μ r μ' := by
  unfold X11_isReady at h
  refine V_enter (by decide) (Nat.le_of_ble_eq_true rfl) ?_
  show VV d mX11_isReady 0 [some (vR 70), some (vI l1)] [] μ r μ'
  refine V_aload_n (q := 1) dX11_isReady_0 rfl rfl rfl ?_
  refine V_getI (q := 4) fl_X11_252 rfl rfl rfl dX11_isReady_1 rfl ?_
  refine V_ifeq (q := 15) (q2 := 7) dX11_isReady_4 (by decide) rfl (fun hc1 => ?_) (fun hc1 => ?_)
  · have h := ifT hc1 h
    refine V_iconst (q := 16) dX11_isReady_15 rfl rfl ?_
    exact V_zret rfl (Or.inl rfl) h dX11_isReady_16
  · have h := ifF hc1 h
    refine V_aload_n (q := 8) dX11_isReady_7 rfl rfl rfl ?_
    refine V_iload_n (q := 9) dX11_isReady_8 rfl rfl rfl ?_
    obtain ⟨v2, μ3, hc4, h⟩ := bd_i h
    refine V_cV1 (q := 12) (v := vI v2) (kX11_isPlay (d - 1) (by omega) hc4) (by omega) mv_X11_304 rfl rfl rfl rfl rfl rfl dX11_isReady_9 rfl ?_
    refine V_ifne (q := 17) (q2 := 15) dX11_isReady_12 (by decide) rfl (fun hc5 => ?_) (fun hc5 => ?_)
    · have h := ifF hc5 h
      refine V_aload_n (q := 18) dX11_isReady_17 rfl rfl rfl ?_
      refine V_iload_n (q := 19) dX11_isReady_18 rfl rfl rfl ?_
      refine V_aload_n (q := 20) dX11_isReady_19 rfl rfl rfl ?_
      refine V_getI (q := 23) fl_X11_307 rfl rfl rfl dX11_isReady_20 rfl ?_
      obtain ⟨v6, μ7, hc8, h⟩ := bd_i h
      refine V_cV0 (q := 26) (kX11_layTimes (d - 1) (by omega) hc8) (by omega) mv_X11_310 rfl rfl rfl rfl rfl rfl dX11_isReady_23 rfl ?_
      refine V_aload_n (q := 27) dX11_isReady_26 rfl rfl rfl ?_
      refine V_iload_n (q := 28) dX11_isReady_27 rfl rfl rfl ?_
      refine V_aload_n (q := 29) dX11_isReady_28 rfl rfl rfl ?_
      refine V_iconst (q := 30) dX11_isReady_29 rfl rfl ?_
      obtain ⟨v9, μ10, hc11, h⟩ := bd_i h
      refine V_cV1 (q := 33) (v := vI v9) (kX11_placeOf (d - 1) (by omega) hc11) (by omega) mv_X11_281 rfl rfl rfl rfl rfl rfl dX11_isReady_30 rfl ?_
      refine V_aload_n (q := 34) dX11_isReady_33 rfl rfl rfl ?_
      refine V_getI (q := 37) fl_X11_58 rfl rfl rfl dX11_isReady_34 rfl ?_
      obtain ⟨v12, μ13, hc14, h⟩ := bd_i h
      refine V_cV0 (q := 40) (kX11_lay (d - 1) (by omega) hc14) (by omega) mv_X11_322 rfl rfl rfl rfl rfl rfl dX11_isReady_37 rfl ?_
      refine V_iconst (q := 41) dX11_isReady_40 rfl rfl ?_
      exact V_zret rfl (Or.inr rfl) h dX11_isReady_41
    · have h := ifT hc5 h
      refine V_iconst (q := 16) dX11_isReady_15 rfl rfl ?_
      exact V_zret rfl (Or.inl rfl) h dX11_isReady_16
abbrev mX11_ten : Mth := (yX11_ten, cX11_ten, 3, some .int)
set_option maxRecDepth 100000 in
theorem mi_X11_ten : Cond.static yX11_ten ∈ tG ∧ Cond.initialized yX11_ten.cls ∈ tG ∧ Cond.code yX11_ten cX11_ten 3 (some .int) ∈ tG ∧ (yX11_ten.cls ≠ "java/lang/invoke/MethodHandle" ∧ yX11_ten.cls ≠ "java/lang/invoke/VarHandle" ∧ (parseMethodDescriptor yX11_ten.desc).map (fun d => d.parameters.length) = some 1) ∧ 3 ≤ 60 := ⟨(tG_of (tb7 (List.mem_of_getElem? (i := 34) rfl)) (by decide +kernel)), (tG_of (tb1 (List.mem_of_getElem? (i := 12) rfl)) (by decide +kernel)), (tG_of (tb7 (List.mem_of_getElem? (i := 35) rfl)) (by decide +kernel)), ⟨by decide, by decide, by decide +kernel⟩, by decide⟩
set_option maxRecDepth 100000 in
theorem mv_X11_326 : mS RX11 326 mX11_ten 1 := ⟨(tG_of (tb7 (List.mem_of_getElem? (i := 33) rfl)) (by decide +kernel)), mi_X11_ten.1, (tG_of (tb1 (List.mem_of_getElem? (i := 12) rfl)) (by decide +kernel)), mi_X11_ten.2⟩
theorem dX11_ten_0 : decode cX11_ten 0 = .ok (.iconst 1, 1) := dc_4 (byA eNcX11_ten (p := 0) (v := 4) (by decide +kernel))
theorem dX11_ten_1 : decode cX11_ten 1 = .ok (.istore_n 1, 1) := dc_60 (byA eNcX11_ten (p := 1) (v := 60) (by decide +kernel))
theorem dX11_ten_2 : decode cX11_ten 2 = .ok (.iconst 0, 1) := dc_3 (byA eNcX11_ten (p := 2) (v := 3) (by decide +kernel))
theorem dX11_ten_3 : decode cX11_ten 3 = .ok (.istore_n 2, 1) := dc_61 (byA eNcX11_ten (p := 3) (v := 61) (by decide +kernel))
theorem dX11_ten_4 : decode cX11_ten 4 = .ok (.iload_n 2, 1) := dc_28 (byA eNcX11_ten (p := 4) (v := 28) (by decide +kernel))
theorem dX11_ten_5 : decode cX11_ten 5 = .ok (.iload_n 0, 1) := dc_26 (byA eNcX11_ten (p := 5) (v := 26) (by decide +kernel))
theorem dX11_ten_6 : decode cX11_ten 6 = .ok (.if_icmp .ge 14, 3) := dc_162 (byA eNcX11_ten (p := 6) (v := 162) (by decide +kernel)) (byA eNcX11_ten (p := 7) (v := 0) (by decide +kernel)) (byA eNcX11_ten (p := 8) (v := 14) (by decide +kernel)) (by decide +kernel)
theorem dX11_ten_9 : decode cX11_ten 9 = .ok (.iload_n 1, 1) := dc_27 (byA eNcX11_ten (p := 9) (v := 27) (by decide +kernel))
theorem dX11_ten_10 : decode cX11_ten 10 = .ok (.bipush 10, 2) := dc_16 (byA eNcX11_ten (p := 10) (v := 16) (by decide +kernel)) (byA eNcX11_ten (p := 11) (v := 10) (by decide +kernel)) (by decide +kernel)
theorem dX11_ten_12 : decode cX11_ten 12 = .ok (.imul, 1) := dc_104 (byA eNcX11_ten (p := 12) (v := 104) (by decide +kernel))
theorem dX11_ten_13 : decode cX11_ten 13 = .ok (.istore_n 1, 1) := dc_60 (byA eNcX11_ten (p := 13) (v := 60) (by decide +kernel))
theorem dX11_ten_14 : decode cX11_ten 14 = .ok (.iinc 2 1, 3) := dc_132 (byA eNcX11_ten (p := 14) (v := 132) (by decide +kernel)) (byA eNcX11_ten (p := 15) (v := 2) (by decide +kernel)) (byA eNcX11_ten (p := 16) (v := 1) (by decide +kernel)) (by decide +kernel)
theorem dX11_ten_17 : decode cX11_ten 17 = .ok (.goto (-13), 3) := dc_167 (byA eNcX11_ten (p := 17) (v := 167) (by decide +kernel)) (byA eNcX11_ten (p := 18) (v := 255) (by decide +kernel)) (byA eNcX11_ten (p := 19) (v := 243) (by decide +kernel)) (by decide +kernel)
theorem dX11_ten_20 : decode cX11_ten 20 = .ok (.iload_n 1, 1) := dc_27 (byA eNcX11_ten (p := 20) (v := 27) (by decide +kernel))
theorem dX11_ten_21 : decode cX11_ten 21 = .ok (.ireturn, 1) := dc_172 (byA eNcX11_ten (p := 21) (v := 172) (by decide +kernel))
def X11_ten_L4 (l0 : Int) : Nat → Int → Int → Mm → Rs
  | 0, _, _, _ => none
  | n + 1, l1, l2, μ => if l0 ≤ l2 then (some (l1, μ)) else (X11_ten_L4 l0 n (iM l1 10) (iA l2 1) μ)
def X11_ten (l0 : Int) (μ : Mm) : Rs := X11_ten_L4 l0 FU 1 0 μ
set_option maxHeartbeats 4000000 in
set_option maxRecDepth 100000 in
theorem kX11_ten_L4 (d : Nat) (hd : 1 ≤ d) {l0 : Int} {r : Int} {μ' : Mm} : ∀ (n : Nat) {l1 l2 : Int} {μ : Mm}, X11_ten_L4 l0 n l1 l2 μ = some (r, μ') → VV d mX11_ten 4 [some (vI l0), some (vI l1), some (vI l2)] [] μ r μ' := by
  intro n
  induction n with
  | zero => intro l1 l2 μ h; rw [X11_ten_L4] at h; cases h
  | succ n ih =>
    intro l1 l2 μ h
    rw [X11_ten_L4] at h
    refine V_iload_n (q := 5) dX11_ten_4 rfl rfl rfl ?_
    refine V_iload_n (q := 6) dX11_ten_5 rfl rfl rfl ?_
    refine V_icmpge (q := 20) (q2 := 9) dX11_ten_6 (by decide) rfl (fun hc1 => ?_) (fun hc1 => ?_)
    · have h := ifT hc1 h
      refine V_iload_n (q := 21) dX11_ten_20 rfl rfl rfl ?_
      exact V_iret rfl h dX11_ten_21
    · have h := ifF hc1 h
      refine V_iload_n (q := 10) dX11_ten_9 rfl rfl rfl ?_
      refine V_bipush (q := 12) dX11_ten_10 rfl rfl rfl ?_
      refine V_imul (q := 13) dX11_ten_12 rfl ?_
      refine V_istore_n (q := 14) dX11_ten_13 rfl (Nat.le_of_ble_eq_true rfl) trivial rfl ?_
      refine V_iinc (q := 17) dX11_ten_14 rfl (Nat.le_of_ble_eq_true rfl) trivial rfl ?_
      refine V_goto (q := 4) dX11_ten_17 (by decide) ?_
      exact V_weak (ih h) (sb_s rfl (sb_s rfl (sb_s rfl sb_0)))
set_option maxHeartbeats 4000000 in
set_option maxRecDepth 100000 in
theorem kX11_ten (d : Nat) (hd : 1 ≤ d) {l0 : Int} {μ : Mm} {r : Int} {μ' : Mm} (h : X11_ten l0 μ = some (r, μ')) : CC d mX11_ten [vI l0] μ r μ' := by
  unfold X11_ten at h
  refine V_enter (by decide) (Nat.le_of_ble_eq_true rfl) ?_
  show VV d mX11_ten 0 [some (vI l0), none, none] [] μ r μ'
  refine V_iconst (q := 1) dX11_ten_0 rfl rfl ?_
  refine V_istore_n (q := 2) dX11_ten_1 rfl (Nat.le_of_ble_eq_true rfl) trivial rfl ?_
  refine V_iconst (q := 3) dX11_ten_2 rfl rfl ?_
  refine V_istore_n (q := 4) dX11_ten_3 rfl (Nat.le_of_ble_eq_true rfl) trivial rfl ?_
  exact V_weak (kX11_ten_L4 d hd  FU h) (sb_s rfl (sb_s rfl (sb_s rfl sb_0)))
abbrev mX11_nth : Mth := (yX11_nth, cX11_nth, 3, some .int)
set_option maxRecDepth 100000 in
theorem mi_X11_nth : Cond.instanceMethod yX11_nth ∈ tG ∧ Cond.selects yX11_nth.cls yX11_nth yX11_nth ∈ tG ∧ Cond.initialized yX11_nth.cls ∈ tG ∧ Cond.code yX11_nth cX11_nth 3 (some .int) ∈ tG ∧ (yX11_nth.cls ≠ "java/lang/invoke/MethodHandle" ∧ yX11_nth.cls ≠ "java/lang/invoke/VarHandle" ∧ (parseMethodDescriptor yX11_nth.desc).map (fun d => d.parameters.length) = some 2) ∧ 3 ≤ 60 := ⟨(tG_of (tb7 (List.mem_of_getElem? (i := 31) rfl)) (by decide +kernel)), (tG_of (List.mem_of_getElem? (i := 85) (by decide +kernel)) (by decide +kernel)), (tG_of (tb1 (List.mem_of_getElem? (i := 12) rfl)) (by decide +kernel)), (tG_of (tb7 (List.mem_of_getElem? (i := 32) rfl)) (by decide +kernel)), ⟨by decide, by decide, by decide +kernel⟩, by decide⟩
set_option maxRecDepth 100000 in
theorem mv_X11_329 : mV RX11 329 mX11_nth 2 := ⟨(tG_of (tb7 (List.mem_of_getElem? (i := 29) rfl)) (by decide +kernel)), mi_X11_nth⟩
theorem dX11_nth_0 : decode cX11_nth 0 = .ok (.iload_n 1, 1) := dc_27 (byA eNcX11_nth (p := 0) (v := 27) (by decide +kernel))
theorem dX11_nth_1 : decode cX11_nth 1 = .ok (.aload_n 0, 1) := dc_42 (byA eNcX11_nth (p := 1) (v := 42) (by decide +kernel))
theorem dX11_nth_2 : decode cX11_nth 2 = .ok (.getfield 316, 3) := dc_180 (byA eNcX11_nth (p := 2) (v := 180) (by decide +kernel)) (byA eNcX11_nth (p := 3) (v := 1) (by decide +kernel)) (byA eNcX11_nth (p := 4) (v := 60) (by decide +kernel)) rfl
theorem dX11_nth_5 : decode cX11_nth 5 = .ok (.iconst 1, 1) := dc_4 (byA eNcX11_nth (p := 5) (v := 4) (by decide +kernel))
theorem dX11_nth_6 : decode cX11_nth 6 = .ok (.isub, 1) := dc_100 (byA eNcX11_nth (p := 6) (v := 100) (by decide +kernel))
theorem dX11_nth_7 : decode cX11_nth 7 = .ok (.iload_n 2, 1) := dc_28 (byA eNcX11_nth (p := 7) (v := 28) (by decide +kernel))
theorem dX11_nth_8 : decode cX11_nth 8 = .ok (.isub, 1) := dc_100 (byA eNcX11_nth (p := 8) (v := 100) (by decide +kernel))
theorem dX11_nth_9 : decode cX11_nth 9 = .ok (.invokestatic 326, 3) := dc_184 (byA eNcX11_nth (p := 9) (v := 184) (by decide +kernel)) (byA eNcX11_nth (p := 10) (v := 1) (by decide +kernel)) (byA eNcX11_nth (p := 11) (v := 70) (by decide +kernel)) rfl
theorem dX11_nth_12 : decode cX11_nth 12 = .ok (.idiv, 1) := dc_108 (byA eNcX11_nth (p := 12) (v := 108) (by decide +kernel))
theorem dX11_nth_13 : decode cX11_nth 13 = .ok (.bipush 10, 2) := dc_16 (byA eNcX11_nth (p := 13) (v := 16) (by decide +kernel)) (byA eNcX11_nth (p := 14) (v := 10) (by decide +kernel)) (by decide +kernel)
theorem dX11_nth_15 : decode cX11_nth 15 = .ok (.irem, 1) := dc_112 (byA eNcX11_nth (p := 15) (v := 112) (by decide +kernel))
theorem dX11_nth_16 : decode cX11_nth 16 = .ok (.ireturn, 1) := dc_172 (byA eNcX11_nth (p := 16) (v := 172) (by decide +kernel))
def X11_nth (l1 : Int) (l2 : Int) (μ : Mm) : Rs := bd (X11_ten (iS (iS (μ 70 37) 1) l2) μ) fun v1 μ2 => dZ v1 (some (iR (iD l1 v1) 10, μ2))
set_option maxHeartbeats 4000000 in
set_option maxRecDepth 100000 in
theorem kX11_nth (d : Nat) (hd : 2 ≤ d) {l1 : Int} {l2 : Int} {μ : Mm} {r : Int} {μ' : Mm} (h : X11_nth l1 l2 μ = some (r, μ')) : CC d mX11_nth [vR 70, vI l1, vI l2] μ r μ' := by
  unfold X11_nth at h
  refine V_enter (by decide) (Nat.le_of_ble_eq_true rfl) ?_
  show VV d mX11_nth 0 [some (vR 70), some (vI l1), some (vI l2)] [] μ r μ'
  refine V_iload_n (q := 1) dX11_nth_0 rfl rfl rfl ?_
  refine V_aload_n (q := 2) dX11_nth_1 rfl rfl rfl ?_
  refine V_getI (q := 5) fl_X11_316 rfl rfl rfl dX11_nth_2 rfl ?_
  refine V_iconst (q := 6) dX11_nth_5 rfl rfl ?_
  refine V_isub (q := 7) dX11_nth_6 rfl ?_
  refine V_iload_n (q := 8) dX11_nth_7 rfl rfl rfl ?_
  refine V_isub (q := 9) dX11_nth_8 rfl ?_
  obtain ⟨v1, μ2, hc3, h⟩ := bd_i h
  refine V_cS1 (q := 12) (v := vI v1) (kX11_ten (d - 1) (by omega) hc3) (by omega) mv_X11_326 rfl rfl rfl rfl dX11_nth_9 rfl ?_
  obtain ⟨hz4, h⟩ := dZ_i h
  refine V_idiv (q := 13) dX11_nth_12 hz4 rfl ?_
  refine V_bipush (q := 15) dX11_nth_13 rfl rfl rfl ?_
  refine V_irem (q := 16) dX11_nth_15 (by decide) rfl ?_
  exact V_iret rfl h dX11_nth_16
abbrev mX11_isOrder : Mth := (yX11_isOrder, cX11_isOrder, 4, some .boolean)
set_option maxRecDepth 100000 in
theorem mi_X11_isOrder : Cond.instanceMethod yX11_isOrder ∈ tG ∧ Cond.selects yX11_isOrder.cls yX11_isOrder yX11_isOrder ∈ tG ∧ Cond.initialized yX11_isOrder.cls ∈ tG ∧ Cond.code yX11_isOrder cX11_isOrder 4 (some .boolean) ∈ tG ∧ (yX11_isOrder.cls ≠ "java/lang/invoke/MethodHandle" ∧ yX11_isOrder.cls ≠ "java/lang/invoke/VarHandle" ∧ (parseMethodDescriptor yX11_isOrder.desc).map (fun d => d.parameters.length) = some 1) ∧ 4 ≤ 60 := ⟨(tG_of (tb7 (List.mem_of_getElem? (i := 27) rfl)) (by decide +kernel)), (tG_of (List.mem_of_getElem? (i := 84) (by decide +kernel)) (by decide +kernel)), (tG_of (tb1 (List.mem_of_getElem? (i := 12) rfl)) (by decide +kernel)), (tG_of (tb7 (List.mem_of_getElem? (i := 28) rfl)) (by decide +kernel)), ⟨by decide, by decide, by decide +kernel⟩, by decide⟩
set_option maxRecDepth 100000 in
theorem mv_X11_338 : mV RX11 338 mX11_isOrder 1 := ⟨(tG_of (tb7 (List.mem_of_getElem? (i := 25) rfl)) (by decide +kernel)), mi_X11_isOrder⟩
theorem dX11_isOrder_0 : decode cX11_isOrder 0 = .ok (.iconst 0, 1) := dc_3 (byA eNcX11_isOrder (p := 0) (v := 3) (by decide +kernel))
theorem dX11_isOrder_1 : decode cX11_isOrder 1 = .ok (.istore_n 2, 1) := dc_61 (byA eNcX11_isOrder (p := 1) (v := 61) (by decide +kernel))
theorem dX11_isOrder_2 : decode cX11_isOrder 2 = .ok (.iconst 0, 1) := dc_3 (byA eNcX11_isOrder (p := 2) (v := 3) (by decide +kernel))
theorem dX11_isOrder_3 : decode cX11_isOrder 3 = .ok (.istore_n 3, 1) := dc_62 (byA eNcX11_isOrder (p := 3) (v := 62) (by decide +kernel))
theorem dX11_isOrder_4 : decode cX11_isOrder 4 = .ok (.iload_n 3, 1) := dc_29 (byA eNcX11_isOrder (p := 4) (v := 29) (by decide +kernel))
theorem dX11_isOrder_5 : decode cX11_isOrder 5 = .ok (.aload_n 0, 1) := dc_42 (byA eNcX11_isOrder (p := 5) (v := 42) (by decide +kernel))
theorem dX11_isOrder_6 : decode cX11_isOrder 6 = .ok (.getfield 316, 3) := dc_180 (byA eNcX11_isOrder (p := 6) (v := 180) (by decide +kernel)) (byA eNcX11_isOrder (p := 7) (v := 1) (by decide +kernel)) (byA eNcX11_isOrder (p := 8) (v := 60) (by decide +kernel)) rfl
theorem dX11_isOrder_9 : decode cX11_isOrder 9 = .ok (.if_icmp .ge 20, 3) := dc_162 (byA eNcX11_isOrder (p := 9) (v := 162) (by decide +kernel)) (byA eNcX11_isOrder (p := 10) (v := 0) (by decide +kernel)) (byA eNcX11_isOrder (p := 11) (v := 20) (by decide +kernel)) (by decide +kernel)
theorem dX11_isOrder_12 : decode cX11_isOrder 12 = .ok (.iload_n 2, 1) := dc_28 (byA eNcX11_isOrder (p := 12) (v := 28) (by decide +kernel))
theorem dX11_isOrder_13 : decode cX11_isOrder 13 = .ok (.iconst 1, 1) := dc_4 (byA eNcX11_isOrder (p := 13) (v := 4) (by decide +kernel))
theorem dX11_isOrder_14 : decode cX11_isOrder 14 = .ok (.aload_n 0, 1) := dc_42 (byA eNcX11_isOrder (p := 14) (v := 42) (by decide +kernel))
theorem dX11_isOrder_15 : decode cX11_isOrder 15 = .ok (.iload_n 1, 1) := dc_27 (byA eNcX11_isOrder (p := 15) (v := 27) (by decide +kernel))
theorem dX11_isOrder_16 : decode cX11_isOrder 16 = .ok (.iload_n 3, 1) := dc_29 (byA eNcX11_isOrder (p := 16) (v := 29) (by decide +kernel))
theorem dX11_isOrder_17 : decode cX11_isOrder 17 = .ok (.invokevirtual 329, 3) := dc_182 (byA eNcX11_isOrder (p := 17) (v := 182) (by decide +kernel)) (byA eNcX11_isOrder (p := 18) (v := 1) (by decide +kernel)) (byA eNcX11_isOrder (p := 19) (v := 73) (by decide +kernel)) rfl
theorem dX11_isOrder_20 : decode cX11_isOrder 20 = .ok (.ishl, 1) := dc_120 (byA eNcX11_isOrder (p := 20) (v := 120) (by decide +kernel))
theorem dX11_isOrder_21 : decode cX11_isOrder 21 = .ok (.ior, 1) := dc_128 (byA eNcX11_isOrder (p := 21) (v := 128) (by decide +kernel))
theorem dX11_isOrder_22 : decode cX11_isOrder 22 = .ok (.istore_n 2, 1) := dc_61 (byA eNcX11_isOrder (p := 22) (v := 61) (by decide +kernel))
theorem dX11_isOrder_23 : decode cX11_isOrder 23 = .ok (.iinc 3 1, 3) := dc_132 (byA eNcX11_isOrder (p := 23) (v := 132) (by decide +kernel)) (byA eNcX11_isOrder (p := 24) (v := 3) (by decide +kernel)) (byA eNcX11_isOrder (p := 25) (v := 1) (by decide +kernel)) (by decide +kernel)
theorem dX11_isOrder_26 : decode cX11_isOrder 26 = .ok (.goto (-22), 3) := dc_167 (byA eNcX11_isOrder (p := 26) (v := 167) (by decide +kernel)) (byA eNcX11_isOrder (p := 27) (v := 255) (by decide +kernel)) (byA eNcX11_isOrder (p := 28) (v := 234) (by decide +kernel)) (by decide +kernel)
theorem dX11_isOrder_29 : decode cX11_isOrder 29 = .ok (.iload_n 1, 1) := dc_27 (byA eNcX11_isOrder (p := 29) (v := 27) (by decide +kernel))
theorem dX11_isOrder_30 : decode cX11_isOrder 30 = .ok (.iconst 0, 1) := dc_3 (byA eNcX11_isOrder (p := 30) (v := 3) (by decide +kernel))
theorem dX11_isOrder_31 : decode cX11_isOrder 31 = .ok (.aload_n 0, 1) := dc_42 (byA eNcX11_isOrder (p := 31) (v := 42) (by decide +kernel))
theorem dX11_isOrder_32 : decode cX11_isOrder 32 = .ok (.getfield 316, 3) := dc_180 (byA eNcX11_isOrder (p := 32) (v := 180) (by decide +kernel)) (byA eNcX11_isOrder (p := 33) (v := 1) (by decide +kernel)) (byA eNcX11_isOrder (p := 34) (v := 60) (by decide +kernel)) rfl
theorem dX11_isOrder_35 : decode cX11_isOrder 35 = .ok (.invokestatic 326, 3) := dc_184 (byA eNcX11_isOrder (p := 35) (v := 184) (by decide +kernel)) (byA eNcX11_isOrder (p := 36) (v := 1) (by decide +kernel)) (byA eNcX11_isOrder (p := 37) (v := 70) (by decide +kernel)) rfl
theorem dX11_isOrder_38 : decode cX11_isOrder 38 = .ok (.iconst 1, 1) := dc_4 (byA eNcX11_isOrder (p := 38) (v := 4) (by decide +kernel))
theorem dX11_isOrder_39 : decode cX11_isOrder 39 = .ok (.isub, 1) := dc_100 (byA eNcX11_isOrder (p := 39) (v := 100) (by decide +kernel))
theorem dX11_isOrder_40 : decode cX11_isOrder 40 = .ok (.invokestatic 213, 3) := dc_184 (byA eNcX11_isOrder (p := 40) (v := 184) (by decide +kernel)) (byA eNcX11_isOrder (p := 41) (v := 0) (by decide +kernel)) (byA eNcX11_isOrder (p := 42) (v := 213) (by decide +kernel)) rfl
theorem dX11_isOrder_43 : decode cX11_isOrder 43 = .ok (.ifCond .eq 19, 3) := dc_153 (byA eNcX11_isOrder (p := 43) (v := 153) (by decide +kernel)) (byA eNcX11_isOrder (p := 44) (v := 0) (by decide +kernel)) (byA eNcX11_isOrder (p := 45) (v := 19) (by decide +kernel)) (by decide +kernel)
theorem dX11_isOrder_46 : decode cX11_isOrder 46 = .ok (.iload_n 2, 1) := dc_28 (byA eNcX11_isOrder (p := 46) (v := 28) (by decide +kernel))
theorem dX11_isOrder_47 : decode cX11_isOrder 47 = .ok (.iconst 1, 1) := dc_4 (byA eNcX11_isOrder (p := 47) (v := 4) (by decide +kernel))
theorem dX11_isOrder_48 : decode cX11_isOrder 48 = .ok (.aload_n 0, 1) := dc_42 (byA eNcX11_isOrder (p := 48) (v := 42) (by decide +kernel))
theorem dX11_isOrder_49 : decode cX11_isOrder 49 = .ok (.getfield 316, 3) := dc_180 (byA eNcX11_isOrder (p := 49) (v := 180) (by decide +kernel)) (byA eNcX11_isOrder (p := 50) (v := 1) (by decide +kernel)) (byA eNcX11_isOrder (p := 51) (v := 60) (by decide +kernel)) rfl
theorem dX11_isOrder_52 : decode cX11_isOrder 52 = .ok (.ishl, 1) := dc_120 (byA eNcX11_isOrder (p := 52) (v := 120) (by decide +kernel))
theorem dX11_isOrder_53 : decode cX11_isOrder 53 = .ok (.iconst 1, 1) := dc_4 (byA eNcX11_isOrder (p := 53) (v := 4) (by decide +kernel))
theorem dX11_isOrder_54 : decode cX11_isOrder 54 = .ok (.isub, 1) := dc_100 (byA eNcX11_isOrder (p := 54) (v := 100) (by decide +kernel))
theorem dX11_isOrder_55 : decode cX11_isOrder 55 = .ok (.if_icmp .ne 7, 3) := dc_160 (byA eNcX11_isOrder (p := 55) (v := 160) (by decide +kernel)) (byA eNcX11_isOrder (p := 56) (v := 0) (by decide +kernel)) (byA eNcX11_isOrder (p := 57) (v := 7) (by decide +kernel)) (by decide +kernel)
theorem dX11_isOrder_58 : decode cX11_isOrder 58 = .ok (.iconst 1, 1) := dc_4 (byA eNcX11_isOrder (p := 58) (v := 4) (by decide +kernel))
theorem dX11_isOrder_59 : decode cX11_isOrder 59 = .ok (.goto 4, 3) := dc_167 (byA eNcX11_isOrder (p := 59) (v := 167) (by decide +kernel)) (byA eNcX11_isOrder (p := 60) (v := 0) (by decide +kernel)) (byA eNcX11_isOrder (p := 61) (v := 4) (by decide +kernel)) (by decide +kernel)
theorem dX11_isOrder_62 : decode cX11_isOrder 62 = .ok (.iconst 0, 1) := dc_3 (byA eNcX11_isOrder (p := 62) (v := 3) (by decide +kernel))
theorem dX11_isOrder_63 : decode cX11_isOrder 63 = .ok (.ireturn, 1) := dc_172 (byA eNcX11_isOrder (p := 63) (v := 172) (by decide +kernel))
def X11_isOrder_L4 (l1 : Int) (k29 : Int → Mm → Rs) : Nat → Int → Int → Mm → Rs
  | 0, _, _, _ => none
  | n + 1, l2, l3, μ => if (μ 70 37) ≤ l3 then (k29 l2 μ) else (bd (X11_nth l1 l3 μ) fun v2 μ3 => lt_ (bO l2 (bL 1 v2)) fun v5 => X11_isOrder_L4 l1 k29 n v5 (iA l3 1) μ3)
def X11_isOrder (l1 : Int) (μ : Mm) : Rs := X11_isOrder_L4 l1 (fun v6 μ7 => bd (X11_ten (μ7 70 37) μ7) fun v8 μ9 => bd (X11_in l1 0 (iS v8 1) μ9) fun v11 μ12 => if v11 = 0 then (some (0, μ12)) else (if v6 = (iS (bL 1 (μ12 70 37)) 1) then (some (1, μ12)) else (some (0, μ12)))) FU 0 0 μ
set_option maxHeartbeats 4000000 in
set_option maxRecDepth 100000 in
theorem kX11_isOrder_L4 (d : Nat) (hd : 3 ≤ d) {l1 : Int} {k29 : Int → Mm → Rs} {r : Int} {μ' : Mm} (hk_29 : ∀ (v2 : Int) (μ1 : Mm), k29 v2 μ1 = some (r, μ') → VV d mX11_isOrder 29 [some (vR 70), some (vI l1), some (vI v2), none] [] μ1 r μ') : ∀ (n : Nat) {l2 l3 : Int} {μ : Mm}, X11_isOrder_L4 l1 k29 n l2 l3 μ = some (r, μ') → VV d mX11_isOrder 4 [some (vR 70), some (vI l1), some (vI l2), some (vI l3)] [] μ r μ' := by
  intro n
  induction n with
  | zero => intro l2 l3 μ h; rw [X11_isOrder_L4] at h; cases h
  | succ n ih =>
    intro l2 l3 μ h
    rw [X11_isOrder_L4] at h
    refine V_iload_n (q := 5) dX11_isOrder_4 rfl rfl rfl ?_
    refine V_aload_n (q := 6) dX11_isOrder_5 rfl rfl rfl ?_
    refine V_getI (q := 9) fl_X11_316 rfl rfl rfl dX11_isOrder_6 rfl ?_
    refine V_icmpge (q := 29) (q2 := 12) dX11_isOrder_9 (by decide) rfl (fun hc1 => ?_) (fun hc1 => ?_)
    · have h := ifT hc1 h
      exact V_weak (hk_29 _ _ h) (sb_s rfl (sb_s rfl (sb_s rfl (sb_n sb_0))))
    · have h := ifF hc1 h
      refine V_iload_n (q := 13) dX11_isOrder_12 rfl rfl rfl ?_
      refine V_iconst (q := 14) dX11_isOrder_13 rfl rfl ?_
      refine V_aload_n (q := 15) dX11_isOrder_14 rfl rfl rfl ?_
      refine V_iload_n (q := 16) dX11_isOrder_15 rfl rfl rfl ?_
      refine V_iload_n (q := 17) dX11_isOrder_16 rfl rfl rfl ?_
      obtain ⟨v2, μ3, hc4, h⟩ := bd_i h
      refine V_cV1 (q := 20) (v := vI v2) (kX11_nth (d - 1) (by omega) hc4) (by omega) mv_X11_329 rfl rfl rfl rfl rfl rfl dX11_isOrder_17 rfl ?_
      refine V_ishl (q := 21) dX11_isOrder_20 rfl ?_
      refine V_ior (q := 22) dX11_isOrder_21 rfl ?_
      have h := lt_i h
      refine V_istore_n (q := 23) dX11_isOrder_22 rfl (Nat.le_of_ble_eq_true rfl) trivial rfl ?_
      refine V_iinc (q := 26) dX11_isOrder_23 rfl (Nat.le_of_ble_eq_true rfl) trivial rfl ?_
      refine V_goto (q := 4) dX11_isOrder_26 (by decide) ?_
      exact V_weak (ih h) (sb_s rfl (sb_s rfl (sb_s rfl (sb_s rfl sb_0))))
set_option maxHeartbeats 4000000 in
set_option maxRecDepth 100000 in
theorem kX11_isOrder (d : Nat) (hd : 3 ≤ d) {l1 : Int} {μ : Mm} {r : Int} {μ' : Mm} (h : X11_isOrder l1 μ = some (r, μ')) : CC d mX11_isOrder [vR 70, vI l1] μ r μ' := by
  unfold X11_isOrder at h
  refine V_enter (by decide) (Nat.le_of_ble_eq_true rfl) ?_
  show VV d mX11_isOrder 0 [some (vR 70), some (vI l1), none, none] [] μ r μ'
  refine V_iconst (q := 1) dX11_isOrder_0 rfl rfl ?_
  refine V_istore_n (q := 2) dX11_isOrder_1 rfl (Nat.le_of_ble_eq_true rfl) trivial rfl ?_
  refine V_iconst (q := 3) dX11_isOrder_2 rfl rfl ?_
  refine V_istore_n (q := 4) dX11_isOrder_3 rfl (Nat.le_of_ble_eq_true rfl) trivial rfl ?_
  refine V_weak (kX11_isOrder_L4 d hd (fun v6 μ7 h => ?_) FU h) (sb_s rfl (sb_s rfl (sb_s rfl (sb_s rfl sb_0))))
  refine V_iload_n (q := 30) dX11_isOrder_29 rfl rfl rfl ?_
  refine V_iconst (q := 31) dX11_isOrder_30 rfl rfl ?_
  refine V_aload_n (q := 32) dX11_isOrder_31 rfl rfl rfl ?_
  refine V_getI (q := 35) fl_X11_316 rfl rfl rfl dX11_isOrder_32 rfl ?_
  obtain ⟨v8, μ9, hc10, h⟩ := bd_i h
  refine V_cS1 (q := 38) (v := vI v8) (kX11_ten (d - 1) (by omega) hc10) (by omega) mv_X11_326 rfl rfl rfl rfl dX11_isOrder_35 rfl ?_
  refine V_iconst (q := 39) dX11_isOrder_38 rfl rfl ?_
  refine V_isub (q := 40) dX11_isOrder_39 rfl ?_
  obtain ⟨v11, μ12, hc13, h⟩ := bd_i h
  refine V_cS1 (q := 43) (v := vI v11) (kX11_in (d - 1) (by omega) hc13) (by omega) mv_X11_213 rfl rfl rfl rfl dX11_isOrder_40 rfl ?_
  refine V_ifeq (q := 62) (q2 := 46) dX11_isOrder_43 (by decide) rfl (fun hc14 => ?_) (fun hc14 => ?_)
  · have h := ifT hc14 h
    refine V_iconst (q := 63) dX11_isOrder_62 rfl rfl ?_
    exact V_zret rfl (Or.inl rfl) h dX11_isOrder_63
  · have h := ifF hc14 h
    refine V_iload_n (q := 47) dX11_isOrder_46 rfl rfl rfl ?_
    refine V_iconst (q := 48) dX11_isOrder_47 rfl rfl ?_
    refine V_aload_n (q := 49) dX11_isOrder_48 rfl rfl rfl ?_
    refine V_getI (q := 52) fl_X11_316 rfl rfl rfl dX11_isOrder_49 rfl ?_
    refine V_ishl (q := 53) dX11_isOrder_52 rfl ?_
    refine V_iconst (q := 54) dX11_isOrder_53 rfl rfl ?_
    refine V_isub (q := 55) dX11_isOrder_54 rfl ?_
    refine V_icmpne (q := 62) (q2 := 58) dX11_isOrder_55 (by decide) rfl (fun hc15 => ?_) (fun hc15 => ?_)
    · have h := ifF hc15 h
      refine V_iconst (q := 63) dX11_isOrder_62 rfl rfl ?_
      exact V_zret rfl (Or.inl rfl) h dX11_isOrder_63
    · have h := ifT hc15 h
      refine V_iconst (q := 59) dX11_isOrder_58 rfl rfl ?_
      refine V_goto (q := 63) dX11_isOrder_59 (by decide) ?_
      exact V_zret rfl (Or.inr rfl) h dX11_isOrder_63
abbrev mX11_go : Mth := (yX11_go, cX11_go, 6, some .boolean)
set_option maxRecDepth 100000 in
theorem mi_X11_go : Cond.instanceMethod yX11_go ∈ tG ∧ Cond.selects yX11_go.cls yX11_go yX11_go ∈ tG ∧ Cond.initialized yX11_go.cls ∈ tG ∧ Cond.code yX11_go cX11_go 6 (some .boolean) ∈ tG ∧ (yX11_go.cls ≠ "java/lang/invoke/MethodHandle" ∧ yX11_go.cls ≠ "java/lang/invoke/VarHandle" ∧ (parseMethodDescriptor yX11_go.desc).map (fun d => d.parameters.length) = some 1) ∧ 6 ≤ 60 := ⟨(tG_of (tb7 (List.mem_of_getElem? (i := 38) rfl)) (by decide +kernel)), (tG_of (List.mem_of_getElem? (i := 86) (by decide +kernel)) (by decide +kernel)), (tG_of (tb1 (List.mem_of_getElem? (i := 12) rfl)) (by decide +kernel)), (tG_of (tb7 (List.mem_of_getElem? (i := 39) rfl)) (by decide +kernel)), ⟨by decide, by decide, by decide +kernel⟩, by decide⟩
set_option maxRecDepth 100000 in
theorem mv_X11_341 : mV RX11 341 mX11_go 1 := ⟨(tG_of (tb7 (List.mem_of_getElem? (i := 36) rfl)) (by decide +kernel)), mi_X11_go⟩
theorem dX11_go_0 : decode cX11_go 0 = .ok (.aload_n 0, 1) := dc_42 (byA eNcX11_go (p := 0) (v := 42) (by decide +kernel))
theorem dX11_go_1 : decode cX11_go 1 = .ok (.getfield 316, 3) := dc_180 (byA eNcX11_go (p := 1) (v := 180) (by decide +kernel)) (byA eNcX11_go (p := 2) (v := 1) (by decide +kernel)) (byA eNcX11_go (p := 3) (v := 60) (by decide +kernel)) rfl
theorem dX11_go_4 : decode cX11_go 4 = .ok (.istore_n 2, 1) := dc_61 (byA eNcX11_go (p := 4) (v := 61) (by decide +kernel))
theorem dX11_go_5 : decode cX11_go 5 = .ok (.iconst 0, 1) := dc_3 (byA eNcX11_go (p := 5) (v := 3) (by decide +kernel))
theorem dX11_go_6 : decode cX11_go 6 = .ok (.istore_n 3, 1) := dc_62 (byA eNcX11_go (p := 6) (v := 62) (by decide +kernel))
theorem dX11_go_7 : decode cX11_go 7 = .ok (.iconst 0, 1) := dc_3 (byA eNcX11_go (p := 7) (v := 3) (by decide +kernel))
theorem dX11_go_8 : decode cX11_go 8 = .ok (.istore 4, 2) := dc_54 (byA eNcX11_go (p := 8) (v := 54) (by decide +kernel)) (byA eNcX11_go (p := 9) (v := 4) (by decide +kernel))
theorem dX11_go_10 : decode cX11_go 10 = .ok (.iload 4, 2) := dc_21 (byA eNcX11_go (p := 10) (v := 21) (by decide +kernel)) (byA eNcX11_go (p := 11) (v := 4) (by decide +kernel))
theorem dX11_go_12 : decode cX11_go 12 = .ok (.aload_n 0, 1) := dc_42 (byA eNcX11_go (p := 12) (v := 42) (by decide +kernel))
theorem dX11_go_13 : decode cX11_go 13 = .ok (.getfield 316, 3) := dc_180 (byA eNcX11_go (p := 13) (v := 180) (by decide +kernel)) (byA eNcX11_go (p := 14) (v := 1) (by decide +kernel)) (byA eNcX11_go (p := 15) (v := 60) (by decide +kernel)) rfl
theorem dX11_go_16 : decode cX11_go 16 = .ok (.if_icmp .ge 99, 3) := dc_162 (byA eNcX11_go (p := 16) (v := 162) (by decide +kernel)) (byA eNcX11_go (p := 17) (v := 0) (by decide +kernel)) (byA eNcX11_go (p := 18) (v := 99) (by decide +kernel)) (by decide +kernel)
theorem dX11_go_19 : decode cX11_go 19 = .ok (.aload_n 0, 1) := dc_42 (byA eNcX11_go (p := 19) (v := 42) (by decide +kernel))
theorem dX11_go_20 : decode cX11_go 20 = .ok (.iload_n 1, 1) := dc_27 (byA eNcX11_go (p := 20) (v := 27) (by decide +kernel))
theorem dX11_go_21 : decode cX11_go 21 = .ok (.iload 4, 2) := dc_21 (byA eNcX11_go (p := 21) (v := 21) (by decide +kernel)) (byA eNcX11_go (p := 22) (v := 4) (by decide +kernel))
theorem dX11_go_23 : decode cX11_go 23 = .ok (.invokevirtual 329, 3) := dc_182 (byA eNcX11_go (p := 23) (v := 182) (by decide +kernel)) (byA eNcX11_go (p := 24) (v := 1) (by decide +kernel)) (byA eNcX11_go (p := 25) (v := 73) (by decide +kernel)) rfl
theorem dX11_go_26 : decode cX11_go 26 = .ok (.istore 5, 2) := dc_54 (byA eNcX11_go (p := 26) (v := 54) (by decide +kernel)) (byA eNcX11_go (p := 27) (v := 5) (by decide +kernel))
theorem dX11_go_28 : decode cX11_go 28 = .ok (.aload_n 0, 1) := dc_42 (byA eNcX11_go (p := 28) (v := 42) (by decide +kernel))
theorem dX11_go_29 : decode cX11_go 29 = .ok (.getfield 71, 3) := dc_180 (byA eNcX11_go (p := 29) (v := 180) (by decide +kernel)) (byA eNcX11_go (p := 30) (v := 0) (by decide +kernel)) (byA eNcX11_go (p := 31) (v := 71) (by decide +kernel)) rfl
theorem dX11_go_32 : decode cX11_go 32 = .ok (.bipush 8, 2) := dc_16 (byA eNcX11_go (p := 32) (v := 16) (by decide +kernel)) (byA eNcX11_go (p := 33) (v := 8) (by decide +kernel)) (by decide +kernel)
theorem dX11_go_34 : decode cX11_go 34 = .ok (.iload_n 2, 1) := dc_28 (byA eNcX11_go (p := 34) (v := 28) (by decide +kernel))
theorem dX11_go_35 : decode cX11_go 35 = .ok (.imul, 1) := dc_104 (byA eNcX11_go (p := 35) (v := 104) (by decide +kernel))
theorem dX11_go_36 : decode cX11_go 36 = .ok (.iload 5, 2) := dc_21 (byA eNcX11_go (p := 36) (v := 21) (by decide +kernel)) (byA eNcX11_go (p := 37) (v := 5) (by decide +kernel))
theorem dX11_go_38 : decode cX11_go 38 = .ok (.iadd, 1) := dc_96 (byA eNcX11_go (p := 38) (v := 96) (by decide +kernel))
theorem dX11_go_39 : decode cX11_go 39 = .ok (.iaload, 1) := dc_46 (byA eNcX11_go (p := 39) (v := 46) (by decide +kernel))
theorem dX11_go_40 : decode cX11_go 40 = .ok (.iconst (-1), 1) := dc_2 (byA eNcX11_go (p := 40) (v := 2) (by decide +kernel))
theorem dX11_go_41 : decode cX11_go 41 = .ok (.if_icmp .ne 5, 3) := dc_160 (byA eNcX11_go (p := 41) (v := 160) (by decide +kernel)) (byA eNcX11_go (p := 42) (v := 0) (by decide +kernel)) (byA eNcX11_go (p := 43) (v := 5) (by decide +kernel)) (by decide +kernel)
theorem dX11_go_44 : decode cX11_go 44 = .ok (.iconst 0, 1) := dc_3 (byA eNcX11_go (p := 44) (v := 3) (by decide +kernel))
theorem dX11_go_45 : decode cX11_go 45 = .ok (.ireturn, 1) := dc_172 (byA eNcX11_go (p := 45) (v := 172) (by decide +kernel))
theorem dX11_go_46 : decode cX11_go 46 = .ok (.aload_n 0, 1) := dc_42 (byA eNcX11_go (p := 46) (v := 42) (by decide +kernel))
theorem dX11_go_47 : decode cX11_go 47 = .ok (.getfield 77, 3) := dc_180 (byA eNcX11_go (p := 47) (v := 180) (by decide +kernel)) (byA eNcX11_go (p := 48) (v := 0) (by decide +kernel)) (byA eNcX11_go (p := 49) (v := 77) (by decide +kernel)) rfl
theorem dX11_go_50 : decode cX11_go 50 = .ok (.iload 5, 2) := dc_21 (byA eNcX11_go (p := 50) (v := 21) (by decide +kernel)) (byA eNcX11_go (p := 51) (v := 5) (by decide +kernel))
theorem dX11_go_52 : decode cX11_go 52 = .ok (.iload_n 3, 1) := dc_29 (byA eNcX11_go (p := 52) (v := 29) (by decide +kernel))
theorem dX11_go_53 : decode cX11_go 53 = .ok (.aload_n 0, 1) := dc_42 (byA eNcX11_go (p := 53) (v := 42) (by decide +kernel))
theorem dX11_go_54 : decode cX11_go 54 = .ok (.getfield 71, 3) := dc_180 (byA eNcX11_go (p := 54) (v := 180) (by decide +kernel)) (byA eNcX11_go (p := 55) (v := 0) (by decide +kernel)) (byA eNcX11_go (p := 56) (v := 71) (by decide +kernel)) rfl
theorem dX11_go_57 : decode cX11_go 57 = .ok (.bipush 8, 2) := dc_16 (byA eNcX11_go (p := 57) (v := 16) (by decide +kernel)) (byA eNcX11_go (p := 58) (v := 8) (by decide +kernel)) (by decide +kernel)
theorem dX11_go_59 : decode cX11_go 59 = .ok (.iload_n 2, 1) := dc_28 (byA eNcX11_go (p := 59) (v := 28) (by decide +kernel))
theorem dX11_go_60 : decode cX11_go 60 = .ok (.imul, 1) := dc_104 (byA eNcX11_go (p := 60) (v := 104) (by decide +kernel))
theorem dX11_go_61 : decode cX11_go 61 = .ok (.iload 5, 2) := dc_21 (byA eNcX11_go (p := 61) (v := 21) (by decide +kernel)) (byA eNcX11_go (p := 62) (v := 5) (by decide +kernel))
theorem dX11_go_63 : decode cX11_go 63 = .ok (.iadd, 1) := dc_96 (byA eNcX11_go (p := 63) (v := 96) (by decide +kernel))
theorem dX11_go_64 : decode cX11_go 64 = .ok (.iaload, 1) := dc_46 (byA eNcX11_go (p := 64) (v := 46) (by decide +kernel))
theorem dX11_go_65 : decode cX11_go 65 = .ok (.aload_n 0, 1) := dc_42 (byA eNcX11_go (p := 65) (v := 42) (by decide +kernel))
theorem dX11_go_66 : decode cX11_go 66 = .ok (.getfield 319, 3) := dc_180 (byA eNcX11_go (p := 66) (v := 180) (by decide +kernel)) (byA eNcX11_go (p := 67) (v := 1) (by decide +kernel)) (byA eNcX11_go (p := 68) (v := 63) (by decide +kernel)) rfl
theorem dX11_go_69 : decode cX11_go 69 = .ok (.imul, 1) := dc_104 (byA eNcX11_go (p := 69) (v := 104) (by decide +kernel))
theorem dX11_go_70 : decode cX11_go 70 = .ok (.iadd, 1) := dc_96 (byA eNcX11_go (p := 70) (v := 96) (by decide +kernel))
theorem dX11_go_71 : decode cX11_go 71 = .ok (.iastore, 1) := dc_79 (byA eNcX11_go (p := 71) (v := 79) (by decide +kernel))
theorem dX11_go_72 : decode cX11_go 72 = .ok (.aload_n 0, 1) := dc_42 (byA eNcX11_go (p := 72) (v := 42) (by decide +kernel))
theorem dX11_go_73 : decode cX11_go 73 = .ok (.getfield 77, 3) := dc_180 (byA eNcX11_go (p := 73) (v := 180) (by decide +kernel)) (byA eNcX11_go (p := 74) (v := 0) (by decide +kernel)) (byA eNcX11_go (p := 75) (v := 77) (by decide +kernel)) rfl
theorem dX11_go_76 : decode cX11_go 76 = .ok (.iload 5, 2) := dc_21 (byA eNcX11_go (p := 76) (v := 21) (by decide +kernel)) (byA eNcX11_go (p := 77) (v := 5) (by decide +kernel))
theorem dX11_go_78 : decode cX11_go 78 = .ok (.iaload, 1) := dc_46 (byA eNcX11_go (p := 78) (v := 46) (by decide +kernel))
theorem dX11_go_79 : decode cX11_go 79 = .ok (.aload_n 0, 1) := dc_42 (byA eNcX11_go (p := 79) (v := 42) (by decide +kernel))
theorem dX11_go_80 : decode cX11_go 80 = .ok (.getfield 74, 3) := dc_180 (byA eNcX11_go (p := 80) (v := 180) (by decide +kernel)) (byA eNcX11_go (p := 81) (v := 0) (by decide +kernel)) (byA eNcX11_go (p := 82) (v := 74) (by decide +kernel)) rfl
theorem dX11_go_83 : decode cX11_go 83 = .ok (.iload 5, 2) := dc_21 (byA eNcX11_go (p := 83) (v := 21) (by decide +kernel)) (byA eNcX11_go (p := 84) (v := 5) (by decide +kernel))
theorem dX11_go_85 : decode cX11_go 85 = .ok (.iaload, 1) := dc_46 (byA eNcX11_go (p := 85) (v := 46) (by decide +kernel))
theorem dX11_go_86 : decode cX11_go 86 = .ok (.iadd, 1) := dc_96 (byA eNcX11_go (p := 86) (v := 96) (by decide +kernel))
theorem dX11_go_87 : decode cX11_go 87 = .ok (.aload_n 0, 1) := dc_42 (byA eNcX11_go (p := 87) (v := 42) (by decide +kernel))
theorem dX11_go_88 : decode cX11_go 88 = .ok (.getfield 68, 3) := dc_180 (byA eNcX11_go (p := 88) (v := 180) (by decide +kernel)) (byA eNcX11_go (p := 89) (v := 0) (by decide +kernel)) (byA eNcX11_go (p := 90) (v := 68) (by decide +kernel)) rfl
theorem dX11_go_91 : decode cX11_go 91 = .ok (.iload 5, 2) := dc_21 (byA eNcX11_go (p := 91) (v := 21) (by decide +kernel)) (byA eNcX11_go (p := 92) (v := 5) (by decide +kernel))
theorem dX11_go_93 : decode cX11_go 93 = .ok (.iaload, 1) := dc_46 (byA eNcX11_go (p := 93) (v := 46) (by decide +kernel))
theorem dX11_go_94 : decode cX11_go 94 = .ok (.invokestatic 302, 3) := dc_184 (byA eNcX11_go (p := 94) (v := 184) (by decide +kernel)) (byA eNcX11_go (p := 95) (v := 1) (by decide +kernel)) (byA eNcX11_go (p := 96) (v := 46) (by decide +kernel)) rfl
theorem dX11_go_97 : decode cX11_go 97 = .ok (.istore_n 3, 1) := dc_62 (byA eNcX11_go (p := 97) (v := 62) (by decide +kernel))
theorem dX11_go_98 : decode cX11_go 98 = .ok (.aload_n 0, 1) := dc_42 (byA eNcX11_go (p := 98) (v := 42) (by decide +kernel))
theorem dX11_go_99 : decode cX11_go 99 = .ok (.getfield 80, 3) := dc_180 (byA eNcX11_go (p := 99) (v := 180) (by decide +kernel)) (byA eNcX11_go (p := 100) (v := 0) (by decide +kernel)) (byA eNcX11_go (p := 101) (v := 80) (by decide +kernel)) rfl
theorem dX11_go_102 : decode cX11_go 102 = .ok (.iload 5, 2) := dc_21 (byA eNcX11_go (p := 102) (v := 21) (by decide +kernel)) (byA eNcX11_go (p := 103) (v := 5) (by decide +kernel))
theorem dX11_go_104 : decode cX11_go 104 = .ok (.iload_n 3, 1) := dc_29 (byA eNcX11_go (p := 104) (v := 29) (by decide +kernel))
theorem dX11_go_105 : decode cX11_go 105 = .ok (.iastore, 1) := dc_79 (byA eNcX11_go (p := 105) (v := 79) (by decide +kernel))
theorem dX11_go_106 : decode cX11_go 106 = .ok (.iload 5, 2) := dc_21 (byA eNcX11_go (p := 106) (v := 21) (by decide +kernel)) (byA eNcX11_go (p := 107) (v := 5) (by decide +kernel))
theorem dX11_go_108 : decode cX11_go 108 = .ok (.istore_n 2, 1) := dc_61 (byA eNcX11_go (p := 108) (v := 61) (by decide +kernel))
theorem dX11_go_109 : decode cX11_go 109 = .ok (.iinc 4 1, 3) := dc_132 (byA eNcX11_go (p := 109) (v := 132) (by decide +kernel)) (byA eNcX11_go (p := 110) (v := 4) (by decide +kernel)) (byA eNcX11_go (p := 111) (v := 1) (by decide +kernel)) (by decide +kernel)
theorem dX11_go_112 : decode cX11_go 112 = .ok (.goto (-102), 3) := dc_167 (byA eNcX11_go (p := 112) (v := 167) (by decide +kernel)) (byA eNcX11_go (p := 113) (v := 255) (by decide +kernel)) (byA eNcX11_go (p := 114) (v := 154) (by decide +kernel)) (by decide +kernel)
theorem dX11_go_115 : decode cX11_go 115 = .ok (.iconst 1, 1) := dc_4 (byA eNcX11_go (p := 115) (v := 4) (by decide +kernel))
theorem dX11_go_116 : decode cX11_go 116 = .ok (.ireturn, 1) := dc_172 (byA eNcX11_go (p := 116) (v := 172) (by decide +kernel))
def X11_go_L10 (l1 : Int) : Nat → Int → Int → Int → Mm → Rs
  | 0, _, _, _, _ => none
  | n + 1, l2, l3, l4, μ => if (μ 70 37) ≤ l4 then (some (1, μ)) else (bd (X11_nth l1 l4 μ) fun v2 μ3 => ldA μ3 89 (iA (iM 8 l2) v2) fun v5 => if v5 = (-1) then (some (0, μ3)) else (ldA μ3 89 (iA (iM 8 l2) v2) fun v8 => stA μ3 91 v2 (iA l3 (iM v8 (μ3 70 38))) fun μ10 => ldA μ10 91 v2 fun v12 => ldA μ10 90 v2 fun v14 => ldA μ10 88 v2 fun v16 => lt_ (mX (iA v12 v14) v16) fun v18 => stA μ10 92 v2 v18 fun μ19 => X11_go_L10 l1 n v2 v18 (iA l4 1) μ19))
def X11_go (l1 : Int) (μ : Mm) : Rs := X11_go_L10 l1 FU (μ 70 37) 0 0 μ
set_option maxHeartbeats 4000000 in
set_option maxRecDepth 100000 in
theorem kX11_go_L10 (d : Nat) (hd : 3 ≤ d) {l1 : Int} {r : Int} {μ' : Mm} : ∀ (n : Nat) {l2 l3 l4 : Int} {μ : Mm}, X11_go_L10 l1 n l2 l3 l4 μ = some (r, μ') → VV d mX11_go 10 [some (vR 70), some (vI l1), some (vI l2), some (vI l3), some (vI l4), none] [] μ r μ' := by
  intro n
  induction n with
  | zero => intro l2 l3 l4 μ h; rw [X11_go_L10] at h; cases h
  | succ n ih =>
    intro l2 l3 l4 μ h
    rw [X11_go_L10] at h
    refine V_iload (q := 12) dX11_go_10 rfl rfl ?_
    refine V_aload_n (q := 13) dX11_go_12 rfl rfl rfl ?_
    refine V_getI (q := 16) fl_X11_316 rfl rfl rfl dX11_go_13 rfl ?_
    refine V_icmpge (q := 115) (q2 := 19) dX11_go_16 (by decide) rfl (fun hc1 => ?_) (fun hc1 => ?_)
    · have h := ifT hc1 h
      refine V_iconst (q := 116) dX11_go_115 rfl rfl ?_
      exact V_zret rfl (Or.inr rfl) h dX11_go_116
    · have h := ifF hc1 h
      refine V_aload_n (q := 20) dX11_go_19 rfl rfl rfl ?_
      refine V_iload_n (q := 21) dX11_go_20 rfl rfl rfl ?_
      refine V_iload (q := 23) dX11_go_21 rfl rfl ?_
      obtain ⟨v2, μ3, hc4, h⟩ := bd_i h
      refine V_cV1 (q := 26) (v := vI v2) (kX11_nth (d - 1) (by omega) hc4) (by omega) mv_X11_329 rfl rfl rfl rfl rfl rfl dX11_go_23 rfl ?_
      refine V_istore (q := 28) dX11_go_26 (Nat.le_of_ble_eq_true rfl) trivial rfl ?_
      refine V_aload_n (q := 29) dX11_go_28 rfl rfl rfl ?_
      refine V_getO (q := 32) (t := 89) fl_X11_71 rfl rfl rfl rfl dX11_go_29 rfl ?_
      refine V_bipush (q := 34) dX11_go_32 rfl rfl rfl ?_
      refine V_iload_n (q := 35) dX11_go_34 rfl rfl rfl ?_
      refine V_imul (q := 36) dX11_go_35 rfl ?_
      refine V_iload (q := 38) dX11_go_36 rfl rfl ?_
      refine V_iadd (q := 39) dX11_go_38 rfl ?_
      obtain ⟨hi6, h⟩ := ldA_i h
      refine V_iaload (q := 40) rfl hi6 dX11_go_39 rfl ?_
      refine V_iconst (q := 41) dX11_go_40 rfl rfl ?_
      refine V_icmpne (q := 46) (q2 := 44) dX11_go_41 (by decide) rfl (fun hc7 => ?_) (fun hc7 => ?_)
      · have h := ifF hc7 h
        refine V_aload_n (q := 47) dX11_go_46 rfl rfl rfl ?_
        refine V_getO (q := 50) (t := 91) fl_X11_77 rfl rfl rfl rfl dX11_go_47 rfl ?_
        refine V_iload (q := 52) dX11_go_50 rfl rfl ?_
        refine V_iload_n (q := 53) dX11_go_52 rfl rfl rfl ?_
        refine V_aload_n (q := 54) dX11_go_53 rfl rfl rfl ?_
        refine V_getO (q := 57) (t := 89) fl_X11_71 rfl rfl rfl rfl dX11_go_54 rfl ?_
        refine V_bipush (q := 59) dX11_go_57 rfl rfl rfl ?_
        refine V_iload_n (q := 60) dX11_go_59 rfl rfl rfl ?_
        refine V_imul (q := 61) dX11_go_60 rfl ?_
        refine V_iload (q := 63) dX11_go_61 rfl rfl ?_
        refine V_iadd (q := 64) dX11_go_63 rfl ?_
        obtain ⟨hi9, h⟩ := ldA_i h
        refine V_iaload (q := 65) rfl hi9 dX11_go_64 rfl ?_
        refine V_aload_n (q := 66) dX11_go_65 rfl rfl rfl ?_
        refine V_getI (q := 69) fl_X11_319 rfl rfl rfl dX11_go_66 rfl ?_
        refine V_imul (q := 70) dX11_go_69 rfl ?_
        refine V_iadd (q := 71) dX11_go_70 rfl ?_
        obtain ⟨hi11, h⟩ := stA_i h
        refine V_iastore (q := 72) rfl hi11 dX11_go_71 rfl ?_
        refine V_aload_n (q := 73) dX11_go_72 rfl rfl rfl ?_
        refine V_getO (q := 76) (t := 91) fl_X11_77 rfl rfl rfl rfl dX11_go_73 rfl ?_
        refine V_iload (q := 78) dX11_go_76 rfl rfl ?_
        obtain ⟨hi13, h⟩ := ldA_i h
        refine V_iaload (q := 79) rfl hi13 dX11_go_78 rfl ?_
        refine V_aload_n (q := 80) dX11_go_79 rfl rfl rfl ?_
        refine V_getO (q := 83) (t := 90) fl_X11_74 rfl rfl rfl rfl dX11_go_80 rfl ?_
        refine V_iload (q := 85) dX11_go_83 rfl rfl ?_
        obtain ⟨hi15, h⟩ := ldA_i h
        refine V_iaload (q := 86) rfl hi15 dX11_go_85 rfl ?_
        refine V_iadd (q := 87) dX11_go_86 rfl ?_
        refine V_aload_n (q := 88) dX11_go_87 rfl rfl rfl ?_
        refine V_getO (q := 91) (t := 88) fl_X11_68 rfl rfl rfl rfl dX11_go_88 rfl ?_
        refine V_iload (q := 93) dX11_go_91 rfl rfl ?_
        obtain ⟨hi17, h⟩ := ldA_i h
        refine V_iaload (q := 94) rfl hi17 dX11_go_93 rfl ?_
        refine V_mmax (q := 97) mx_X11_302 (by omega) rfl dX11_go_94 rfl ?_
        have h := lt_i h
        refine V_istore_n (q := 98) dX11_go_97 rfl (Nat.le_of_ble_eq_true rfl) trivial rfl ?_
        refine V_aload_n (q := 99) dX11_go_98 rfl rfl rfl ?_
        refine V_getO (q := 102) (t := 92) fl_X11_80 rfl rfl rfl rfl dX11_go_99 rfl ?_
        refine V_iload (q := 104) dX11_go_102 rfl rfl ?_
        refine V_iload_n (q := 105) dX11_go_104 rfl rfl rfl ?_
        obtain ⟨hi20, h⟩ := stA_i h
        refine V_iastore (q := 106) rfl hi20 dX11_go_105 rfl ?_
        refine V_iload (q := 108) dX11_go_106 rfl rfl ?_
        refine V_istore_n (q := 109) dX11_go_108 rfl (Nat.le_of_ble_eq_true rfl) trivial rfl ?_
        refine V_iinc (q := 112) dX11_go_109 rfl (Nat.le_of_ble_eq_true rfl) trivial rfl ?_
        refine V_goto (q := 10) dX11_go_112 (by decide) ?_
        exact V_weak (ih h) (sb_s rfl (sb_s rfl (sb_s rfl (sb_s rfl (sb_s rfl (sb_n sb_0))))))
      · have h := ifT hc7 h
        refine V_iconst (q := 45) dX11_go_44 rfl rfl ?_
        exact V_zret rfl (Or.inl rfl) h dX11_go_45
set_option maxHeartbeats 4000000 in
set_option maxRecDepth 100000 in
theorem kX11_go (d : Nat) (hd : 3 ≤ d) {l1 : Int} {μ : Mm} {r : Int} {μ' : Mm} (h : X11_go l1 μ = some (r, μ')) : CC d mX11_go [vR 70, vI l1] μ r μ' := by
  unfold X11_go at h
  refine V_enter (by decide) (Nat.le_of_ble_eq_true rfl) ?_
  show VV d mX11_go 0 [some (vR 70), some (vI l1), none, none, none, none] [] μ r μ'
  refine V_aload_n (q := 1) dX11_go_0 rfl rfl rfl ?_
  refine V_getI (q := 4) fl_X11_316 rfl rfl rfl dX11_go_1 rfl ?_
  refine V_istore_n (q := 5) dX11_go_4 rfl (Nat.le_of_ble_eq_true rfl) trivial rfl ?_
  refine V_iconst (q := 6) dX11_go_5 rfl rfl ?_
  refine V_istore_n (q := 7) dX11_go_6 rfl (Nat.le_of_ble_eq_true rfl) trivial rfl ?_
  refine V_iconst (q := 8) dX11_go_7 rfl rfl ?_
  refine V_istore (q := 10) dX11_go_8 (Nat.le_of_ble_eq_true rfl) trivial rfl ?_
  exact V_weak (kX11_go_L10 d hd  FU h) (sb_s rfl (sb_s rfl (sb_s rfl (sb_s rfl (sb_s rfl (sb_n sb_0))))))
abbrev mX11_late : Mth := (yX11_late, cX11_late, 2, some .int)
set_option maxRecDepth 100000 in
theorem mi_X11_late : Cond.instanceMethod yX11_late ∈ tG ∧ Cond.selects yX11_late.cls yX11_late yX11_late ∈ tG ∧ Cond.initialized yX11_late.cls ∈ tG ∧ Cond.code yX11_late cX11_late 2 (some .int) ∈ tG ∧ (yX11_late.cls ≠ "java/lang/invoke/MethodHandle" ∧ yX11_late.cls ≠ "java/lang/invoke/VarHandle" ∧ (parseMethodDescriptor yX11_late.desc).map (fun d => d.parameters.length) = some 1) ∧ 2 ≤ 60 := ⟨(tG_of (tb7 (List.mem_of_getElem? (i := 46) rfl)) (by decide +kernel)), (tG_of (List.mem_of_getElem? (i := 88) (by decide +kernel)) (by decide +kernel)), (tG_of (tb1 (List.mem_of_getElem? (i := 12) rfl)) (by decide +kernel)), (tG_of (tb7 (List.mem_of_getElem? (i := 47) rfl)) (by decide +kernel)), ⟨by decide, by decide, by decide +kernel⟩, by decide⟩
set_option maxRecDepth 100000 in
theorem mv_X11_332 : mV RX11 332 mX11_late 1 := ⟨(tG_of (tb7 (List.mem_of_getElem? (i := 44) rfl)) (by decide +kernel)), mi_X11_late⟩
theorem dX11_late_0 : decode cX11_late 0 = .ok (.iconst 0, 1) := dc_3 (byA eNcX11_late (p := 0) (v := 3) (by decide +kernel))
theorem dX11_late_1 : decode cX11_late 1 = .ok (.aload_n 0, 1) := dc_42 (byA eNcX11_late (p := 1) (v := 42) (by decide +kernel))
theorem dX11_late_2 : decode cX11_late 2 = .ok (.getfield 80, 3) := dc_180 (byA eNcX11_late (p := 2) (v := 180) (by decide +kernel)) (byA eNcX11_late (p := 3) (v := 0) (by decide +kernel)) (byA eNcX11_late (p := 4) (v := 80) (by decide +kernel)) rfl
theorem dX11_late_5 : decode cX11_late 5 = .ok (.iload_n 1, 1) := dc_27 (byA eNcX11_late (p := 5) (v := 27) (by decide +kernel))
theorem dX11_late_6 : decode cX11_late 6 = .ok (.iaload, 1) := dc_46 (byA eNcX11_late (p := 6) (v := 46) (by decide +kernel))
theorem dX11_late_7 : decode cX11_late 7 = .ok (.aload_n 0, 1) := dc_42 (byA eNcX11_late (p := 7) (v := 42) (by decide +kernel))
theorem dX11_late_8 : decode cX11_late 8 = .ok (.getfield 68, 3) := dc_180 (byA eNcX11_late (p := 8) (v := 180) (by decide +kernel)) (byA eNcX11_late (p := 9) (v := 0) (by decide +kernel)) (byA eNcX11_late (p := 10) (v := 68) (by decide +kernel)) rfl
theorem dX11_late_11 : decode cX11_late 11 = .ok (.iload_n 1, 1) := dc_27 (byA eNcX11_late (p := 11) (v := 27) (by decide +kernel))
theorem dX11_late_12 : decode cX11_late 12 = .ok (.iaload, 1) := dc_46 (byA eNcX11_late (p := 12) (v := 46) (by decide +kernel))
theorem dX11_late_13 : decode cX11_late 13 = .ok (.isub, 1) := dc_100 (byA eNcX11_late (p := 13) (v := 100) (by decide +kernel))
theorem dX11_late_14 : decode cX11_late 14 = .ok (.invokestatic 302, 3) := dc_184 (byA eNcX11_late (p := 14) (v := 184) (by decide +kernel)) (byA eNcX11_late (p := 15) (v := 1) (by decide +kernel)) (byA eNcX11_late (p := 16) (v := 46) (by decide +kernel)) rfl
theorem dX11_late_17 : decode cX11_late 17 = .ok (.ireturn, 1) := dc_172 (byA eNcX11_late (p := 17) (v := 172) (by decide +kernel))
def X11_late (l1 : Int) (μ : Mm) : Rs := ldA μ 92 l1 fun v1 => ldA μ 88 l1 fun v3 => some (mX 0 (iS v1 v3), μ)
set_option maxHeartbeats 4000000 in
set_option maxRecDepth 100000 in
theorem kX11_late (d : Nat) (hd : 1 ≤ d) {l1 : Int} {μ : Mm} {r : Int} {μ' : Mm} (h : X11_late l1 μ = some (r, μ')) : CC d mX11_late [vR 70, vI l1] μ r μ' := by
  unfold X11_late at h
  refine V_enter (by decide) (Nat.le_of_ble_eq_true rfl) ?_
  show VV d mX11_late 0 [some (vR 70), some (vI l1)] [] μ r μ'
  refine V_iconst (q := 1) dX11_late_0 rfl rfl ?_
  refine V_aload_n (q := 2) dX11_late_1 rfl rfl rfl ?_
  refine V_getO (q := 5) (t := 92) fl_X11_80 rfl rfl rfl rfl dX11_late_2 rfl ?_
  refine V_iload_n (q := 6) dX11_late_5 rfl rfl rfl ?_
  obtain ⟨hi2, h⟩ := ldA_i h
  refine V_iaload (q := 7) rfl hi2 dX11_late_6 rfl ?_
  refine V_aload_n (q := 8) dX11_late_7 rfl rfl rfl ?_
  refine V_getO (q := 11) (t := 88) fl_X11_68 rfl rfl rfl rfl dX11_late_8 rfl ?_
  refine V_iload_n (q := 12) dX11_late_11 rfl rfl rfl ?_
  obtain ⟨hi4, h⟩ := ldA_i h
  refine V_iaload (q := 13) rfl hi4 dX11_late_12 rfl ?_
  refine V_isub (q := 14) dX11_late_13 rfl ?_
  refine V_mmax (q := 17) mx_X11_302 (by omega) rfl dX11_late_14 rfl ?_
  exact V_iret rfl h dX11_late_17
abbrev mX11_tellOf : Mth := (yX11_tellOf, cX11_tellOf, 7, some .int)
set_option maxRecDepth 100000 in
theorem mi_X11_tellOf : Cond.instanceMethod yX11_tellOf ∈ tG ∧ Cond.selects yX11_tellOf.cls yX11_tellOf yX11_tellOf ∈ tG ∧ Cond.initialized yX11_tellOf.cls ∈ tG ∧ Cond.code yX11_tellOf cX11_tellOf 7 (some .int) ∈ tG ∧ (yX11_tellOf.cls ≠ "java/lang/invoke/MethodHandle" ∧ yX11_tellOf.cls ≠ "java/lang/invoke/VarHandle" ∧ (parseMethodDescriptor yX11_tellOf.desc).map (fun d => d.parameters.length) = some 2) ∧ 7 ≤ 60 := ⟨(tG_of (tb7 (List.mem_of_getElem? (i := 42) rfl)) (by decide +kernel)), (tG_of (List.mem_of_getElem? (i := 87) (by decide +kernel)) (by decide +kernel)), (tG_of (tb1 (List.mem_of_getElem? (i := 12) rfl)) (by decide +kernel)), (tG_of (tb7 (List.mem_of_getElem? (i := 43) rfl)) (by decide +kernel)), ⟨by decide, by decide, by decide +kernel⟩, by decide⟩
set_option maxRecDepth 100000 in
theorem mv_X11_344 : mV RX11 344 mX11_tellOf 2 := ⟨(tG_of (tb7 (List.mem_of_getElem? (i := 40) rfl)) (by decide +kernel)), mi_X11_tellOf⟩
theorem dX11_tellOf_0 : decode cX11_tellOf 0 = .ok (.iconst 0, 1) := dc_3 (byA eNcX11_tellOf (p := 0) (v := 3) (by decide +kernel))
theorem dX11_tellOf_1 : decode cX11_tellOf 1 = .ok (.istore_n 3, 1) := dc_62 (byA eNcX11_tellOf (p := 1) (v := 62) (by decide +kernel))
theorem dX11_tellOf_2 : decode cX11_tellOf 2 = .ok (.iconst 0, 1) := dc_3 (byA eNcX11_tellOf (p := 2) (v := 3) (by decide +kernel))
theorem dX11_tellOf_3 : decode cX11_tellOf 3 = .ok (.istore 4, 2) := dc_54 (byA eNcX11_tellOf (p := 3) (v := 54) (by decide +kernel)) (byA eNcX11_tellOf (p := 4) (v := 4) (by decide +kernel))
theorem dX11_tellOf_5 : decode cX11_tellOf 5 = .ok (.iconst 0, 1) := dc_3 (byA eNcX11_tellOf (p := 5) (v := 3) (by decide +kernel))
theorem dX11_tellOf_6 : decode cX11_tellOf 6 = .ok (.istore 5, 2) := dc_54 (byA eNcX11_tellOf (p := 6) (v := 54) (by decide +kernel)) (byA eNcX11_tellOf (p := 7) (v := 5) (by decide +kernel))
theorem dX11_tellOf_8 : decode cX11_tellOf 8 = .ok (.iconst 0, 1) := dc_3 (byA eNcX11_tellOf (p := 8) (v := 3) (by decide +kernel))
theorem dX11_tellOf_9 : decode cX11_tellOf 9 = .ok (.istore 6, 2) := dc_54 (byA eNcX11_tellOf (p := 9) (v := 54) (by decide +kernel)) (byA eNcX11_tellOf (p := 10) (v := 6) (by decide +kernel))
theorem dX11_tellOf_11 : decode cX11_tellOf 11 = .ok (.iload 6, 2) := dc_21 (byA eNcX11_tellOf (p := 11) (v := 21) (by decide +kernel)) (byA eNcX11_tellOf (p := 12) (v := 6) (by decide +kernel))
theorem dX11_tellOf_13 : decode cX11_tellOf 13 = .ok (.aload_n 0, 1) := dc_42 (byA eNcX11_tellOf (p := 13) (v := 42) (by decide +kernel))
theorem dX11_tellOf_14 : decode cX11_tellOf 14 = .ok (.getfield 316, 3) := dc_180 (byA eNcX11_tellOf (p := 14) (v := 180) (by decide +kernel)) (byA eNcX11_tellOf (p := 15) (v := 1) (by decide +kernel)) (byA eNcX11_tellOf (p := 16) (v := 60) (by decide +kernel)) rfl
theorem dX11_tellOf_17 : decode cX11_tellOf 17 = .ok (.if_icmp .ge 50, 3) := dc_162 (byA eNcX11_tellOf (p := 17) (v := 162) (by decide +kernel)) (byA eNcX11_tellOf (p := 18) (v := 0) (by decide +kernel)) (byA eNcX11_tellOf (p := 19) (v := 50) (by decide +kernel)) (by decide +kernel)
theorem dX11_tellOf_20 : decode cX11_tellOf 20 = .ok (.iload_n 3, 1) := dc_29 (byA eNcX11_tellOf (p := 20) (v := 29) (by decide +kernel))
theorem dX11_tellOf_21 : decode cX11_tellOf 21 = .ok (.aload_n 0, 1) := dc_42 (byA eNcX11_tellOf (p := 21) (v := 42) (by decide +kernel))
theorem dX11_tellOf_22 : decode cX11_tellOf 22 = .ok (.iload 6, 2) := dc_21 (byA eNcX11_tellOf (p := 22) (v := 21) (by decide +kernel)) (byA eNcX11_tellOf (p := 23) (v := 6) (by decide +kernel))
theorem dX11_tellOf_24 : decode cX11_tellOf 24 = .ok (.invokevirtual 332, 3) := dc_182 (byA eNcX11_tellOf (p := 24) (v := 182) (by decide +kernel)) (byA eNcX11_tellOf (p := 25) (v := 1) (by decide +kernel)) (byA eNcX11_tellOf (p := 26) (v := 76) (by decide +kernel)) rfl
theorem dX11_tellOf_27 : decode cX11_tellOf 27 = .ok (.iadd, 1) := dc_96 (byA eNcX11_tellOf (p := 27) (v := 96) (by decide +kernel))
theorem dX11_tellOf_28 : decode cX11_tellOf 28 = .ok (.istore_n 3, 1) := dc_62 (byA eNcX11_tellOf (p := 28) (v := 62) (by decide +kernel))
theorem dX11_tellOf_29 : decode cX11_tellOf 29 = .ok (.iload 4, 2) := dc_21 (byA eNcX11_tellOf (p := 29) (v := 21) (by decide +kernel)) (byA eNcX11_tellOf (p := 30) (v := 4) (by decide +kernel))
theorem dX11_tellOf_31 : decode cX11_tellOf 31 = .ok (.aload_n 0, 1) := dc_42 (byA eNcX11_tellOf (p := 31) (v := 42) (by decide +kernel))
theorem dX11_tellOf_32 : decode cX11_tellOf 32 = .ok (.iload 6, 2) := dc_21 (byA eNcX11_tellOf (p := 32) (v := 21) (by decide +kernel)) (byA eNcX11_tellOf (p := 33) (v := 6) (by decide +kernel))
theorem dX11_tellOf_34 : decode cX11_tellOf 34 = .ok (.invokevirtual 332, 3) := dc_182 (byA eNcX11_tellOf (p := 34) (v := 182) (by decide +kernel)) (byA eNcX11_tellOf (p := 35) (v := 1) (by decide +kernel)) (byA eNcX11_tellOf (p := 36) (v := 76) (by decide +kernel)) rfl
theorem dX11_tellOf_37 : decode cX11_tellOf 37 = .ok (.invokestatic 302, 3) := dc_184 (byA eNcX11_tellOf (p := 37) (v := 184) (by decide +kernel)) (byA eNcX11_tellOf (p := 38) (v := 1) (by decide +kernel)) (byA eNcX11_tellOf (p := 39) (v := 46) (by decide +kernel)) rfl
theorem dX11_tellOf_40 : decode cX11_tellOf 40 = .ok (.istore 4, 2) := dc_54 (byA eNcX11_tellOf (p := 40) (v := 54) (by decide +kernel)) (byA eNcX11_tellOf (p := 41) (v := 4) (by decide +kernel))
theorem dX11_tellOf_42 : decode cX11_tellOf 42 = .ok (.iload 5, 2) := dc_21 (byA eNcX11_tellOf (p := 42) (v := 21) (by decide +kernel)) (byA eNcX11_tellOf (p := 43) (v := 5) (by decide +kernel))
theorem dX11_tellOf_44 : decode cX11_tellOf 44 = .ok (.aload_n 0, 1) := dc_42 (byA eNcX11_tellOf (p := 44) (v := 42) (by decide +kernel))
theorem dX11_tellOf_45 : decode cX11_tellOf 45 = .ok (.iload 6, 2) := dc_21 (byA eNcX11_tellOf (p := 45) (v := 21) (by decide +kernel)) (byA eNcX11_tellOf (p := 46) (v := 6) (by decide +kernel))
theorem dX11_tellOf_47 : decode cX11_tellOf 47 = .ok (.invokevirtual 332, 3) := dc_182 (byA eNcX11_tellOf (p := 47) (v := 182) (by decide +kernel)) (byA eNcX11_tellOf (p := 48) (v := 1) (by decide +kernel)) (byA eNcX11_tellOf (p := 49) (v := 76) (by decide +kernel)) rfl
theorem dX11_tellOf_50 : decode cX11_tellOf 50 = .ok (.ifCond .le 7, 3) := dc_158 (byA eNcX11_tellOf (p := 50) (v := 158) (by decide +kernel)) (byA eNcX11_tellOf (p := 51) (v := 0) (by decide +kernel)) (byA eNcX11_tellOf (p := 52) (v := 7) (by decide +kernel)) (by decide +kernel)
theorem dX11_tellOf_53 : decode cX11_tellOf 53 = .ok (.iconst 1, 1) := dc_4 (byA eNcX11_tellOf (p := 53) (v := 4) (by decide +kernel))
theorem dX11_tellOf_54 : decode cX11_tellOf 54 = .ok (.goto 4, 3) := dc_167 (byA eNcX11_tellOf (p := 54) (v := 167) (by decide +kernel)) (byA eNcX11_tellOf (p := 55) (v := 0) (by decide +kernel)) (byA eNcX11_tellOf (p := 56) (v := 4) (by decide +kernel)) (by decide +kernel)
theorem dX11_tellOf_57 : decode cX11_tellOf 57 = .ok (.iconst 0, 1) := dc_3 (byA eNcX11_tellOf (p := 57) (v := 3) (by decide +kernel))
theorem dX11_tellOf_58 : decode cX11_tellOf 58 = .ok (.iadd, 1) := dc_96 (byA eNcX11_tellOf (p := 58) (v := 96) (by decide +kernel))
theorem dX11_tellOf_59 : decode cX11_tellOf 59 = .ok (.istore 5, 2) := dc_54 (byA eNcX11_tellOf (p := 59) (v := 54) (by decide +kernel)) (byA eNcX11_tellOf (p := 60) (v := 5) (by decide +kernel))
theorem dX11_tellOf_61 : decode cX11_tellOf 61 = .ok (.iinc 6 1, 3) := dc_132 (byA eNcX11_tellOf (p := 61) (v := 132) (by decide +kernel)) (byA eNcX11_tellOf (p := 62) (v := 6) (by decide +kernel)) (byA eNcX11_tellOf (p := 63) (v := 1) (by decide +kernel)) (by decide +kernel)
theorem dX11_tellOf_64 : decode cX11_tellOf 64 = .ok (.goto (-53), 3) := dc_167 (byA eNcX11_tellOf (p := 64) (v := 167) (by decide +kernel)) (byA eNcX11_tellOf (p := 65) (v := 255) (by decide +kernel)) (byA eNcX11_tellOf (p := 66) (v := 203) (by decide +kernel)) (by decide +kernel)
theorem dX11_tellOf_67 : decode cX11_tellOf 67 = .ok (.iload_n 2, 1) := dc_28 (byA eNcX11_tellOf (p := 67) (v := 28) (by decide +kernel))
theorem dX11_tellOf_68 : decode cX11_tellOf 68 = .ok (.ifCond .ne 7, 3) := dc_154 (byA eNcX11_tellOf (p := 68) (v := 154) (by decide +kernel)) (byA eNcX11_tellOf (p := 69) (v := 0) (by decide +kernel)) (byA eNcX11_tellOf (p := 70) (v := 7) (by decide +kernel)) (by decide +kernel)
theorem dX11_tellOf_71 : decode cX11_tellOf 71 = .ok (.iload_n 3, 1) := dc_29 (byA eNcX11_tellOf (p := 71) (v := 29) (by decide +kernel))
theorem dX11_tellOf_72 : decode cX11_tellOf 72 = .ok (.goto 32, 3) := dc_167 (byA eNcX11_tellOf (p := 72) (v := 167) (by decide +kernel)) (byA eNcX11_tellOf (p := 73) (v := 0) (by decide +kernel)) (byA eNcX11_tellOf (p := 74) (v := 32) (by decide +kernel)) (by decide +kernel)
theorem dX11_tellOf_75 : decode cX11_tellOf 75 = .ok (.iload_n 2, 1) := dc_28 (byA eNcX11_tellOf (p := 75) (v := 28) (by decide +kernel))
theorem dX11_tellOf_76 : decode cX11_tellOf 76 = .ok (.iconst 1, 1) := dc_4 (byA eNcX11_tellOf (p := 76) (v := 4) (by decide +kernel))
theorem dX11_tellOf_77 : decode cX11_tellOf 77 = .ok (.if_icmp .ne 8, 3) := dc_160 (byA eNcX11_tellOf (p := 77) (v := 160) (by decide +kernel)) (byA eNcX11_tellOf (p := 78) (v := 0) (by decide +kernel)) (byA eNcX11_tellOf (p := 79) (v := 8) (by decide +kernel)) (by decide +kernel)
theorem dX11_tellOf_80 : decode cX11_tellOf 80 = .ok (.iload 4, 2) := dc_21 (byA eNcX11_tellOf (p := 80) (v := 21) (by decide +kernel)) (byA eNcX11_tellOf (p := 81) (v := 4) (by decide +kernel))
theorem dX11_tellOf_82 : decode cX11_tellOf 82 = .ok (.goto 22, 3) := dc_167 (byA eNcX11_tellOf (p := 82) (v := 167) (by decide +kernel)) (byA eNcX11_tellOf (p := 83) (v := 0) (by decide +kernel)) (byA eNcX11_tellOf (p := 84) (v := 22) (by decide +kernel)) (by decide +kernel)
theorem dX11_tellOf_85 : decode cX11_tellOf 85 = .ok (.iload_n 2, 1) := dc_28 (byA eNcX11_tellOf (p := 85) (v := 28) (by decide +kernel))
theorem dX11_tellOf_86 : decode cX11_tellOf 86 = .ok (.iconst 2, 1) := dc_5 (byA eNcX11_tellOf (p := 86) (v := 5) (by decide +kernel))
theorem dX11_tellOf_87 : decode cX11_tellOf 87 = .ok (.if_icmp .ne 8, 3) := dc_160 (byA eNcX11_tellOf (p := 87) (v := 160) (by decide +kernel)) (byA eNcX11_tellOf (p := 88) (v := 0) (by decide +kernel)) (byA eNcX11_tellOf (p := 89) (v := 8) (by decide +kernel)) (by decide +kernel)
theorem dX11_tellOf_90 : decode cX11_tellOf 90 = .ok (.iload 5, 2) := dc_21 (byA eNcX11_tellOf (p := 90) (v := 21) (by decide +kernel)) (byA eNcX11_tellOf (p := 91) (v := 5) (by decide +kernel))
theorem dX11_tellOf_92 : decode cX11_tellOf 92 = .ok (.goto 12, 3) := dc_167 (byA eNcX11_tellOf (p := 92) (v := 167) (by decide +kernel)) (byA eNcX11_tellOf (p := 93) (v := 0) (by decide +kernel)) (byA eNcX11_tellOf (p := 94) (v := 12) (by decide +kernel)) (by decide +kernel)
theorem dX11_tellOf_95 : decode cX11_tellOf 95 = .ok (.aload_n 0, 1) := dc_42 (byA eNcX11_tellOf (p := 95) (v := 42) (by decide +kernel))
theorem dX11_tellOf_96 : decode cX11_tellOf 96 = .ok (.getfield 80, 3) := dc_180 (byA eNcX11_tellOf (p := 96) (v := 180) (by decide +kernel)) (byA eNcX11_tellOf (p := 97) (v := 0) (by decide +kernel)) (byA eNcX11_tellOf (p := 98) (v := 80) (by decide +kernel)) rfl
theorem dX11_tellOf_99 : decode cX11_tellOf 99 = .ok (.iload_n 1, 1) := dc_27 (byA eNcX11_tellOf (p := 99) (v := 27) (by decide +kernel))
theorem dX11_tellOf_100 : decode cX11_tellOf 100 = .ok (.bipush 10, 2) := dc_16 (byA eNcX11_tellOf (p := 100) (v := 16) (by decide +kernel)) (byA eNcX11_tellOf (p := 101) (v := 10) (by decide +kernel)) (by decide +kernel)
theorem dX11_tellOf_102 : decode cX11_tellOf 102 = .ok (.irem, 1) := dc_112 (byA eNcX11_tellOf (p := 102) (v := 112) (by decide +kernel))
theorem dX11_tellOf_103 : decode cX11_tellOf 103 = .ok (.iaload, 1) := dc_46 (byA eNcX11_tellOf (p := 103) (v := 46) (by decide +kernel))
theorem dX11_tellOf_104 : decode cX11_tellOf 104 = .ok (.ireturn, 1) := dc_172 (byA eNcX11_tellOf (p := 104) (v := 172) (by decide +kernel))
def X11_tellOf_L11 (l1 : Int) (l2 : Int) (k67 : Int → Int → Int → Mm → Rs) : Nat → Int → Int → Int → Int → Mm → Rs
  | 0, _, _, _, _, _ => none
  | n + 1, l3, l4, l5, l6, μ => if (μ 70 37) ≤ l6 then (k67 l3 l4 l5 μ) else (bd (X11_late l6 μ) fun v2 μ3 => bd (X11_late l6 μ3) fun v5 μ6 => bd (X11_late l6 μ6) fun v8 μ9 => if v8 ≤ 0 then (X11_tellOf_L11 l1 l2 k67 n (iA l3 v2) (mX l4 v5) (iA l5 0) (iA l6 1) μ9) else (X11_tellOf_L11 l1 l2 k67 n (iA l3 v2) (mX l4 v5) (iA l5 1) (iA l6 1) μ9))
def X11_tellOf (l1 : Int) (l2 : Int) (μ : Mm) : Rs := X11_tellOf_L11 l1 l2 (fun v12 v13 v14 μ15 => if l2 = 0 then (some (v12, μ15)) else (if l2 = 1 then (some (v13, μ15)) else (if l2 = 2 then (some (v14, μ15)) else (ldA μ15 92 (iR l1 10) fun v19 => some (v19, μ15))))) FU 0 0 0 0 μ
set_option maxHeartbeats 4000000 in
set_option maxRecDepth 100000 in
theorem kX11_tellOf_L11 (d : Nat) (hd : 2 ≤ d) {l1 : Int} {l2 : Int} {k67 : Int → Int → Int → Mm → Rs} {r : Int} {μ' : Mm} (hk_67 : ∀ (v3 v4 v5 : Int) (μ1 : Mm), k67 v3 v4 v5 μ1 = some (r, μ') → VV d mX11_tellOf 67 [some (vR 70), some (vI l1), some (vI l2), some (vI v3), some (vI v4), some (vI v5), none] [] μ1 r μ') : ∀ (n : Nat) {l3 l4 l5 l6 : Int} {μ : Mm}, X11_tellOf_L11 l1 l2 k67 n l3 l4 l5 l6 μ = some (r, μ') → VV d mX11_tellOf 11 [some (vR 70), some (vI l1), some (vI l2), some (vI l3), some (vI l4), some (vI l5), some (vI l6)] [] μ r μ' := by
  intro n
  induction n with
  | zero => intro l3 l4 l5 l6 μ h; rw [X11_tellOf_L11] at h; cases h
  | succ n ih =>
    intro l3 l4 l5 l6 μ h
    rw [X11_tellOf_L11] at h
    refine V_iload (q := 13) dX11_tellOf_11 rfl rfl ?_
    refine V_aload_n (q := 14) dX11_tellOf_13 rfl rfl rfl ?_
    refine V_getI (q := 17) fl_X11_316 rfl rfl rfl dX11_tellOf_14 rfl ?_
    refine V_icmpge (q := 67) (q2 := 20) dX11_tellOf_17 (by decide) rfl (fun hc1 => ?_) (fun hc1 => ?_)
    · have h := ifT hc1 h
      exact V_weak (hk_67 _ _ _ _ h) (sb_s rfl (sb_s rfl (sb_s rfl (sb_s rfl (sb_s rfl (sb_s rfl (sb_n sb_0)))))))
    · have h := ifF hc1 h
      refine V_iload_n (q := 21) dX11_tellOf_20 rfl rfl rfl ?_
      refine V_aload_n (q := 22) dX11_tellOf_21 rfl rfl rfl ?_
      refine V_iload (q := 24) dX11_tellOf_22 rfl rfl ?_
      obtain ⟨v2, μ3, hc4, h⟩ := bd_i h
      refine V_cV1 (q := 27) (v := vI v2) (kX11_late (d - 1) (by omega) hc4) (by omega) mv_X11_332 rfl rfl rfl rfl rfl rfl dX11_tellOf_24 rfl ?_
      refine V_iadd (q := 28) dX11_tellOf_27 rfl ?_
      refine V_istore_n (q := 29) dX11_tellOf_28 rfl (Nat.le_of_ble_eq_true rfl) trivial rfl ?_
      refine V_iload (q := 31) dX11_tellOf_29 rfl rfl ?_
      refine V_aload_n (q := 32) dX11_tellOf_31 rfl rfl rfl ?_
      refine V_iload (q := 34) dX11_tellOf_32 rfl rfl ?_
      obtain ⟨v5, μ6, hc7, h⟩ := bd_i h
      refine V_cV1 (q := 37) (v := vI v5) (kX11_late (d - 1) (by omega) hc7) (by omega) mv_X11_332 rfl rfl rfl rfl rfl rfl dX11_tellOf_34 rfl ?_
      refine V_mmax (q := 40) mx_X11_302 (by omega) rfl dX11_tellOf_37 rfl ?_
      refine V_istore (q := 42) dX11_tellOf_40 (Nat.le_of_ble_eq_true rfl) trivial rfl ?_
      refine V_iload (q := 44) dX11_tellOf_42 rfl rfl ?_
      refine V_aload_n (q := 45) dX11_tellOf_44 rfl rfl rfl ?_
      refine V_iload (q := 47) dX11_tellOf_45 rfl rfl ?_
      obtain ⟨v8, μ9, hc10, h⟩ := bd_i h
      refine V_cV1 (q := 50) (v := vI v8) (kX11_late (d - 1) (by omega) hc10) (by omega) mv_X11_332 rfl rfl rfl rfl rfl rfl dX11_tellOf_47 rfl ?_
      refine V_ifle (q := 57) (q2 := 53) dX11_tellOf_50 (by decide) rfl (fun hc11 => ?_) (fun hc11 => ?_)
      · have h := ifT hc11 h
        refine V_iconst (q := 58) dX11_tellOf_57 rfl rfl ?_
        refine V_iadd (q := 59) dX11_tellOf_58 rfl ?_
        refine V_istore (q := 61) dX11_tellOf_59 (Nat.le_of_ble_eq_true rfl) trivial rfl ?_
        refine V_iinc (q := 64) dX11_tellOf_61 rfl (Nat.le_of_ble_eq_true rfl) trivial rfl ?_
        refine V_goto (q := 11) dX11_tellOf_64 (by decide) ?_
        exact V_weak (ih h) (sb_s rfl (sb_s rfl (sb_s rfl (sb_s rfl (sb_s rfl (sb_s rfl (sb_s rfl sb_0)))))))
      · have h := ifF hc11 h
        refine V_iconst (q := 54) dX11_tellOf_53 rfl rfl ?_
        refine V_goto (q := 58) dX11_tellOf_54 (by decide) ?_
        refine V_iadd (q := 59) dX11_tellOf_58 rfl ?_
        refine V_istore (q := 61) dX11_tellOf_59 (Nat.le_of_ble_eq_true rfl) trivial rfl ?_
        refine V_iinc (q := 64) dX11_tellOf_61 rfl (Nat.le_of_ble_eq_true rfl) trivial rfl ?_
        refine V_goto (q := 11) dX11_tellOf_64 (by decide) ?_
        exact V_weak (ih h) (sb_s rfl (sb_s rfl (sb_s rfl (sb_s rfl (sb_s rfl (sb_s rfl (sb_s rfl sb_0)))))))
set_option maxHeartbeats 4000000 in
set_option maxRecDepth 100000 in
theorem kX11_tellOf (d : Nat) (hd : 2 ≤ d) {l1 : Int} {l2 : Int} {μ : Mm} {r : Int} {μ' : Mm} (h : X11_tellOf l1 l2 μ = some (r, μ')) : CC d mX11_tellOf [vR 70, vI l1, vI l2] μ r μ' := by
  unfold X11_tellOf at h
  refine V_enter (by decide) (Nat.le_of_ble_eq_true rfl) ?_
  show VV d mX11_tellOf 0 [some (vR 70), some (vI l1), some (vI l2), none, none, none, none] [] μ r μ'
  refine V_iconst (q := 1) dX11_tellOf_0 rfl rfl ?_
  refine V_istore_n (q := 2) dX11_tellOf_1 rfl (Nat.le_of_ble_eq_true rfl) trivial rfl ?_
  refine V_iconst (q := 3) dX11_tellOf_2 rfl rfl ?_
  refine V_istore (q := 5) dX11_tellOf_3 (Nat.le_of_ble_eq_true rfl) trivial rfl ?_
  refine V_iconst (q := 6) dX11_tellOf_5 rfl rfl ?_
  refine V_istore (q := 8) dX11_tellOf_6 (Nat.le_of_ble_eq_true rfl) trivial rfl ?_
  refine V_iconst (q := 9) dX11_tellOf_8 rfl rfl ?_
  refine V_istore (q := 11) dX11_tellOf_9 (Nat.le_of_ble_eq_true rfl) trivial rfl ?_
  refine V_weak (kX11_tellOf_L11 d hd (fun v12 v13 v14 μ15 h => ?_) FU h) (sb_s rfl (sb_s rfl (sb_s rfl (sb_s rfl (sb_s rfl (sb_s rfl (sb_s rfl sb_0)))))))
  refine V_iload_n (q := 68) dX11_tellOf_67 rfl rfl rfl ?_
  refine V_ifne (q := 75) (q2 := 71) dX11_tellOf_68 (by decide) rfl (fun hc16 => ?_) (fun hc16 => ?_)
  · have h := ifF hc16 h
    refine V_iload_n (q := 76) dX11_tellOf_75 rfl rfl rfl ?_
    refine V_iconst (q := 77) dX11_tellOf_76 rfl rfl ?_
    refine V_icmpne (q := 85) (q2 := 80) dX11_tellOf_77 (by decide) rfl (fun hc17 => ?_) (fun hc17 => ?_)
    · have h := ifF hc17 h
      refine V_iload_n (q := 86) dX11_tellOf_85 rfl rfl rfl ?_
      refine V_iconst (q := 87) dX11_tellOf_86 rfl rfl ?_
      refine V_icmpne (q := 95) (q2 := 90) dX11_tellOf_87 (by decide) rfl (fun hc18 => ?_) (fun hc18 => ?_)
      · have h := ifF hc18 h
        refine V_aload_n (q := 96) dX11_tellOf_95 rfl rfl rfl ?_
        refine V_getO (q := 99) (t := 92) fl_X11_80 rfl rfl rfl rfl dX11_tellOf_96 rfl ?_
        refine V_iload_n (q := 100) dX11_tellOf_99 rfl rfl rfl ?_
        refine V_bipush (q := 102) dX11_tellOf_100 rfl rfl rfl ?_
        refine V_irem (q := 103) dX11_tellOf_102 (by decide) rfl ?_
        obtain ⟨hi20, h⟩ := ldA_i h
        refine V_iaload (q := 104) rfl hi20 dX11_tellOf_103 rfl ?_
        exact V_iret rfl h dX11_tellOf_104
      · have h := ifT hc18 h
        refine V_iload (q := 92) dX11_tellOf_90 rfl rfl ?_
        refine V_goto (q := 104) dX11_tellOf_92 (by decide) ?_
        exact V_iret rfl h dX11_tellOf_104
    · have h := ifT hc17 h
      refine V_iload (q := 82) dX11_tellOf_80 rfl rfl ?_
      refine V_goto (q := 104) dX11_tellOf_82 (by decide) ?_
      exact V_iret rfl h dX11_tellOf_104
  · have h := ifT hc16 h
    refine V_iload_n (q := 72) dX11_tellOf_71 rfl rfl rfl ?_
    refine V_goto (q := 104) dX11_tellOf_72 (by decide) ?_
    exact V_iret rfl h dX11_tellOf_104
abbrev mX11_order : Mth := (yX11_order, cX11_order, 4, some .int)
set_option maxRecDepth 100000 in
theorem mi_X11_order : Cond.instanceMethod yX11_order ∈ tG ∧ Cond.selects yX11_order.cls yX11_order yX11_order ∈ tG ∧ Cond.initialized yX11_order.cls ∈ tG ∧ Cond.code yX11_order cX11_order 4 (some .int) ∈ tG ∧ (yX11_order.cls ≠ "java/lang/invoke/MethodHandle" ∧ yX11_order.cls ≠ "java/lang/invoke/VarHandle" ∧ (parseMethodDescriptor yX11_order.desc).map (fun d => d.parameters.length) = some 3) ∧ 4 ≤ 60 := ⟨(tG_of (tb7 (List.mem_of_getElem? (i := 14) rfl)) (by decide +kernel)), (tG_of (tb7 (List.mem_of_getElem? (i := 15) rfl)) (by decide +kernel)), (tG_of (tb1 (List.mem_of_getElem? (i := 12) rfl)) (by decide +kernel)), (tG_of (tb7 (List.mem_of_getElem? (i := 16) rfl)) (by decide +kernel)), ⟨by decide, by decide, by decide +kernel⟩, by decide⟩
theorem dX11_order_0 : decode cX11_order 0 = .ok (.aload_n 0, 1) := dc_42 (byA eNcX11_order (p := 0) (v := 42) (by decide +kernel))
theorem dX11_order_1 : decode cX11_order 1 = .ok (.iload_n 1, 1) := dc_27 (byA eNcX11_order (p := 1) (v := 27) (by decide +kernel))
theorem dX11_order_2 : decode cX11_order 2 = .ok (.invokevirtual 335, 3) := dc_182 (byA eNcX11_order (p := 2) (v := 182) (by decide +kernel)) (byA eNcX11_order (p := 3) (v := 1) (by decide +kernel)) (byA eNcX11_order (p := 4) (v := 79) (by decide +kernel)) rfl
theorem dX11_order_5 : decode cX11_order 5 = .ok (.ifCond .eq 37, 3) := dc_153 (byA eNcX11_order (p := 5) (v := 153) (by decide +kernel)) (byA eNcX11_order (p := 6) (v := 0) (by decide +kernel)) (byA eNcX11_order (p := 7) (v := 37) (by decide +kernel)) (by decide +kernel)
theorem dX11_order_8 : decode cX11_order 8 = .ok (.aload_n 0, 1) := dc_42 (byA eNcX11_order (p := 8) (v := 42) (by decide +kernel))
theorem dX11_order_9 : decode cX11_order 9 = .ok (.iload_n 2, 1) := dc_28 (byA eNcX11_order (p := 9) (v := 28) (by decide +kernel))
theorem dX11_order_10 : decode cX11_order 10 = .ok (.invokevirtual 338, 3) := dc_182 (byA eNcX11_order (p := 10) (v := 182) (by decide +kernel)) (byA eNcX11_order (p := 11) (v := 1) (by decide +kernel)) (byA eNcX11_order (p := 12) (v := 82) (by decide +kernel)) rfl
theorem dX11_order_13 : decode cX11_order 13 = .ok (.ifCond .eq 29, 3) := dc_153 (byA eNcX11_order (p := 13) (v := 153) (by decide +kernel)) (byA eNcX11_order (p := 14) (v := 0) (by decide +kernel)) (byA eNcX11_order (p := 15) (v := 29) (by decide +kernel)) (by decide +kernel)
theorem dX11_order_16 : decode cX11_order 16 = .ok (.iload_n 3, 1) := dc_29 (byA eNcX11_order (p := 16) (v := 29) (by decide +kernel))
theorem dX11_order_17 : decode cX11_order 17 = .ok (.iconst 0, 1) := dc_3 (byA eNcX11_order (p := 17) (v := 3) (by decide +kernel))
theorem dX11_order_18 : decode cX11_order 18 = .ok (.iconst 3, 1) := dc_6 (byA eNcX11_order (p := 18) (v := 6) (by decide +kernel))
theorem dX11_order_19 : decode cX11_order 19 = .ok (.invokestatic 213, 3) := dc_184 (byA eNcX11_order (p := 19) (v := 184) (by decide +kernel)) (byA eNcX11_order (p := 20) (v := 0) (by decide +kernel)) (byA eNcX11_order (p := 21) (v := 213) (by decide +kernel)) rfl
theorem dX11_order_22 : decode cX11_order 22 = .ok (.ifCond .eq 20, 3) := dc_153 (byA eNcX11_order (p := 22) (v := 153) (by decide +kernel)) (byA eNcX11_order (p := 23) (v := 0) (by decide +kernel)) (byA eNcX11_order (p := 24) (v := 20) (by decide +kernel)) (by decide +kernel)
theorem dX11_order_25 : decode cX11_order 25 = .ok (.aload_n 0, 1) := dc_42 (byA eNcX11_order (p := 25) (v := 42) (by decide +kernel))
theorem dX11_order_26 : decode cX11_order 26 = .ok (.iload_n 2, 1) := dc_28 (byA eNcX11_order (p := 26) (v := 28) (by decide +kernel))
theorem dX11_order_27 : decode cX11_order 27 = .ok (.invokevirtual 341, 3) := dc_182 (byA eNcX11_order (p := 27) (v := 182) (by decide +kernel)) (byA eNcX11_order (p := 28) (v := 1) (by decide +kernel)) (byA eNcX11_order (p := 29) (v := 85) (by decide +kernel)) rfl
theorem dX11_order_30 : decode cX11_order 30 = .ok (.ifCond .eq 12, 3) := dc_153 (byA eNcX11_order (p := 30) (v := 153) (by decide +kernel)) (byA eNcX11_order (p := 31) (v := 0) (by decide +kernel)) (byA eNcX11_order (p := 32) (v := 12) (by decide +kernel)) (by decide +kernel)
theorem dX11_order_33 : decode cX11_order 33 = .ok (.aload_n 0, 1) := dc_42 (byA eNcX11_order (p := 33) (v := 42) (by decide +kernel))
theorem dX11_order_34 : decode cX11_order 34 = .ok (.iload_n 2, 1) := dc_28 (byA eNcX11_order (p := 34) (v := 28) (by decide +kernel))
theorem dX11_order_35 : decode cX11_order 35 = .ok (.iload_n 3, 1) := dc_29 (byA eNcX11_order (p := 35) (v := 29) (by decide +kernel))
theorem dX11_order_36 : decode cX11_order 36 = .ok (.invokevirtual 344, 3) := dc_182 (byA eNcX11_order (p := 36) (v := 182) (by decide +kernel)) (byA eNcX11_order (p := 37) (v := 1) (by decide +kernel)) (byA eNcX11_order (p := 38) (v := 88) (by decide +kernel)) rfl
theorem dX11_order_39 : decode cX11_order 39 = .ok (.goto 4, 3) := dc_167 (byA eNcX11_order (p := 39) (v := 167) (by decide +kernel)) (byA eNcX11_order (p := 40) (v := 0) (by decide +kernel)) (byA eNcX11_order (p := 41) (v := 4) (by decide +kernel)) (by decide +kernel)
theorem dX11_order_42 : decode cX11_order 42 = .ok (.iconst (-1), 1) := dc_2 (byA eNcX11_order (p := 42) (v := 2) (by decide +kernel))
theorem dX11_order_43 : decode cX11_order 43 = .ok (.ireturn, 1) := dc_172 (byA eNcX11_order (p := 43) (v := 172) (by decide +kernel))
def X11_order (l1 : Int) (l2 : Int) (l3 : Int) (μ : Mm) : Rs := bd (X11_isReady l1 μ) fun v1 μ2 => if v1 = 0 then (some ((-1), μ2)) else (bd (X11_isOrder l2 μ2) fun v5 μ6 => if v5 = 0 then (some ((-1), μ6)) else (bd (X11_in l3 0 3 μ6) fun v9 μ10 => if v9 = 0 then (some ((-1), μ10)) else (bd (X11_go l2 μ10) fun v13 μ14 => if v13 = 0 then (some ((-1), μ14)) else (bd (X11_tellOf l2 l3 μ14) fun v17 μ18 => some (v17, μ18)))))
set_option maxHeartbeats 4000000 in
set_option maxRecDepth 100000 in
theorem kX11_order (d : Nat) (hd : 7 ≤ d) {l1 : Int} {l2 : Int} {l3 : Int} {μ : Mm} {r : Int} {μ' : Mm} (h : X11_order l1 l2 l3 μ = some (r, μ')) : CC d mX11_order [vR 70, vI l1, vI l2, vI l3] μ r μ' := by
  unfold X11_order at h
  refine V_enter (by decide) (Nat.le_of_ble_eq_true rfl) ?_
  show VV d mX11_order 0 [some (vR 70), some (vI l1), some (vI l2), some (vI l3)] [] μ r μ'
  refine V_aload_n (q := 1) dX11_order_0 rfl rfl rfl ?_
  refine V_iload_n (q := 2) dX11_order_1 rfl rfl rfl ?_
  obtain ⟨v1, μ2, hc3, h⟩ := bd_i h
  refine V_cV1 (q := 5) (v := vI v1) (kX11_isReady (d - 1) (by omega) hc3) (by omega) mv_X11_335 rfl rfl rfl rfl rfl rfl dX11_order_2 rfl ?_
  refine V_ifeq (q := 42) (q2 := 8) dX11_order_5 (by decide) rfl (fun hc4 => ?_) (fun hc4 => ?_)
  · have h := ifT hc4 h
    refine V_iconst (q := 43) dX11_order_42 rfl rfl ?_
    exact V_iret rfl h dX11_order_43
  · have h := ifF hc4 h
    refine V_aload_n (q := 9) dX11_order_8 rfl rfl rfl ?_
    refine V_iload_n (q := 10) dX11_order_9 rfl rfl rfl ?_
    obtain ⟨v5, μ6, hc7, h⟩ := bd_i h
    refine V_cV1 (q := 13) (v := vI v5) (kX11_isOrder (d - 1) (by omega) hc7) (by omega) mv_X11_338 rfl rfl rfl rfl rfl rfl dX11_order_10 rfl ?_
    refine V_ifeq (q := 42) (q2 := 16) dX11_order_13 (by decide) rfl (fun hc8 => ?_) (fun hc8 => ?_)
    · have h := ifT hc8 h
      refine V_iconst (q := 43) dX11_order_42 rfl rfl ?_
      exact V_iret rfl h dX11_order_43
    · have h := ifF hc8 h
      refine V_iload_n (q := 17) dX11_order_16 rfl rfl rfl ?_
      refine V_iconst (q := 18) dX11_order_17 rfl rfl ?_
      refine V_iconst (q := 19) dX11_order_18 rfl rfl ?_
      obtain ⟨v9, μ10, hc11, h⟩ := bd_i h
      refine V_cS1 (q := 22) (v := vI v9) (kX11_in (d - 1) (by omega) hc11) (by omega) mv_X11_213 rfl rfl rfl rfl dX11_order_19 rfl ?_
      refine V_ifeq (q := 42) (q2 := 25) dX11_order_22 (by decide) rfl (fun hc12 => ?_) (fun hc12 => ?_)
      · have h := ifT hc12 h
        refine V_iconst (q := 43) dX11_order_42 rfl rfl ?_
        exact V_iret rfl h dX11_order_43
      · have h := ifF hc12 h
        refine V_aload_n (q := 26) dX11_order_25 rfl rfl rfl ?_
        refine V_iload_n (q := 27) dX11_order_26 rfl rfl rfl ?_
        obtain ⟨v13, μ14, hc15, h⟩ := bd_i h
        refine V_cV1 (q := 30) (v := vI v13) (kX11_go (d - 1) (by omega) hc15) (by omega) mv_X11_341 rfl rfl rfl rfl rfl rfl dX11_order_27 rfl ?_
        refine V_ifeq (q := 42) (q2 := 33) dX11_order_30 (by decide) rfl (fun hc16 => ?_) (fun hc16 => ?_)
        · have h := ifT hc16 h
          refine V_iconst (q := 43) dX11_order_42 rfl rfl ?_
          exact V_iret rfl h dX11_order_43
        · have h := ifF hc16 h
          refine V_aload_n (q := 34) dX11_order_33 rfl rfl rfl ?_
          refine V_iload_n (q := 35) dX11_order_34 rfl rfl rfl ?_
          refine V_iload_n (q := 36) dX11_order_35 rfl rfl rfl ?_
          obtain ⟨v17, μ18, hc19, h⟩ := bd_i h
          refine V_cV1 (q := 39) (v := vI v17) (kX11_tellOf (d - 1) (by omega) hc19) (by omega) mv_X11_344 rfl rfl rfl rfl rfl rfl dX11_order_36 rfl ?_
          refine V_goto (q := 43) dX11_order_39 (by decide) ?_
          exact V_iret rfl h dX11_order_43
abbrev mX11_done : Mth := (yX11_done, cX11_done, 5, some .int)
set_option maxRecDepth 100000 in
theorem mi_X11_done : Cond.instanceMethod yX11_done ∈ tG ∧ Cond.selects yX11_done.cls yX11_done yX11_done ∈ tG ∧ Cond.initialized yX11_done.cls ∈ tG ∧ Cond.code yX11_done cX11_done 5 (some .int) ∈ tG ∧ (yX11_done.cls ≠ "java/lang/invoke/MethodHandle" ∧ yX11_done.cls ≠ "java/lang/invoke/VarHandle" ∧ (parseMethodDescriptor yX11_done.desc).map (fun d => d.parameters.length) = some 4) ∧ 5 ≤ 60 := ⟨(tG_of (tb7 (List.mem_of_getElem? (i := 49) rfl)) (by decide +kernel)), (tG_of (tb7 (List.mem_of_getElem? (i := 50) rfl)) (by decide +kernel)), (tG_of (tb1 (List.mem_of_getElem? (i := 12) rfl)) (by decide +kernel)), (tG_of (tb7 (List.mem_of_getElem? (i := 51) rfl)) (by decide +kernel)), ⟨by decide, by decide, by decide +kernel⟩, by decide⟩
theorem dX11_done_0 : decode cX11_done 0 = .ok (.aload_n 0, 1) := dc_42 (byA eNcX11_done (p := 0) (v := 42) (by decide +kernel))
theorem dX11_done_1 : decode cX11_done 1 = .ok (.iload_n 1, 1) := dc_27 (byA eNcX11_done (p := 1) (v := 27) (by decide +kernel))
theorem dX11_done_2 : decode cX11_done 2 = .ok (.invokevirtual 335, 3) := dc_182 (byA eNcX11_done (p := 2) (v := 182) (by decide +kernel)) (byA eNcX11_done (p := 3) (v := 1) (by decide +kernel)) (byA eNcX11_done (p := 4) (v := 79) (by decide +kernel)) rfl
theorem dX11_done_5 : decode cX11_done 5 = .ok (.ifCond .eq 43, 3) := dc_153 (byA eNcX11_done (p := 5) (v := 153) (by decide +kernel)) (byA eNcX11_done (p := 6) (v := 0) (by decide +kernel)) (byA eNcX11_done (p := 7) (v := 43) (by decide +kernel)) (by decide +kernel)
theorem dX11_done_8 : decode cX11_done 8 = .ok (.aload_n 0, 1) := dc_42 (byA eNcX11_done (p := 8) (v := 42) (by decide +kernel))
theorem dX11_done_9 : decode cX11_done 9 = .ok (.iload_n 2, 1) := dc_28 (byA eNcX11_done (p := 9) (v := 28) (by decide +kernel))
theorem dX11_done_10 : decode cX11_done 10 = .ok (.invokevirtual 338, 3) := dc_182 (byA eNcX11_done (p := 10) (v := 182) (by decide +kernel)) (byA eNcX11_done (p := 11) (v := 1) (by decide +kernel)) (byA eNcX11_done (p := 12) (v := 82) (by decide +kernel)) rfl
theorem dX11_done_13 : decode cX11_done 13 = .ok (.ifCond .eq 35, 3) := dc_153 (byA eNcX11_done (p := 13) (v := 153) (by decide +kernel)) (byA eNcX11_done (p := 14) (v := 0) (by decide +kernel)) (byA eNcX11_done (p := 15) (v := 35) (by decide +kernel)) (by decide +kernel)
theorem dX11_done_16 : decode cX11_done 16 = .ok (.iload_n 3, 1) := dc_29 (byA eNcX11_done (p := 16) (v := 29) (by decide +kernel))
theorem dX11_done_17 : decode cX11_done 17 = .ok (.iconst 0, 1) := dc_3 (byA eNcX11_done (p := 17) (v := 3) (by decide +kernel))
theorem dX11_done_18 : decode cX11_done 18 = .ok (.aload_n 0, 1) := dc_42 (byA eNcX11_done (p := 18) (v := 42) (by decide +kernel))
theorem dX11_done_19 : decode cX11_done 19 = .ok (.getfield 316, 3) := dc_180 (byA eNcX11_done (p := 19) (v := 180) (by decide +kernel)) (byA eNcX11_done (p := 20) (v := 1) (by decide +kernel)) (byA eNcX11_done (p := 21) (v := 60) (by decide +kernel)) rfl
theorem dX11_done_22 : decode cX11_done 22 = .ok (.iconst 1, 1) := dc_4 (byA eNcX11_done (p := 22) (v := 4) (by decide +kernel))
theorem dX11_done_23 : decode cX11_done 23 = .ok (.isub, 1) := dc_100 (byA eNcX11_done (p := 23) (v := 100) (by decide +kernel))
theorem dX11_done_24 : decode cX11_done 24 = .ok (.invokestatic 213, 3) := dc_184 (byA eNcX11_done (p := 24) (v := 184) (by decide +kernel)) (byA eNcX11_done (p := 25) (v := 0) (by decide +kernel)) (byA eNcX11_done (p := 26) (v := 213) (by decide +kernel)) rfl
theorem dX11_done_27 : decode cX11_done 27 = .ok (.ifCond .eq 21, 3) := dc_153 (byA eNcX11_done (p := 27) (v := 153) (by decide +kernel)) (byA eNcX11_done (p := 28) (v := 0) (by decide +kernel)) (byA eNcX11_done (p := 29) (v := 21) (by decide +kernel)) (by decide +kernel)
theorem dX11_done_30 : decode cX11_done 30 = .ok (.iload 4, 2) := dc_21 (byA eNcX11_done (p := 30) (v := 21) (by decide +kernel)) (byA eNcX11_done (p := 31) (v := 4) (by decide +kernel))
theorem dX11_done_32 : decode cX11_done 32 = .ok (.iconst 0, 1) := dc_3 (byA eNcX11_done (p := 32) (v := 3) (by decide +kernel))
theorem dX11_done_33 : decode cX11_done 33 = .ok (.iconst 2, 1) := dc_5 (byA eNcX11_done (p := 33) (v := 5) (by decide +kernel))
theorem dX11_done_34 : decode cX11_done 34 = .ok (.invokestatic 213, 3) := dc_184 (byA eNcX11_done (p := 34) (v := 184) (by decide +kernel)) (byA eNcX11_done (p := 35) (v := 0) (by decide +kernel)) (byA eNcX11_done (p := 36) (v := 213) (by decide +kernel)) rfl
theorem dX11_done_37 : decode cX11_done 37 = .ok (.ifCond .eq 11, 3) := dc_153 (byA eNcX11_done (p := 37) (v := 153) (by decide +kernel)) (byA eNcX11_done (p := 38) (v := 0) (by decide +kernel)) (byA eNcX11_done (p := 39) (v := 11) (by decide +kernel)) (by decide +kernel)
theorem dX11_done_40 : decode cX11_done 40 = .ok (.aload_n 0, 1) := dc_42 (byA eNcX11_done (p := 40) (v := 42) (by decide +kernel))
theorem dX11_done_41 : decode cX11_done 41 = .ok (.iload_n 2, 1) := dc_28 (byA eNcX11_done (p := 41) (v := 28) (by decide +kernel))
theorem dX11_done_42 : decode cX11_done 42 = .ok (.invokevirtual 341, 3) := dc_182 (byA eNcX11_done (p := 42) (v := 182) (by decide +kernel)) (byA eNcX11_done (p := 43) (v := 1) (by decide +kernel)) (byA eNcX11_done (p := 44) (v := 85) (by decide +kernel)) rfl
theorem dX11_done_45 : decode cX11_done 45 = .ok (.ifCond .ne 5, 3) := dc_154 (byA eNcX11_done (p := 45) (v := 154) (by decide +kernel)) (byA eNcX11_done (p := 46) (v := 0) (by decide +kernel)) (byA eNcX11_done (p := 47) (v := 5) (by decide +kernel)) (by decide +kernel)
theorem dX11_done_48 : decode cX11_done 48 = .ok (.iconst (-1), 1) := dc_2 (byA eNcX11_done (p := 48) (v := 2) (by decide +kernel))
theorem dX11_done_49 : decode cX11_done 49 = .ok (.ireturn, 1) := dc_172 (byA eNcX11_done (p := 49) (v := 172) (by decide +kernel))
theorem dX11_done_50 : decode cX11_done 50 = .ok (.iload 4, 2) := dc_21 (byA eNcX11_done (p := 50) (v := 21) (by decide +kernel)) (byA eNcX11_done (p := 51) (v := 4) (by decide +kernel))
theorem dX11_done_52 : decode cX11_done 52 = .ok (.ifCond .ne 12, 3) := dc_154 (byA eNcX11_done (p := 52) (v := 154) (by decide +kernel)) (byA eNcX11_done (p := 53) (v := 0) (by decide +kernel)) (byA eNcX11_done (p := 54) (v := 12) (by decide +kernel)) (by decide +kernel)
theorem dX11_done_55 : decode cX11_done 55 = .ok (.aload_n 0, 1) := dc_42 (byA eNcX11_done (p := 55) (v := 42) (by decide +kernel))
theorem dX11_done_56 : decode cX11_done 56 = .ok (.getfield 80, 3) := dc_180 (byA eNcX11_done (p := 56) (v := 180) (by decide +kernel)) (byA eNcX11_done (p := 57) (v := 0) (by decide +kernel)) (byA eNcX11_done (p := 58) (v := 80) (by decide +kernel)) rfl
theorem dX11_done_59 : decode cX11_done 59 = .ok (.iload_n 3, 1) := dc_29 (byA eNcX11_done (p := 59) (v := 29) (by decide +kernel))
theorem dX11_done_60 : decode cX11_done 60 = .ok (.iaload, 1) := dc_46 (byA eNcX11_done (p := 60) (v := 46) (by decide +kernel))
theorem dX11_done_61 : decode cX11_done 61 = .ok (.goto 23, 3) := dc_167 (byA eNcX11_done (p := 61) (v := 167) (by decide +kernel)) (byA eNcX11_done (p := 62) (v := 0) (by decide +kernel)) (byA eNcX11_done (p := 63) (v := 23) (by decide +kernel)) (by decide +kernel)
theorem dX11_done_64 : decode cX11_done 64 = .ok (.iload 4, 2) := dc_21 (byA eNcX11_done (p := 64) (v := 21) (by decide +kernel)) (byA eNcX11_done (p := 65) (v := 4) (by decide +kernel))
theorem dX11_done_66 : decode cX11_done 66 = .ok (.iconst 1, 1) := dc_4 (byA eNcX11_done (p := 66) (v := 4) (by decide +kernel))
theorem dX11_done_67 : decode cX11_done 67 = .ok (.if_icmp .ne 11, 3) := dc_160 (byA eNcX11_done (p := 67) (v := 160) (by decide +kernel)) (byA eNcX11_done (p := 68) (v := 0) (by decide +kernel)) (byA eNcX11_done (p := 69) (v := 11) (by decide +kernel)) (by decide +kernel)
theorem dX11_done_70 : decode cX11_done 70 = .ok (.aload_n 0, 1) := dc_42 (byA eNcX11_done (p := 70) (v := 42) (by decide +kernel))
theorem dX11_done_71 : decode cX11_done 71 = .ok (.iload_n 3, 1) := dc_29 (byA eNcX11_done (p := 71) (v := 29) (by decide +kernel))
theorem dX11_done_72 : decode cX11_done 72 = .ok (.invokevirtual 332, 3) := dc_182 (byA eNcX11_done (p := 72) (v := 182) (by decide +kernel)) (byA eNcX11_done (p := 73) (v := 1) (by decide +kernel)) (byA eNcX11_done (p := 74) (v := 76) (by decide +kernel)) rfl
theorem dX11_done_75 : decode cX11_done 75 = .ok (.goto 9, 3) := dc_167 (byA eNcX11_done (p := 75) (v := 167) (by decide +kernel)) (byA eNcX11_done (p := 76) (v := 0) (by decide +kernel)) (byA eNcX11_done (p := 77) (v := 9) (by decide +kernel)) (by decide +kernel)
theorem dX11_done_78 : decode cX11_done 78 = .ok (.aload_n 0, 1) := dc_42 (byA eNcX11_done (p := 78) (v := 42) (by decide +kernel))
theorem dX11_done_79 : decode cX11_done 79 = .ok (.getfield 77, 3) := dc_180 (byA eNcX11_done (p := 79) (v := 180) (by decide +kernel)) (byA eNcX11_done (p := 80) (v := 0) (by decide +kernel)) (byA eNcX11_done (p := 81) (v := 77) (by decide +kernel)) rfl
theorem dX11_done_82 : decode cX11_done 82 = .ok (.iload_n 3, 1) := dc_29 (byA eNcX11_done (p := 82) (v := 29) (by decide +kernel))
theorem dX11_done_83 : decode cX11_done 83 = .ok (.iaload, 1) := dc_46 (byA eNcX11_done (p := 83) (v := 46) (by decide +kernel))
theorem dX11_done_84 : decode cX11_done 84 = .ok (.ireturn, 1) := dc_172 (byA eNcX11_done (p := 84) (v := 172) (by decide +kernel))
def X11_done (l1 : Int) (l2 : Int) (l3 : Int) (l4 : Int) (μ : Mm) : Rs := bd (X11_isReady l1 μ) fun v1 μ2 => if v1 = 0 then (some ((-1), μ2)) else (bd (X11_isOrder l2 μ2) fun v5 μ6 => if v5 = 0 then (some ((-1), μ6)) else (bd (X11_in l3 0 (iS (μ6 70 37) 1) μ6) fun v9 μ10 => if v9 = 0 then (some ((-1), μ10)) else (bd (X11_in l4 0 2 μ10) fun v13 μ14 => if v13 = 0 then (some ((-1), μ14)) else (bd (X11_go l2 μ14) fun v17 μ18 => if v17 = 0 then (some ((-1), μ18)) else (if l4 = 0 then (ldA μ18 92 l3 fun v28 => some (v28, μ18)) else (if l4 = 1 then (bd (X11_late l3 μ18) fun v25 μ26 => some (v25, μ26)) else (ldA μ18 91 l3 fun v23 => some (v23, μ18))))))))
set_option maxHeartbeats 4000000 in
set_option maxRecDepth 100000 in
theorem kX11_done (d : Nat) (hd : 7 ≤ d) {l1 : Int} {l2 : Int} {l3 : Int} {l4 : Int} {μ : Mm} {r : Int} {μ' : Mm} (h : X11_done l1 l2 l3 l4 μ = some (r, μ')) : CC d mX11_done [vR 70, vI l1, vI l2, vI l3, vI l4] μ r μ' := by
  unfold X11_done at h
  refine V_enter (by decide) (Nat.le_of_ble_eq_true rfl) ?_
  show VV d mX11_done 0 [some (vR 70), some (vI l1), some (vI l2), some (vI l3), some (vI l4)] [] μ r μ'
  refine V_aload_n (q := 1) dX11_done_0 rfl rfl rfl ?_
  refine V_iload_n (q := 2) dX11_done_1 rfl rfl rfl ?_
  obtain ⟨v1, μ2, hc3, h⟩ := bd_i h
  refine V_cV1 (q := 5) (v := vI v1) (kX11_isReady (d - 1) (by omega) hc3) (by omega) mv_X11_335 rfl rfl rfl rfl rfl rfl dX11_done_2 rfl ?_
  refine V_ifeq (q := 48) (q2 := 8) dX11_done_5 (by decide) rfl (fun hc4 => ?_) (fun hc4 => ?_)
  · have h := ifT hc4 h
    refine V_iconst (q := 49) dX11_done_48 rfl rfl ?_
    exact V_iret rfl h dX11_done_49
  · have h := ifF hc4 h
    refine V_aload_n (q := 9) dX11_done_8 rfl rfl rfl ?_
    refine V_iload_n (q := 10) dX11_done_9 rfl rfl rfl ?_
    obtain ⟨v5, μ6, hc7, h⟩ := bd_i h
    refine V_cV1 (q := 13) (v := vI v5) (kX11_isOrder (d - 1) (by omega) hc7) (by omega) mv_X11_338 rfl rfl rfl rfl rfl rfl dX11_done_10 rfl ?_
    refine V_ifeq (q := 48) (q2 := 16) dX11_done_13 (by decide) rfl (fun hc8 => ?_) (fun hc8 => ?_)
    · have h := ifT hc8 h
      refine V_iconst (q := 49) dX11_done_48 rfl rfl ?_
      exact V_iret rfl h dX11_done_49
    · have h := ifF hc8 h
      refine V_iload_n (q := 17) dX11_done_16 rfl rfl rfl ?_
      refine V_iconst (q := 18) dX11_done_17 rfl rfl ?_
      refine V_aload_n (q := 19) dX11_done_18 rfl rfl rfl ?_
      refine V_getI (q := 22) fl_X11_316 rfl rfl rfl dX11_done_19 rfl ?_
      refine V_iconst (q := 23) dX11_done_22 rfl rfl ?_
      refine V_isub (q := 24) dX11_done_23 rfl ?_
      obtain ⟨v9, μ10, hc11, h⟩ := bd_i h
      refine V_cS1 (q := 27) (v := vI v9) (kX11_in (d - 1) (by omega) hc11) (by omega) mv_X11_213 rfl rfl rfl rfl dX11_done_24 rfl ?_
      refine V_ifeq (q := 48) (q2 := 30) dX11_done_27 (by decide) rfl (fun hc12 => ?_) (fun hc12 => ?_)
      · have h := ifT hc12 h
        refine V_iconst (q := 49) dX11_done_48 rfl rfl ?_
        exact V_iret rfl h dX11_done_49
      · have h := ifF hc12 h
        refine V_iload (q := 32) dX11_done_30 rfl rfl ?_
        refine V_iconst (q := 33) dX11_done_32 rfl rfl ?_
        refine V_iconst (q := 34) dX11_done_33 rfl rfl ?_
        obtain ⟨v13, μ14, hc15, h⟩ := bd_i h
        refine V_cS1 (q := 37) (v := vI v13) (kX11_in (d - 1) (by omega) hc15) (by omega) mv_X11_213 rfl rfl rfl rfl dX11_done_34 rfl ?_
        refine V_ifeq (q := 48) (q2 := 40) dX11_done_37 (by decide) rfl (fun hc16 => ?_) (fun hc16 => ?_)
        · have h := ifT hc16 h
          refine V_iconst (q := 49) dX11_done_48 rfl rfl ?_
          exact V_iret rfl h dX11_done_49
        · have h := ifF hc16 h
          refine V_aload_n (q := 41) dX11_done_40 rfl rfl rfl ?_
          refine V_iload_n (q := 42) dX11_done_41 rfl rfl rfl ?_
          obtain ⟨v17, μ18, hc19, h⟩ := bd_i h
          refine V_cV1 (q := 45) (v := vI v17) (kX11_go (d - 1) (by omega) hc19) (by omega) mv_X11_341 rfl rfl rfl rfl rfl rfl dX11_done_42 rfl ?_
          refine V_ifne (q := 50) (q2 := 48) dX11_done_45 (by decide) rfl (fun hc20 => ?_) (fun hc20 => ?_)
          · have h := ifF hc20 h
            refine V_iload (q := 52) dX11_done_50 rfl rfl ?_
            refine V_ifne (q := 64) (q2 := 55) dX11_done_52 (by decide) rfl (fun hc21 => ?_) (fun hc21 => ?_)
            · have h := ifF hc21 h
              refine V_iload (q := 66) dX11_done_64 rfl rfl ?_
              refine V_iconst (q := 67) dX11_done_66 rfl rfl ?_
              refine V_icmpne (q := 78) (q2 := 70) dX11_done_67 (by decide) rfl (fun hc22 => ?_) (fun hc22 => ?_)
              · have h := ifF hc22 h
                refine V_aload_n (q := 79) dX11_done_78 rfl rfl rfl ?_
                refine V_getO (q := 82) (t := 91) fl_X11_77 rfl rfl rfl rfl dX11_done_79 rfl ?_
                refine V_iload_n (q := 83) dX11_done_82 rfl rfl rfl ?_
                obtain ⟨hi24, h⟩ := ldA_i h
                refine V_iaload (q := 84) rfl hi24 dX11_done_83 rfl ?_
                exact V_iret rfl h dX11_done_84
              · have h := ifT hc22 h
                refine V_aload_n (q := 71) dX11_done_70 rfl rfl rfl ?_
                refine V_iload_n (q := 72) dX11_done_71 rfl rfl rfl ?_
                obtain ⟨v25, μ26, hc27, h⟩ := bd_i h
                refine V_cV1 (q := 75) (v := vI v25) (kX11_late (d - 1) (by omega) hc27) (by omega) mv_X11_332 rfl rfl rfl rfl rfl rfl dX11_done_72 rfl ?_
                refine V_goto (q := 84) dX11_done_75 (by decide) ?_
                exact V_iret rfl h dX11_done_84
            · have h := ifT hc21 h
              refine V_aload_n (q := 56) dX11_done_55 rfl rfl rfl ?_
              refine V_getO (q := 59) (t := 92) fl_X11_80 rfl rfl rfl rfl dX11_done_56 rfl ?_
              refine V_iload_n (q := 60) dX11_done_59 rfl rfl rfl ?_
              obtain ⟨hi29, h⟩ := ldA_i h
              refine V_iaload (q := 61) rfl hi29 dX11_done_60 rfl ?_
              refine V_goto (q := 84) dX11_done_61 (by decide) ?_
              exact V_iret rfl h dX11_done_84
          · have h := ifT hc20 h
            refine V_iconst (q := 49) dX11_done_48 rfl rfl ?_
            exact V_iret rfl h dX11_done_49
abbrev mX11_where : Mth := (yX11_where, cX11_where, 6, some .int)
set_option maxRecDepth 100000 in
theorem mi_X11_where : Cond.instanceMethod yX11_where ∈ tG ∧ Cond.selects yX11_where.cls yX11_where yX11_where ∈ tG ∧ Cond.initialized yX11_where.cls ∈ tG ∧ Cond.code yX11_where cX11_where 6 (some .int) ∈ tG ∧ (yX11_where.cls ≠ "java/lang/invoke/MethodHandle" ∧ yX11_where.cls ≠ "java/lang/invoke/VarHandle" ∧ (parseMethodDescriptor yX11_where.desc).map (fun d => d.parameters.length) = some 3) ∧ 6 ≤ 60 := ⟨(tG_of (tb7 (List.mem_of_getElem? (i := 53) rfl)) (by decide +kernel)), (tG_of (tb7 (List.mem_of_getElem? (i := 54) rfl)) (by decide +kernel)), (tG_of (tb1 (List.mem_of_getElem? (i := 12) rfl)) (by decide +kernel)), (tG_of (tb7 (List.mem_of_getElem? (i := 55) rfl)) (by decide +kernel)), ⟨by decide, by decide, by decide +kernel⟩, by decide⟩
theorem dX11_where_0 : decode cX11_where 0 = .ok (.aload_n 0, 1) := dc_42 (byA eNcX11_where (p := 0) (v := 42) (by decide +kernel))
theorem dX11_where_1 : decode cX11_where 1 = .ok (.iload_n 1, 1) := dc_27 (byA eNcX11_where (p := 1) (v := 27) (by decide +kernel))
theorem dX11_where_2 : decode cX11_where 2 = .ok (.invokevirtual 335, 3) := dc_182 (byA eNcX11_where (p := 2) (v := 182) (by decide +kernel)) (byA eNcX11_where (p := 3) (v := 1) (by decide +kernel)) (byA eNcX11_where (p := 4) (v := 79) (by decide +kernel)) rfl
theorem dX11_where_5 : decode cX11_where 5 = .ok (.ifCond .eq 23, 3) := dc_153 (byA eNcX11_where (p := 5) (v := 153) (by decide +kernel)) (byA eNcX11_where (p := 6) (v := 0) (by decide +kernel)) (byA eNcX11_where (p := 7) (v := 23) (by decide +kernel)) (by decide +kernel)
theorem dX11_where_8 : decode cX11_where 8 = .ok (.aload_n 0, 1) := dc_42 (byA eNcX11_where (p := 8) (v := 42) (by decide +kernel))
theorem dX11_where_9 : decode cX11_where 9 = .ok (.iload_n 2, 1) := dc_28 (byA eNcX11_where (p := 9) (v := 28) (by decide +kernel))
theorem dX11_where_10 : decode cX11_where 10 = .ok (.invokevirtual 338, 3) := dc_182 (byA eNcX11_where (p := 10) (v := 182) (by decide +kernel)) (byA eNcX11_where (p := 11) (v := 1) (by decide +kernel)) (byA eNcX11_where (p := 12) (v := 82) (by decide +kernel)) rfl
theorem dX11_where_13 : decode cX11_where 13 = .ok (.ifCond .eq 15, 3) := dc_153 (byA eNcX11_where (p := 13) (v := 153) (by decide +kernel)) (byA eNcX11_where (p := 14) (v := 0) (by decide +kernel)) (byA eNcX11_where (p := 15) (v := 15) (by decide +kernel)) (by decide +kernel)
theorem dX11_where_16 : decode cX11_where 16 = .ok (.iload_n 3, 1) := dc_29 (byA eNcX11_where (p := 16) (v := 29) (by decide +kernel))
theorem dX11_where_17 : decode cX11_where 17 = .ok (.ifCond .lt 11, 3) := dc_155 (byA eNcX11_where (p := 17) (v := 155) (by decide +kernel)) (byA eNcX11_where (p := 18) (v := 0) (by decide +kernel)) (byA eNcX11_where (p := 19) (v := 11) (by decide +kernel)) (by decide +kernel)
theorem dX11_where_20 : decode cX11_where 20 = .ok (.aload_n 0, 1) := dc_42 (byA eNcX11_where (p := 20) (v := 42) (by decide +kernel))
theorem dX11_where_21 : decode cX11_where 21 = .ok (.iload_n 2, 1) := dc_28 (byA eNcX11_where (p := 21) (v := 28) (by decide +kernel))
theorem dX11_where_22 : decode cX11_where 22 = .ok (.invokevirtual 341, 3) := dc_182 (byA eNcX11_where (p := 22) (v := 182) (by decide +kernel)) (byA eNcX11_where (p := 23) (v := 1) (by decide +kernel)) (byA eNcX11_where (p := 24) (v := 85) (by decide +kernel)) rfl
theorem dX11_where_25 : decode cX11_where 25 = .ok (.ifCond .ne 5, 3) := dc_154 (byA eNcX11_where (p := 25) (v := 154) (by decide +kernel)) (byA eNcX11_where (p := 26) (v := 0) (by decide +kernel)) (byA eNcX11_where (p := 27) (v := 5) (by decide +kernel)) (by decide +kernel)
theorem dX11_where_28 : decode cX11_where 28 = .ok (.iconst (-1), 1) := dc_2 (byA eNcX11_where (p := 28) (v := 2) (by decide +kernel))
theorem dX11_where_29 : decode cX11_where 29 = .ok (.ireturn, 1) := dc_172 (byA eNcX11_where (p := 29) (v := 172) (by decide +kernel))
theorem dX11_where_30 : decode cX11_where 30 = .ok (.iconst 0, 1) := dc_3 (byA eNcX11_where (p := 30) (v := 3) (by decide +kernel))
theorem dX11_where_31 : decode cX11_where 31 = .ok (.istore 4, 2) := dc_54 (byA eNcX11_where (p := 31) (v := 54) (by decide +kernel)) (byA eNcX11_where (p := 32) (v := 4) (by decide +kernel))
theorem dX11_where_33 : decode cX11_where 33 = .ok (.iload 4, 2) := dc_21 (byA eNcX11_where (p := 33) (v := 21) (by decide +kernel)) (byA eNcX11_where (p := 34) (v := 4) (by decide +kernel))
theorem dX11_where_35 : decode cX11_where 35 = .ok (.aload_n 0, 1) := dc_42 (byA eNcX11_where (p := 35) (v := 42) (by decide +kernel))
theorem dX11_where_36 : decode cX11_where 36 = .ok (.getfield 316, 3) := dc_180 (byA eNcX11_where (p := 36) (v := 180) (by decide +kernel)) (byA eNcX11_where (p := 37) (v := 1) (by decide +kernel)) (byA eNcX11_where (p := 38) (v := 60) (by decide +kernel)) rfl
theorem dX11_where_39 : decode cX11_where 39 = .ok (.if_icmp .ge 52, 3) := dc_162 (byA eNcX11_where (p := 39) (v := 162) (by decide +kernel)) (byA eNcX11_where (p := 40) (v := 0) (by decide +kernel)) (byA eNcX11_where (p := 41) (v := 52) (by decide +kernel)) (by decide +kernel)
theorem dX11_where_42 : decode cX11_where 42 = .ok (.aload_n 0, 1) := dc_42 (byA eNcX11_where (p := 42) (v := 42) (by decide +kernel))
theorem dX11_where_43 : decode cX11_where 43 = .ok (.iload_n 2, 1) := dc_28 (byA eNcX11_where (p := 43) (v := 28) (by decide +kernel))
theorem dX11_where_44 : decode cX11_where 44 = .ok (.iload 4, 2) := dc_21 (byA eNcX11_where (p := 44) (v := 21) (by decide +kernel)) (byA eNcX11_where (p := 45) (v := 4) (by decide +kernel))
theorem dX11_where_46 : decode cX11_where 46 = .ok (.invokevirtual 329, 3) := dc_182 (byA eNcX11_where (p := 46) (v := 182) (by decide +kernel)) (byA eNcX11_where (p := 47) (v := 1) (by decide +kernel)) (byA eNcX11_where (p := 48) (v := 73) (by decide +kernel)) rfl
theorem dX11_where_49 : decode cX11_where 49 = .ok (.istore 5, 2) := dc_54 (byA eNcX11_where (p := 49) (v := 54) (by decide +kernel)) (byA eNcX11_where (p := 50) (v := 5) (by decide +kernel))
theorem dX11_where_51 : decode cX11_where 51 = .ok (.iload_n 3, 1) := dc_29 (byA eNcX11_where (p := 51) (v := 29) (by decide +kernel))
theorem dX11_where_52 : decode cX11_where 52 = .ok (.aload_n 0, 1) := dc_42 (byA eNcX11_where (p := 52) (v := 42) (by decide +kernel))
theorem dX11_where_53 : decode cX11_where 53 = .ok (.getfield 77, 3) := dc_180 (byA eNcX11_where (p := 53) (v := 180) (by decide +kernel)) (byA eNcX11_where (p := 54) (v := 0) (by decide +kernel)) (byA eNcX11_where (p := 55) (v := 77) (by decide +kernel)) rfl
theorem dX11_where_56 : decode cX11_where 56 = .ok (.iload 5, 2) := dc_21 (byA eNcX11_where (p := 56) (v := 21) (by decide +kernel)) (byA eNcX11_where (p := 57) (v := 5) (by decide +kernel))
theorem dX11_where_58 : decode cX11_where 58 = .ok (.iaload, 1) := dc_46 (byA eNcX11_where (p := 58) (v := 46) (by decide +kernel))
theorem dX11_where_59 : decode cX11_where 59 = .ok (.aload_n 0, 1) := dc_42 (byA eNcX11_where (p := 59) (v := 42) (by decide +kernel))
theorem dX11_where_60 : decode cX11_where 60 = .ok (.getfield 80, 3) := dc_180 (byA eNcX11_where (p := 60) (v := 180) (by decide +kernel)) (byA eNcX11_where (p := 61) (v := 0) (by decide +kernel)) (byA eNcX11_where (p := 62) (v := 80) (by decide +kernel)) rfl
theorem dX11_where_63 : decode cX11_where 63 = .ok (.iload 5, 2) := dc_21 (byA eNcX11_where (p := 63) (v := 21) (by decide +kernel)) (byA eNcX11_where (p := 64) (v := 5) (by decide +kernel))
theorem dX11_where_65 : decode cX11_where 65 = .ok (.iaload, 1) := dc_46 (byA eNcX11_where (p := 65) (v := 46) (by decide +kernel))
theorem dX11_where_66 : decode cX11_where 66 = .ok (.invokestatic 213, 3) := dc_184 (byA eNcX11_where (p := 66) (v := 184) (by decide +kernel)) (byA eNcX11_where (p := 67) (v := 0) (by decide +kernel)) (byA eNcX11_where (p := 68) (v := 213) (by decide +kernel)) rfl
theorem dX11_where_69 : decode cX11_where 69 = .ok (.ifCond .eq 16, 3) := dc_153 (byA eNcX11_where (p := 69) (v := 153) (by decide +kernel)) (byA eNcX11_where (p := 70) (v := 0) (by decide +kernel)) (byA eNcX11_where (p := 71) (v := 16) (by decide +kernel)) (by decide +kernel)
theorem dX11_where_72 : decode cX11_where 72 = .ok (.aload_n 0, 1) := dc_42 (byA eNcX11_where (p := 72) (v := 42) (by decide +kernel))
theorem dX11_where_73 : decode cX11_where 73 = .ok (.getfield 46, 3) := dc_180 (byA eNcX11_where (p := 73) (v := 180) (by decide +kernel)) (byA eNcX11_where (p := 74) (v := 0) (by decide +kernel)) (byA eNcX11_where (p := 75) (v := 46) (by decide +kernel)) rfl
theorem dX11_where_76 : decode cX11_where 76 = .ok (.bipush 8, 2) := dc_16 (byA eNcX11_where (p := 76) (v := 16) (by decide +kernel)) (byA eNcX11_where (p := 77) (v := 8) (by decide +kernel)) (by decide +kernel)
theorem dX11_where_78 : decode cX11_where 78 = .ok (.iload_n 1, 1) := dc_27 (byA eNcX11_where (p := 78) (v := 27) (by decide +kernel))
theorem dX11_where_79 : decode cX11_where 79 = .ok (.imul, 1) := dc_104 (byA eNcX11_where (p := 79) (v := 104) (by decide +kernel))
theorem dX11_where_80 : decode cX11_where 80 = .ok (.iload 5, 2) := dc_21 (byA eNcX11_where (p := 80) (v := 21) (by decide +kernel)) (byA eNcX11_where (p := 81) (v := 5) (by decide +kernel))
theorem dX11_where_82 : decode cX11_where 82 = .ok (.iadd, 1) := dc_96 (byA eNcX11_where (p := 82) (v := 96) (by decide +kernel))
theorem dX11_where_83 : decode cX11_where 83 = .ok (.iaload, 1) := dc_46 (byA eNcX11_where (p := 83) (v := 46) (by decide +kernel))
theorem dX11_where_84 : decode cX11_where 84 = .ok (.ireturn, 1) := dc_172 (byA eNcX11_where (p := 84) (v := 172) (by decide +kernel))
theorem dX11_where_85 : decode cX11_where 85 = .ok (.iinc 4 1, 3) := dc_132 (byA eNcX11_where (p := 85) (v := 132) (by decide +kernel)) (byA eNcX11_where (p := 86) (v := 4) (by decide +kernel)) (byA eNcX11_where (p := 87) (v := 1) (by decide +kernel)) (by decide +kernel)
theorem dX11_where_88 : decode cX11_where 88 = .ok (.goto (-55), 3) := dc_167 (byA eNcX11_where (p := 88) (v := 167) (by decide +kernel)) (byA eNcX11_where (p := 89) (v := 255) (by decide +kernel)) (byA eNcX11_where (p := 90) (v := 201) (by decide +kernel)) (by decide +kernel)
theorem dX11_where_91 : decode cX11_where 91 = .ok (.iload_n 3, 1) := dc_29 (byA eNcX11_where (p := 91) (v := 29) (by decide +kernel))
theorem dX11_where_92 : decode cX11_where 92 = .ok (.aload_n 0, 1) := dc_42 (byA eNcX11_where (p := 92) (v := 42) (by decide +kernel))
theorem dX11_where_93 : decode cX11_where 93 = .ok (.getfield 80, 3) := dc_180 (byA eNcX11_where (p := 93) (v := 180) (by decide +kernel)) (byA eNcX11_where (p := 94) (v := 0) (by decide +kernel)) (byA eNcX11_where (p := 95) (v := 80) (by decide +kernel)) rfl
theorem dX11_where_96 : decode cX11_where 96 = .ok (.iload_n 2, 1) := dc_28 (byA eNcX11_where (p := 96) (v := 28) (by decide +kernel))
theorem dX11_where_97 : decode cX11_where 97 = .ok (.bipush 10, 2) := dc_16 (byA eNcX11_where (p := 97) (v := 16) (by decide +kernel)) (byA eNcX11_where (p := 98) (v := 10) (by decide +kernel)) (by decide +kernel)
theorem dX11_where_99 : decode cX11_where 99 = .ok (.irem, 1) := dc_112 (byA eNcX11_where (p := 99) (v := 112) (by decide +kernel))
theorem dX11_where_100 : decode cX11_where 100 = .ok (.iaload, 1) := dc_46 (byA eNcX11_where (p := 100) (v := 46) (by decide +kernel))
theorem dX11_where_101 : decode cX11_where 101 = .ok (.if_icmp .le 8, 3) := dc_164 (byA eNcX11_where (p := 101) (v := 164) (by decide +kernel)) (byA eNcX11_where (p := 102) (v := 0) (by decide +kernel)) (byA eNcX11_where (p := 103) (v := 8) (by decide +kernel)) (by decide +kernel)
theorem dX11_where_104 : decode cX11_where 104 = .ok (.bipush 9, 2) := dc_16 (byA eNcX11_where (p := 104) (v := 16) (by decide +kernel)) (byA eNcX11_where (p := 105) (v := 9) (by decide +kernel)) (by decide +kernel)
theorem dX11_where_106 : decode cX11_where 106 = .ok (.goto 5, 3) := dc_167 (byA eNcX11_where (p := 106) (v := 167) (by decide +kernel)) (byA eNcX11_where (p := 107) (v := 0) (by decide +kernel)) (byA eNcX11_where (p := 108) (v := 5) (by decide +kernel)) (by decide +kernel)
theorem dX11_where_109 : decode cX11_where 109 = .ok (.bipush 8, 2) := dc_16 (byA eNcX11_where (p := 109) (v := 16) (by decide +kernel)) (byA eNcX11_where (p := 110) (v := 8) (by decide +kernel)) (by decide +kernel)
theorem dX11_where_111 : decode cX11_where 111 = .ok (.ireturn, 1) := dc_172 (byA eNcX11_where (p := 111) (v := 172) (by decide +kernel))
def X11_where_L33 (l1 : Int) (l2 : Int) (l3 : Int) (k91 : Mm → Rs) (k72 : Int → Mm → Rs) : Nat → Int → Mm → Rs
  | 0, _, _ => none
  | n + 1, l4, μ => if (μ 70 37) ≤ l4 then (k91 μ) else (bd (X11_nth l2 l4 μ) fun v15 μ16 => ldA μ16 91 v15 fun v18 => ldA μ16 92 v15 fun v20 => bd (X11_in l3 v18 v20 μ16) fun v22 μ23 => if v22 = 0 then (X11_where_L33 l1 l2 l3 k91 k72 n (iA l4 1) μ23) else (k72 v15 μ23))
def X11_where (l1 : Int) (l2 : Int) (l3 : Int) (μ : Mm) : Rs := bd (X11_isReady l1 μ) fun v1 μ2 => if v1 = 0 then (some ((-1), μ2)) else (bd (X11_isOrder l2 μ2) fun v5 μ6 => if v5 = 0 then (some ((-1), μ6)) else (if l3 < 0 then (some ((-1), μ6)) else (bd (X11_go l2 μ6) fun v10 μ11 => if v10 = 0 then (some ((-1), μ11)) else (X11_where_L33 l1 l2 l3 (fun μ26 => ldA μ26 92 (iR l2 10) fun v27 => if l3 ≤ v27 then (some (8, μ26)) else (some (9, μ26))) (fun v30 μ31 => ldA μ31 83 (iA (iM 8 l1) v30) fun v32 => some (v32, μ31)) FU 0 μ11))))
set_option maxHeartbeats 4000000 in
set_option maxRecDepth 100000 in
theorem kX11_where_L33 (d : Nat) (hd : 7 ≤ d) {l1 : Int} {l2 : Int} {l3 : Int} {k91 : Mm → Rs} {k72 : Int → Mm → Rs} {r : Int} {μ' : Mm} (hk_91 : ∀ (μ1 : Mm), k91 μ1 = some (r, μ') → VV d mX11_where 91 [some (vR 70), none, some (vI l2), some (vI l3), none, none] [] μ1 r μ') (hk_72 : ∀ (v5 : Int) (μ1 : Mm), k72 v5 μ1 = some (r, μ') → VV d mX11_where 72 [some (vR 70), some (vI l1), none, none, none, some (vI v5)] [] μ1 r μ') : ∀ (n : Nat) {l4 : Int} {μ : Mm}, X11_where_L33 l1 l2 l3 k91 k72 n l4 μ = some (r, μ') → VV d mX11_where 33 [some (vR 70), some (vI l1), some (vI l2), some (vI l3), some (vI l4), none] [] μ r μ' := by
  intro n
  induction n with
  | zero => intro l4 μ h; rw [X11_where_L33] at h; cases h
  | succ n ih =>
    intro l4 μ h
    rw [X11_where_L33] at h
    refine V_iload (q := 35) dX11_where_33 rfl rfl ?_
    refine V_aload_n (q := 36) dX11_where_35 rfl rfl rfl ?_
    refine V_getI (q := 39) fl_X11_316 rfl rfl rfl dX11_where_36 rfl ?_
    refine V_icmpge (q := 91) (q2 := 42) dX11_where_39 (by decide) rfl (fun hc14 => ?_) (fun hc14 => ?_)
    · have h := ifT hc14 h
      exact V_weak (hk_91 _ h) (sb_s rfl (sb_n (sb_s rfl (sb_s rfl (sb_n (sb_n sb_0))))))
    · have h := ifF hc14 h
      refine V_aload_n (q := 43) dX11_where_42 rfl rfl rfl ?_
      refine V_iload_n (q := 44) dX11_where_43 rfl rfl rfl ?_
      refine V_iload (q := 46) dX11_where_44 rfl rfl ?_
      obtain ⟨v15, μ16, hc17, h⟩ := bd_i h
      refine V_cV1 (q := 49) (v := vI v15) (kX11_nth (d - 1) (by omega) hc17) (by omega) mv_X11_329 rfl rfl rfl rfl rfl rfl dX11_where_46 rfl ?_
      refine V_istore (q := 51) dX11_where_49 (Nat.le_of_ble_eq_true rfl) trivial rfl ?_
      refine V_iload_n (q := 52) dX11_where_51 rfl rfl rfl ?_
      refine V_aload_n (q := 53) dX11_where_52 rfl rfl rfl ?_
      refine V_getO (q := 56) (t := 91) fl_X11_77 rfl rfl rfl rfl dX11_where_53 rfl ?_
      refine V_iload (q := 58) dX11_where_56 rfl rfl ?_
      obtain ⟨hi19, h⟩ := ldA_i h
      refine V_iaload (q := 59) rfl hi19 dX11_where_58 rfl ?_
      refine V_aload_n (q := 60) dX11_where_59 rfl rfl rfl ?_
      refine V_getO (q := 63) (t := 92) fl_X11_80 rfl rfl rfl rfl dX11_where_60 rfl ?_
      refine V_iload (q := 65) dX11_where_63 rfl rfl ?_
      obtain ⟨hi21, h⟩ := ldA_i h
      refine V_iaload (q := 66) rfl hi21 dX11_where_65 rfl ?_
      obtain ⟨v22, μ23, hc24, h⟩ := bd_i h
      refine V_cS1 (q := 69) (v := vI v22) (kX11_in (d - 1) (by omega) hc24) (by omega) mv_X11_213 rfl rfl rfl rfl dX11_where_66 rfl ?_
      refine V_ifeq (q := 85) (q2 := 72) dX11_where_69 (by decide) rfl (fun hc25 => ?_) (fun hc25 => ?_)
      · have h := ifT hc25 h
        refine V_iinc (q := 88) dX11_where_85 rfl (Nat.le_of_ble_eq_true rfl) trivial rfl ?_
        refine V_goto (q := 33) dX11_where_88 (by decide) ?_
        exact V_weak (ih h) (sb_s rfl (sb_s rfl (sb_s rfl (sb_s rfl (sb_s rfl (sb_n sb_0))))))
      · have h := ifF hc25 h
        exact V_weak (hk_72 _ _ h) (sb_s rfl (sb_s rfl (sb_n (sb_n (sb_n (sb_s rfl sb_0))))))
set_option maxHeartbeats 4000000 in
set_option maxRecDepth 100000 in
theorem kX11_where (d : Nat) (hd : 7 ≤ d) {l1 : Int} {l2 : Int} {l3 : Int} {μ : Mm} {r : Int} {μ' : Mm} (h : X11_where l1 l2 l3 μ = some (r, μ')) : CC d mX11_where [vR 70, vI l1, vI l2, vI l3] μ r μ' := by
  unfold X11_where at h
  refine V_enter (by decide) (Nat.le_of_ble_eq_true rfl) ?_
  show VV d mX11_where 0 [some (vR 70), some (vI l1), some (vI l2), some (vI l3), none, none] [] μ r μ'
  refine V_aload_n (q := 1) dX11_where_0 rfl rfl rfl ?_
  refine V_iload_n (q := 2) dX11_where_1 rfl rfl rfl ?_
  obtain ⟨v1, μ2, hc3, h⟩ := bd_i h
  refine V_cV1 (q := 5) (v := vI v1) (kX11_isReady (d - 1) (by omega) hc3) (by omega) mv_X11_335 rfl rfl rfl rfl rfl rfl dX11_where_2 rfl ?_
  refine V_ifeq (q := 28) (q2 := 8) dX11_where_5 (by decide) rfl (fun hc4 => ?_) (fun hc4 => ?_)
  · have h := ifT hc4 h
    refine V_iconst (q := 29) dX11_where_28 rfl rfl ?_
    exact V_iret rfl h dX11_where_29
  · have h := ifF hc4 h
    refine V_aload_n (q := 9) dX11_where_8 rfl rfl rfl ?_
    refine V_iload_n (q := 10) dX11_where_9 rfl rfl rfl ?_
    obtain ⟨v5, μ6, hc7, h⟩ := bd_i h
    refine V_cV1 (q := 13) (v := vI v5) (kX11_isOrder (d - 1) (by omega) hc7) (by omega) mv_X11_338 rfl rfl rfl rfl rfl rfl dX11_where_10 rfl ?_
    refine V_ifeq (q := 28) (q2 := 16) dX11_where_13 (by decide) rfl (fun hc8 => ?_) (fun hc8 => ?_)
    · have h := ifT hc8 h
      refine V_iconst (q := 29) dX11_where_28 rfl rfl ?_
      exact V_iret rfl h dX11_where_29
    · have h := ifF hc8 h
      refine V_iload_n (q := 17) dX11_where_16 rfl rfl rfl ?_
      refine V_iflt (q := 28) (q2 := 20) dX11_where_17 (by decide) rfl (fun hc9 => ?_) (fun hc9 => ?_)
      · have h := ifT hc9 h
        refine V_iconst (q := 29) dX11_where_28 rfl rfl ?_
        exact V_iret rfl h dX11_where_29
      · have h := ifF hc9 h
        refine V_aload_n (q := 21) dX11_where_20 rfl rfl rfl ?_
        refine V_iload_n (q := 22) dX11_where_21 rfl rfl rfl ?_
        obtain ⟨v10, μ11, hc12, h⟩ := bd_i h
        refine V_cV1 (q := 25) (v := vI v10) (kX11_go (d - 1) (by omega) hc12) (by omega) mv_X11_341 rfl rfl rfl rfl rfl rfl dX11_where_22 rfl ?_
        refine V_ifne (q := 30) (q2 := 28) dX11_where_25 (by decide) rfl (fun hc13 => ?_) (fun hc13 => ?_)
        · have h := ifF hc13 h
          refine V_iconst (q := 31) dX11_where_30 rfl rfl ?_
          refine V_istore (q := 33) dX11_where_31 (Nat.le_of_ble_eq_true rfl) trivial rfl ?_
          refine V_weak (kX11_where_L33 d hd (fun μ26 h => ?_) (fun v30 μ31 h => ?_) FU h) (sb_s rfl (sb_s rfl (sb_s rfl (sb_s rfl (sb_s rfl (sb_n sb_0))))))
          · refine V_iload_n (q := 92) dX11_where_91 rfl rfl rfl ?_
            refine V_aload_n (q := 93) dX11_where_92 rfl rfl rfl ?_
            refine V_getO (q := 96) (t := 92) fl_X11_80 rfl rfl rfl rfl dX11_where_93 rfl ?_
            refine V_iload_n (q := 97) dX11_where_96 rfl rfl rfl ?_
            refine V_bipush (q := 99) dX11_where_97 rfl rfl rfl ?_
            refine V_irem (q := 100) dX11_where_99 (by decide) rfl ?_
            obtain ⟨hi28, h⟩ := ldA_i h
            refine V_iaload (q := 101) rfl hi28 dX11_where_100 rfl ?_
            refine V_icmple (q := 109) (q2 := 104) dX11_where_101 (by decide) rfl (fun hc29 => ?_) (fun hc29 => ?_)
            · have h := ifT hc29 h
              refine V_bipush (q := 111) dX11_where_109 rfl rfl rfl ?_
              exact V_iret rfl h dX11_where_111
            · have h := ifF hc29 h
              refine V_bipush (q := 106) dX11_where_104 rfl rfl rfl ?_
              refine V_goto (q := 111) dX11_where_106 (by decide) ?_
              exact V_iret rfl h dX11_where_111
          · refine V_aload_n (q := 73) dX11_where_72 rfl rfl rfl ?_
            refine V_getO (q := 76) (t := 83) fl_X11_46 rfl rfl rfl rfl dX11_where_73 rfl ?_
            refine V_bipush (q := 78) dX11_where_76 rfl rfl rfl ?_
            refine V_iload_n (q := 79) dX11_where_78 rfl rfl rfl ?_
            refine V_imul (q := 80) dX11_where_79 rfl ?_
            refine V_iload (q := 82) dX11_where_80 rfl rfl ?_
            refine V_iadd (q := 83) dX11_where_82 rfl ?_
            obtain ⟨hi33, h⟩ := ldA_i h
            refine V_iaload (q := 84) rfl hi33 dX11_where_83 rfl ?_
            exact V_iret rfl h dX11_where_84
        · have h := ifT hc13 h
          refine V_iconst (q := 29) dX11_where_28 rfl rfl ?_
          exact V_iret rfl h dX11_where_29
abbrev mX11_search : Mth := (yX11_search, cX11_search, 12, none)
set_option maxRecDepth 100000 in
theorem mi_X11_search : Cond.instanceMethod yX11_search ∈ tG ∧ Cond.selects yX11_search.cls yX11_search yX11_search ∈ tG ∧ Cond.initialized yX11_search.cls ∈ tG ∧ Cond.code yX11_search cX11_search 12 (none) ∈ tG ∧ (yX11_search.cls ≠ "java/lang/invoke/MethodHandle" ∧ yX11_search.cls ≠ "java/lang/invoke/VarHandle" ∧ (parseMethodDescriptor yX11_search.desc).map (fun d => d.parameters.length) = some 6) ∧ 12 ≤ 60 := ⟨(tG_of (tb7 (List.mem_of_getElem? (i := 70) rfl)) (by decide +kernel)), (tG_of (List.mem_of_getElem? (i := 91) (by decide +kernel)) (by decide +kernel)), (tG_of (tb1 (List.mem_of_getElem? (i := 12) rfl)) (by decide +kernel)), (tG_of (tb7 (List.mem_of_getElem? (i := 71) rfl)) (by decide +kernel)), ⟨by decide, by decide, by decide +kernel⟩, by decide⟩
set_option maxRecDepth 100000 in
theorem mv_X11_353 : mV RX11 353 mX11_search 6 := ⟨(tG_of (tb7 (List.mem_of_getElem? (i := 68) rfl)) (by decide +kernel)), mi_X11_search⟩
theorem dX11_search_0 : decode cX11_search 0 = .ok (.aload_n 0, 1) := dc_42 (byA eNcX11_search (p := 0) (v := 42) (by decide +kernel))
theorem dX11_search_1 : decode cX11_search 1 = .ok (.getfield 347, 3) := dc_180 (byA eNcX11_search (p := 1) (v := 180) (by decide +kernel)) (byA eNcX11_search (p := 2) (v := 1) (by decide +kernel)) (byA eNcX11_search (p := 3) (v := 91) (by decide +kernel)) rfl
theorem dX11_search_4 : decode cX11_search 4 = .ok (.iconst (-1), 1) := dc_2 (byA eNcX11_search (p := 4) (v := 2) (by decide +kernel))
theorem dX11_search_5 : decode cX11_search 5 = .ok (.if_icmp .eq 13, 3) := dc_159 (byA eNcX11_search (p := 5) (v := 159) (by decide +kernel)) (byA eNcX11_search (p := 6) (v := 0) (by decide +kernel)) (byA eNcX11_search (p := 7) (v := 13) (by decide +kernel)) (by decide +kernel)
theorem dX11_search_8 : decode cX11_search 8 = .ok (.iload 5, 2) := dc_21 (byA eNcX11_search (p := 8) (v := 21) (by decide +kernel)) (byA eNcX11_search (p := 9) (v := 5) (by decide +kernel))
theorem dX11_search_10 : decode cX11_search 10 = .ok (.aload_n 0, 1) := dc_42 (byA eNcX11_search (p := 10) (v := 42) (by decide +kernel))
theorem dX11_search_11 : decode cX11_search 11 = .ok (.getfield 350, 3) := dc_180 (byA eNcX11_search (p := 11) (v := 180) (by decide +kernel)) (byA eNcX11_search (p := 12) (v := 1) (by decide +kernel)) (byA eNcX11_search (p := 13) (v := 94) (by decide +kernel)) rfl
theorem dX11_search_14 : decode cX11_search 14 = .ok (.if_icmp .lt 4, 3) := dc_161 (byA eNcX11_search (p := 14) (v := 161) (by decide +kernel)) (byA eNcX11_search (p := 15) (v := 0) (by decide +kernel)) (byA eNcX11_search (p := 16) (v := 4) (by decide +kernel)) (by decide +kernel)
theorem dX11_search_17 : decode cX11_search 17 = .ok (.return_, 1) := dc_177 (byA eNcX11_search (p := 17) (v := 177) (by decide +kernel))
theorem dX11_search_18 : decode cX11_search 18 = .ok (.iload_n 2, 1) := dc_28 (byA eNcX11_search (p := 18) (v := 28) (by decide +kernel))
theorem dX11_search_19 : decode cX11_search 19 = .ok (.ifCond .ne 16, 3) := dc_154 (byA eNcX11_search (p := 19) (v := 154) (by decide +kernel)) (byA eNcX11_search (p := 20) (v := 0) (by decide +kernel)) (byA eNcX11_search (p := 21) (v := 16) (by decide +kernel)) (by decide +kernel)
theorem dX11_search_22 : decode cX11_search 22 = .ok (.aload_n 0, 1) := dc_42 (byA eNcX11_search (p := 22) (v := 42) (by decide +kernel))
theorem dX11_search_23 : decode cX11_search 23 = .ok (.iload 6, 2) := dc_21 (byA eNcX11_search (p := 23) (v := 21) (by decide +kernel)) (byA eNcX11_search (p := 24) (v := 6) (by decide +kernel))
theorem dX11_search_25 : decode cX11_search 25 = .ok (.putfield 347, 3) := dc_181 (byA eNcX11_search (p := 25) (v := 181) (by decide +kernel)) (byA eNcX11_search (p := 26) (v := 1) (by decide +kernel)) (byA eNcX11_search (p := 27) (v := 91) (by decide +kernel)) rfl
theorem dX11_search_28 : decode cX11_search 28 = .ok (.aload_n 0, 1) := dc_42 (byA eNcX11_search (p := 28) (v := 42) (by decide +kernel))
theorem dX11_search_29 : decode cX11_search 29 = .ok (.iload 5, 2) := dc_21 (byA eNcX11_search (p := 29) (v := 21) (by decide +kernel)) (byA eNcX11_search (p := 30) (v := 5) (by decide +kernel))
theorem dX11_search_31 : decode cX11_search 31 = .ok (.putfield 350, 3) := dc_181 (byA eNcX11_search (p := 31) (v := 181) (by decide +kernel)) (byA eNcX11_search (p := 32) (v := 1) (by decide +kernel)) (byA eNcX11_search (p := 33) (v := 94) (by decide +kernel)) rfl
theorem dX11_search_34 : decode cX11_search 34 = .ok (.return_, 1) := dc_177 (byA eNcX11_search (p := 34) (v := 177) (by decide +kernel))
theorem dX11_search_35 : decode cX11_search 35 = .ok (.iconst 0, 1) := dc_3 (byA eNcX11_search (p := 35) (v := 3) (by decide +kernel))
theorem dX11_search_36 : decode cX11_search 36 = .ok (.istore 7, 2) := dc_54 (byA eNcX11_search (p := 36) (v := 54) (by decide +kernel)) (byA eNcX11_search (p := 37) (v := 7) (by decide +kernel))
theorem dX11_search_38 : decode cX11_search 38 = .ok (.iload 7, 2) := dc_21 (byA eNcX11_search (p := 38) (v := 21) (by decide +kernel)) (byA eNcX11_search (p := 39) (v := 7) (by decide +kernel))
theorem dX11_search_40 : decode cX11_search 40 = .ok (.aload_n 0, 1) := dc_42 (byA eNcX11_search (p := 40) (v := 42) (by decide +kernel))
theorem dX11_search_41 : decode cX11_search 41 = .ok (.getfield 316, 3) := dc_180 (byA eNcX11_search (p := 41) (v := 180) (by decide +kernel)) (byA eNcX11_search (p := 42) (v := 1) (by decide +kernel)) (byA eNcX11_search (p := 43) (v := 60) (by decide +kernel)) rfl
theorem dX11_search_44 : decode cX11_search 44 = .ok (.if_icmp .ge 153, 3) := dc_162 (byA eNcX11_search (p := 44) (v := 162) (by decide +kernel)) (byA eNcX11_search (p := 45) (v := 0) (by decide +kernel)) (byA eNcX11_search (p := 46) (v := 153) (by decide +kernel)) (by decide +kernel)
theorem dX11_search_47 : decode cX11_search 47 = .ok (.iload_n 2, 1) := dc_28 (byA eNcX11_search (p := 47) (v := 28) (by decide +kernel))
theorem dX11_search_48 : decode cX11_search 48 = .ok (.iload 7, 2) := dc_21 (byA eNcX11_search (p := 48) (v := 21) (by decide +kernel)) (byA eNcX11_search (p := 49) (v := 7) (by decide +kernel))
theorem dX11_search_50 : decode cX11_search 50 = .ok (.invokestatic 227, 3) := dc_184 (byA eNcX11_search (p := 50) (v := 184) (by decide +kernel)) (byA eNcX11_search (p := 51) (v := 0) (by decide +kernel)) (byA eNcX11_search (p := 52) (v := 227) (by decide +kernel)) rfl
theorem dX11_search_53 : decode cX11_search 53 = .ok (.ifCond .eq 18, 3) := dc_153 (byA eNcX11_search (p := 53) (v := 153) (by decide +kernel)) (byA eNcX11_search (p := 54) (v := 0) (by decide +kernel)) (byA eNcX11_search (p := 55) (v := 18) (by decide +kernel)) (by decide +kernel)
theorem dX11_search_56 : decode cX11_search 56 = .ok (.aload_n 0, 1) := dc_42 (byA eNcX11_search (p := 56) (v := 42) (by decide +kernel))
theorem dX11_search_57 : decode cX11_search 57 = .ok (.getfield 71, 3) := dc_180 (byA eNcX11_search (p := 57) (v := 180) (by decide +kernel)) (byA eNcX11_search (p := 58) (v := 0) (by decide +kernel)) (byA eNcX11_search (p := 59) (v := 71) (by decide +kernel)) rfl
theorem dX11_search_60 : decode cX11_search 60 = .ok (.bipush 8, 2) := dc_16 (byA eNcX11_search (p := 60) (v := 16) (by decide +kernel)) (byA eNcX11_search (p := 61) (v := 8) (by decide +kernel)) (by decide +kernel)
theorem dX11_search_62 : decode cX11_search 62 = .ok (.iload_n 3, 1) := dc_29 (byA eNcX11_search (p := 62) (v := 29) (by decide +kernel))
theorem dX11_search_63 : decode cX11_search 63 = .ok (.imul, 1) := dc_104 (byA eNcX11_search (p := 63) (v := 104) (by decide +kernel))
theorem dX11_search_64 : decode cX11_search 64 = .ok (.iload 7, 2) := dc_21 (byA eNcX11_search (p := 64) (v := 21) (by decide +kernel)) (byA eNcX11_search (p := 65) (v := 7) (by decide +kernel))
theorem dX11_search_66 : decode cX11_search 66 = .ok (.iadd, 1) := dc_96 (byA eNcX11_search (p := 66) (v := 96) (by decide +kernel))
theorem dX11_search_67 : decode cX11_search 67 = .ok (.iaload, 1) := dc_46 (byA eNcX11_search (p := 67) (v := 46) (by decide +kernel))
theorem dX11_search_68 : decode cX11_search 68 = .ok (.goto 4, 3) := dc_167 (byA eNcX11_search (p := 68) (v := 167) (by decide +kernel)) (byA eNcX11_search (p := 69) (v := 0) (by decide +kernel)) (byA eNcX11_search (p := 70) (v := 4) (by decide +kernel)) (by decide +kernel)
theorem dX11_search_71 : decode cX11_search 71 = .ok (.iconst (-1), 1) := dc_2 (byA eNcX11_search (p := 71) (v := 2) (by decide +kernel))
theorem dX11_search_72 : decode cX11_search 72 = .ok (.istore 8, 2) := dc_54 (byA eNcX11_search (p := 72) (v := 54) (by decide +kernel)) (byA eNcX11_search (p := 73) (v := 8) (by decide +kernel))
theorem dX11_search_74 : decode cX11_search 74 = .ok (.iload 8, 2) := dc_21 (byA eNcX11_search (p := 74) (v := 21) (by decide +kernel)) (byA eNcX11_search (p := 75) (v := 8) (by decide +kernel))
theorem dX11_search_76 : decode cX11_search 76 = .ok (.iconst (-1), 1) := dc_2 (byA eNcX11_search (p := 76) (v := 2) (by decide +kernel))
theorem dX11_search_77 : decode cX11_search 77 = .ok (.if_icmp .eq 114, 3) := dc_159 (byA eNcX11_search (p := 77) (v := 159) (by decide +kernel)) (byA eNcX11_search (p := 78) (v := 0) (by decide +kernel)) (byA eNcX11_search (p := 79) (v := 114) (by decide +kernel)) (by decide +kernel)
theorem dX11_search_80 : decode cX11_search 80 = .ok (.iload 4, 2) := dc_21 (byA eNcX11_search (p := 80) (v := 21) (by decide +kernel)) (byA eNcX11_search (p := 81) (v := 4) (by decide +kernel))
theorem dX11_search_82 : decode cX11_search 82 = .ok (.iload 8, 2) := dc_21 (byA eNcX11_search (p := 82) (v := 21) (by decide +kernel)) (byA eNcX11_search (p := 83) (v := 8) (by decide +kernel))
theorem dX11_search_84 : decode cX11_search 84 = .ok (.aload_n 0, 1) := dc_42 (byA eNcX11_search (p := 84) (v := 42) (by decide +kernel))
theorem dX11_search_85 : decode cX11_search 85 = .ok (.getfield 319, 3) := dc_180 (byA eNcX11_search (p := 85) (v := 180) (by decide +kernel)) (byA eNcX11_search (p := 86) (v := 1) (by decide +kernel)) (byA eNcX11_search (p := 87) (v := 63) (by decide +kernel)) rfl
theorem dX11_search_88 : decode cX11_search 88 = .ok (.imul, 1) := dc_104 (byA eNcX11_search (p := 88) (v := 104) (by decide +kernel))
theorem dX11_search_89 : decode cX11_search 89 = .ok (.iadd, 1) := dc_96 (byA eNcX11_search (p := 89) (v := 96) (by decide +kernel))
theorem dX11_search_90 : decode cX11_search 90 = .ok (.aload_n 0, 1) := dc_42 (byA eNcX11_search (p := 90) (v := 42) (by decide +kernel))
theorem dX11_search_91 : decode cX11_search 91 = .ok (.getfield 74, 3) := dc_180 (byA eNcX11_search (p := 91) (v := 180) (by decide +kernel)) (byA eNcX11_search (p := 92) (v := 0) (by decide +kernel)) (byA eNcX11_search (p := 93) (v := 74) (by decide +kernel)) rfl
theorem dX11_search_94 : decode cX11_search 94 = .ok (.iload 7, 2) := dc_21 (byA eNcX11_search (p := 94) (v := 21) (by decide +kernel)) (byA eNcX11_search (p := 95) (v := 7) (by decide +kernel))
theorem dX11_search_96 : decode cX11_search 96 = .ok (.iaload, 1) := dc_46 (byA eNcX11_search (p := 96) (v := 46) (by decide +kernel))
theorem dX11_search_97 : decode cX11_search 97 = .ok (.iadd, 1) := dc_96 (byA eNcX11_search (p := 97) (v := 96) (by decide +kernel))
theorem dX11_search_98 : decode cX11_search 98 = .ok (.aload_n 0, 1) := dc_42 (byA eNcX11_search (p := 98) (v := 42) (by decide +kernel))
theorem dX11_search_99 : decode cX11_search 99 = .ok (.getfield 68, 3) := dc_180 (byA eNcX11_search (p := 99) (v := 180) (by decide +kernel)) (byA eNcX11_search (p := 100) (v := 0) (by decide +kernel)) (byA eNcX11_search (p := 101) (v := 68) (by decide +kernel)) rfl
theorem dX11_search_102 : decode cX11_search 102 = .ok (.iload 7, 2) := dc_21 (byA eNcX11_search (p := 102) (v := 21) (by decide +kernel)) (byA eNcX11_search (p := 103) (v := 7) (by decide +kernel))
theorem dX11_search_104 : decode cX11_search 104 = .ok (.iaload, 1) := dc_46 (byA eNcX11_search (p := 104) (v := 46) (by decide +kernel))
theorem dX11_search_105 : decode cX11_search 105 = .ok (.invokestatic 302, 3) := dc_184 (byA eNcX11_search (p := 105) (v := 184) (by decide +kernel)) (byA eNcX11_search (p := 106) (v := 1) (by decide +kernel)) (byA eNcX11_search (p := 107) (v := 46) (by decide +kernel)) rfl
theorem dX11_search_108 : decode cX11_search 108 = .ok (.istore 9, 2) := dc_54 (byA eNcX11_search (p := 108) (v := 54) (by decide +kernel)) (byA eNcX11_search (p := 109) (v := 9) (by decide +kernel))
theorem dX11_search_110 : decode cX11_search 110 = .ok (.iload 9, 2) := dc_21 (byA eNcX11_search (p := 110) (v := 21) (by decide +kernel)) (byA eNcX11_search (p := 111) (v := 9) (by decide +kernel))
theorem dX11_search_112 : decode cX11_search 112 = .ok (.aload_n 0, 1) := dc_42 (byA eNcX11_search (p := 112) (v := 42) (by decide +kernel))
theorem dX11_search_113 : decode cX11_search 113 = .ok (.getfield 68, 3) := dc_180 (byA eNcX11_search (p := 113) (v := 180) (by decide +kernel)) (byA eNcX11_search (p := 114) (v := 0) (by decide +kernel)) (byA eNcX11_search (p := 115) (v := 68) (by decide +kernel)) rfl
theorem dX11_search_116 : decode cX11_search 116 = .ok (.iload 7, 2) := dc_21 (byA eNcX11_search (p := 116) (v := 21) (by decide +kernel)) (byA eNcX11_search (p := 117) (v := 7) (by decide +kernel))
theorem dX11_search_118 : decode cX11_search 118 = .ok (.iaload, 1) := dc_46 (byA eNcX11_search (p := 118) (v := 46) (by decide +kernel))
theorem dX11_search_119 : decode cX11_search 119 = .ok (.isub, 1) := dc_100 (byA eNcX11_search (p := 119) (v := 100) (by decide +kernel))
theorem dX11_search_120 : decode cX11_search 120 = .ok (.istore 10, 2) := dc_54 (byA eNcX11_search (p := 120) (v := 54) (by decide +kernel)) (byA eNcX11_search (p := 121) (v := 10) (by decide +kernel))
theorem dX11_search_122 : decode cX11_search 122 = .ok (.iload_n 1, 1) := dc_27 (byA eNcX11_search (p := 122) (v := 27) (by decide +kernel))
theorem dX11_search_123 : decode cX11_search 123 = .ok (.ifCond .ne 11, 3) := dc_154 (byA eNcX11_search (p := 123) (v := 154) (by decide +kernel)) (byA eNcX11_search (p := 124) (v := 0) (by decide +kernel)) (byA eNcX11_search (p := 125) (v := 11) (by decide +kernel)) (by decide +kernel)
theorem dX11_search_126 : decode cX11_search 126 = .ok (.iload 5, 2) := dc_21 (byA eNcX11_search (p := 126) (v := 21) (by decide +kernel)) (byA eNcX11_search (p := 127) (v := 5) (by decide +kernel))
theorem dX11_search_128 : decode cX11_search 128 = .ok (.iload 10, 2) := dc_21 (byA eNcX11_search (p := 128) (v := 21) (by decide +kernel)) (byA eNcX11_search (p := 129) (v := 10) (by decide +kernel))
theorem dX11_search_130 : decode cX11_search 130 = .ok (.iadd, 1) := dc_96 (byA eNcX11_search (p := 130) (v := 96) (by decide +kernel))
theorem dX11_search_131 : decode cX11_search 131 = .ok (.goto 31, 3) := dc_167 (byA eNcX11_search (p := 131) (v := 167) (by decide +kernel)) (byA eNcX11_search (p := 132) (v := 0) (by decide +kernel)) (byA eNcX11_search (p := 133) (v := 31) (by decide +kernel)) (by decide +kernel)
theorem dX11_search_134 : decode cX11_search 134 = .ok (.iload_n 1, 1) := dc_27 (byA eNcX11_search (p := 134) (v := 27) (by decide +kernel))
theorem dX11_search_135 : decode cX11_search 135 = .ok (.iconst 1, 1) := dc_4 (byA eNcX11_search (p := 135) (v := 4) (by decide +kernel))
theorem dX11_search_136 : decode cX11_search 136 = .ok (.if_icmp .ne 13, 3) := dc_160 (byA eNcX11_search (p := 136) (v := 160) (by decide +kernel)) (byA eNcX11_search (p := 137) (v := 0) (by decide +kernel)) (byA eNcX11_search (p := 138) (v := 13) (by decide +kernel)) (by decide +kernel)
theorem dX11_search_139 : decode cX11_search 139 = .ok (.iload 5, 2) := dc_21 (byA eNcX11_search (p := 139) (v := 21) (by decide +kernel)) (byA eNcX11_search (p := 140) (v := 5) (by decide +kernel))
theorem dX11_search_141 : decode cX11_search 141 = .ok (.iload 10, 2) := dc_21 (byA eNcX11_search (p := 141) (v := 21) (by decide +kernel)) (byA eNcX11_search (p := 142) (v := 10) (by decide +kernel))
theorem dX11_search_143 : decode cX11_search 143 = .ok (.invokestatic 302, 3) := dc_184 (byA eNcX11_search (p := 143) (v := 184) (by decide +kernel)) (byA eNcX11_search (p := 144) (v := 1) (by decide +kernel)) (byA eNcX11_search (p := 145) (v := 46) (by decide +kernel)) rfl
theorem dX11_search_146 : decode cX11_search 146 = .ok (.goto 16, 3) := dc_167 (byA eNcX11_search (p := 146) (v := 167) (by decide +kernel)) (byA eNcX11_search (p := 147) (v := 0) (by decide +kernel)) (byA eNcX11_search (p := 148) (v := 16) (by decide +kernel)) (by decide +kernel)
theorem dX11_search_149 : decode cX11_search 149 = .ok (.iload 5, 2) := dc_21 (byA eNcX11_search (p := 149) (v := 21) (by decide +kernel)) (byA eNcX11_search (p := 150) (v := 5) (by decide +kernel))
theorem dX11_search_151 : decode cX11_search 151 = .ok (.iload 10, 2) := dc_21 (byA eNcX11_search (p := 151) (v := 21) (by decide +kernel)) (byA eNcX11_search (p := 152) (v := 10) (by decide +kernel))
theorem dX11_search_153 : decode cX11_search 153 = .ok (.ifCond .le 7, 3) := dc_158 (byA eNcX11_search (p := 153) (v := 158) (by decide +kernel)) (byA eNcX11_search (p := 154) (v := 0) (by decide +kernel)) (byA eNcX11_search (p := 155) (v := 7) (by decide +kernel)) (by decide +kernel)
theorem dX11_search_156 : decode cX11_search 156 = .ok (.iconst 1, 1) := dc_4 (byA eNcX11_search (p := 156) (v := 4) (by decide +kernel))
theorem dX11_search_157 : decode cX11_search 157 = .ok (.goto 4, 3) := dc_167 (byA eNcX11_search (p := 157) (v := 167) (by decide +kernel)) (byA eNcX11_search (p := 158) (v := 0) (by decide +kernel)) (byA eNcX11_search (p := 159) (v := 4) (by decide +kernel)) (by decide +kernel)
theorem dX11_search_160 : decode cX11_search 160 = .ok (.iconst 0, 1) := dc_3 (byA eNcX11_search (p := 160) (v := 3) (by decide +kernel))
theorem dX11_search_161 : decode cX11_search 161 = .ok (.iadd, 1) := dc_96 (byA eNcX11_search (p := 161) (v := 96) (by decide +kernel))
theorem dX11_search_162 : decode cX11_search 162 = .ok (.istore 11, 2) := dc_54 (byA eNcX11_search (p := 162) (v := 54) (by decide +kernel)) (byA eNcX11_search (p := 163) (v := 11) (by decide +kernel))
theorem dX11_search_164 : decode cX11_search 164 = .ok (.aload_n 0, 1) := dc_42 (byA eNcX11_search (p := 164) (v := 42) (by decide +kernel))
theorem dX11_search_165 : decode cX11_search 165 = .ok (.iload_n 1, 1) := dc_27 (byA eNcX11_search (p := 165) (v := 27) (by decide +kernel))
theorem dX11_search_166 : decode cX11_search 166 = .ok (.iload_n 2, 1) := dc_28 (byA eNcX11_search (p := 166) (v := 28) (by decide +kernel))
theorem dX11_search_167 : decode cX11_search 167 = .ok (.iconst 1, 1) := dc_4 (byA eNcX11_search (p := 167) (v := 4) (by decide +kernel))
theorem dX11_search_168 : decode cX11_search 168 = .ok (.iload 7, 2) := dc_21 (byA eNcX11_search (p := 168) (v := 21) (by decide +kernel)) (byA eNcX11_search (p := 169) (v := 7) (by decide +kernel))
theorem dX11_search_170 : decode cX11_search 170 = .ok (.ishl, 1) := dc_120 (byA eNcX11_search (p := 170) (v := 120) (by decide +kernel))
theorem dX11_search_171 : decode cX11_search 171 = .ok (.iconst (-1), 1) := dc_2 (byA eNcX11_search (p := 171) (v := 2) (by decide +kernel))
theorem dX11_search_172 : decode cX11_search 172 = .ok (.ixor, 1) := dc_130 (byA eNcX11_search (p := 172) (v := 130) (by decide +kernel))
theorem dX11_search_173 : decode cX11_search 173 = .ok (.iand, 1) := dc_126 (byA eNcX11_search (p := 173) (v := 126) (by decide +kernel))
theorem dX11_search_174 : decode cX11_search 174 = .ok (.iload 7, 2) := dc_21 (byA eNcX11_search (p := 174) (v := 21) (by decide +kernel)) (byA eNcX11_search (p := 175) (v := 7) (by decide +kernel))
theorem dX11_search_176 : decode cX11_search 176 = .ok (.iload 9, 2) := dc_21 (byA eNcX11_search (p := 176) (v := 21) (by decide +kernel)) (byA eNcX11_search (p := 177) (v := 9) (by decide +kernel))
theorem dX11_search_178 : decode cX11_search 178 = .ok (.iload 11, 2) := dc_21 (byA eNcX11_search (p := 178) (v := 21) (by decide +kernel)) (byA eNcX11_search (p := 179) (v := 11) (by decide +kernel))
theorem dX11_search_180 : decode cX11_search 180 = .ok (.bipush 10, 2) := dc_16 (byA eNcX11_search (p := 180) (v := 16) (by decide +kernel)) (byA eNcX11_search (p := 181) (v := 10) (by decide +kernel)) (by decide +kernel)
theorem dX11_search_182 : decode cX11_search 182 = .ok (.iload 6, 2) := dc_21 (byA eNcX11_search (p := 182) (v := 21) (by decide +kernel)) (byA eNcX11_search (p := 183) (v := 6) (by decide +kernel))
theorem dX11_search_184 : decode cX11_search 184 = .ok (.imul, 1) := dc_104 (byA eNcX11_search (p := 184) (v := 104) (by decide +kernel))
theorem dX11_search_185 : decode cX11_search 185 = .ok (.iload 7, 2) := dc_21 (byA eNcX11_search (p := 185) (v := 21) (by decide +kernel)) (byA eNcX11_search (p := 186) (v := 7) (by decide +kernel))
theorem dX11_search_187 : decode cX11_search 187 = .ok (.iadd, 1) := dc_96 (byA eNcX11_search (p := 187) (v := 96) (by decide +kernel))
theorem dX11_search_188 : decode cX11_search 188 = .ok (.invokevirtual 353, 3) := dc_182 (byA eNcX11_search (p := 188) (v := 182) (by decide +kernel)) (byA eNcX11_search (p := 189) (v := 1) (by decide +kernel)) (byA eNcX11_search (p := 190) (v := 97) (by decide +kernel)) rfl
theorem dX11_search_191 : decode cX11_search 191 = .ok (.iinc 7 1, 3) := dc_132 (byA eNcX11_search (p := 191) (v := 132) (by decide +kernel)) (byA eNcX11_search (p := 192) (v := 7) (by decide +kernel)) (byA eNcX11_search (p := 193) (v := 1) (by decide +kernel)) (by decide +kernel)
theorem dX11_search_194 : decode cX11_search 194 = .ok (.goto (-156), 3) := dc_167 (byA eNcX11_search (p := 194) (v := 167) (by decide +kernel)) (byA eNcX11_search (p := 195) (v := 255) (by decide +kernel)) (byA eNcX11_search (p := 196) (v := 100) (by decide +kernel)) (by decide +kernel)
theorem dX11_search_197 : decode cX11_search 197 = .ok (.return_, 1) := dc_177 (byA eNcX11_search (p := 197) (v := 177) (by decide +kernel))
def X11_search_J162 (rec : Int → Int → Int → Int → Int → Int → Mm → Rs) (k38 : Int → Mm → Rs) (l1 : Int) (l2 : Int) (l3 : Int) (l4 : Int) (l5 : Int) (l6 : Int) (l7 : Int) (l9 : Int) (s0 : Int) (μ : Mm) : Rs := bd (rec l1 (bA l2 (bX (bL 1 l7) (-1))) l7 l9 s0 (iA (iM 10 l6) l7) μ) fun v19 μ20 => k38 (iA l7 1) μ20
def X11_search_J161 (rec : Int → Int → Int → Int → Int → Int → Mm → Rs) (k38 : Int → Mm → Rs) (l1 : Int) (l2 : Int) (l3 : Int) (l4 : Int) (l5 : Int) (l6 : Int) (l7 : Int) (l9 : Int) (s0 : Int) (s1 : Int) (μ : Mm) : Rs := X11_search_J162 rec (fun w7 μq => k38 w7 μq) l1 l2 l3 l4 l5 l6 l7 l9 (iA s0 s1) μ
def X11_search_J72 (rec : Int → Int → Int → Int → Int → Int → Mm → Rs) (k38 : Int → Mm → Rs) (l1 : Int) (l2 : Int) (l3 : Int) (l4 : Int) (l5 : Int) (l6 : Int) (l7 : Int) (s0 : Int) (μ : Mm) : Rs := if s0 = (-1) then (k38 (iA l7 1) μ) else (ldA μ 90 l7 fun v9 => ldA μ 88 l7 fun v11 => lt_ (mX (iA (iA l4 (iM s0 (μ 70 38))) v9) v11) fun v13 => ldA μ 88 l7 fun v14 => if l1 = 0 then (X11_search_J162 rec (fun w7 μq => k38 w7 μq) l1 l2 l3 l4 l5 l6 l7 v13 (iA l5 (iS v13 v14)) μ) else (if l1 = 1 then (X11_search_J162 rec (fun w7 μq => k38 w7 μq) l1 l2 l3 l4 l5 l6 l7 v13 (mX l5 (iS v13 v14)) μ) else (if (iS v13 v14) ≤ 0 then (X11_search_J161 rec (fun w7 μq => k38 w7 μq) l1 l2 l3 l4 l5 l6 l7 v13 l5 0 μ) else (X11_search_J161 rec (fun w7 μq => k38 w7 μq) l1 l2 l3 l4 l5 l6 l7 v13 l5 1 μ))))
def X11_search_L38 (rec : Int → Int → Int → Int → Int → Int → Mm → Rs) (l1 : Int) (l2 : Int) (l3 : Int) (l4 : Int) (l5 : Int) (l6 : Int) : Nat → Int → Mm → Rs
  | 0, _, _ => none
  | n + 1, l7, μ => if (μ 70 37) ≤ l7 then (some (0, μ)) else (bd (X11_has l2 l7 μ) fun v4 μ5 => if v4 = 0 then (X11_search_J72 rec (fun w7 μq => X11_search_L38 rec l1 l2 l3 l4 l5 l6 n w7 μq) l1 l2 l3 l4 l5 l6 l7 (-1) μ5) else (ldA μ5 89 (iA (iM 8 l3) l7) fun v22 => X11_search_J72 rec (fun w7 μq => X11_search_L38 rec l1 l2 l3 l4 l5 l6 n w7 μq) l1 l2 l3 l4 l5 l6 l7 v22 μ5))
def X11_search_J18 (rec : Int → Int → Int → Int → Int → Int → Mm → Rs) (l1 : Int) (l2 : Int) (l3 : Int) (l4 : Int) (l5 : Int) (l6 : Int) (μ : Mm) : Rs := if l2 = 0 then (sF μ 70 41 l6 fun μ24 => sF μ24 70 42 l5 fun μ25 => some (0, μ25)) else (X11_search_L38 rec l1 l2 l3 l4 l5 l6 FU 0 μ)
def X11_search : Nat → Int → Int → Int → Int → Int → Int → Mm → Rs
  | 0, _, _, _, _, _, _, _ => none
  | n + 1, l1, l2, l3, l4, l5, l6, μ => if (μ 70 41) = (-1) then (X11_search_J18 (fun w0 w1 w2 w3 w4 w5 μq => X11_search n w0 w1 w2 w3 w4 w5 μq) l1 l2 l3 l4 l5 l6 μ) else (if l5 < (μ 70 42) then (X11_search_J18 (fun w0 w1 w2 w3 w4 w5 μq => X11_search n w0 w1 w2 w3 w4 w5 μq) l1 l2 l3 l4 l5 l6 μ) else (some (0, μ)))
set_option maxHeartbeats 4000000 in
set_option maxRecDepth 100000 in
theorem kX11_search_J162 (d : Nat) {d0 : Nat} (hd : d0 + 9 ≤ d) (hb : 11 ≤ d) {rec : Int → Int → Int → Int → Int → Int → Mm → Rs} (hrec : ∀ {q1 : Int} {q2 : Int} {q3 : Int} {q4 : Int} {q5 : Int} {q6 : Int} {μ1 : Mm} {r1 : Int} {μ2 : Mm}, rec q1 q2 q3 q4 q5 q6 μ1 = some (r1, μ2) → CC d0 mX11_search [vR 70, vI q1, vI q2, vI q3, vI q4, vI q5, vI q6] μ1 r1 μ2) {k38 : Int → Mm → Rs} {l1 : Int} {l2 : Int} {l3 : Int} {l4 : Int} {l5 : Int} {l6 : Int} {l7 : Int} {l9 : Int} {s0 : Int} {μ : Mm} {r : Int} {μ' : Mm} (hk_38 : ∀ (v7 : Int) (μ1 : Mm), k38 v7 μ1 = some (r, μ') → VV d mX11_search 38 [some (vR 70), some (vI l1), some (vI l2), some (vI l3), some (vI l4), some (vI l5), some (vI l6), some (vI v7), none, none, none, none] [] μ1 r μ') (h : X11_search_J162 rec k38 l1 l2 l3 l4 l5 l6 l7 l9 s0 μ = some (r, μ')) : VV d mX11_search 162 [some (vR 70), some (vI l1), some (vI l2), some (vI l3), some (vI l4), some (vI l5), some (vI l6), some (vI l7), none, some (vI l9), none, none] [vI s0] μ r μ' := by
  unfold X11_search_J162 at h
  refine V_istore (q := 164) dX11_search_162 (Nat.le_of_ble_eq_true rfl) trivial rfl ?_
  refine V_aload_n (q := 165) dX11_search_164 rfl rfl rfl ?_
  refine V_iload_n (q := 166) dX11_search_165 rfl rfl rfl ?_
  refine V_iload_n (q := 167) dX11_search_166 rfl rfl rfl ?_
  refine V_iconst (q := 168) dX11_search_167 rfl rfl ?_
  refine V_iload (q := 170) dX11_search_168 rfl rfl ?_
  refine V_ishl (q := 171) dX11_search_170 rfl ?_
  refine V_iconst (q := 172) dX11_search_171 rfl rfl ?_
  refine V_ixor (q := 173) dX11_search_172 rfl ?_
  refine V_iand (q := 174) dX11_search_173 rfl ?_
  refine V_iload (q := 176) dX11_search_174 rfl rfl ?_
  refine V_iload (q := 178) dX11_search_176 rfl rfl ?_
  refine V_iload (q := 180) dX11_search_178 rfl rfl ?_
  refine V_bipush (q := 182) dX11_search_180 rfl rfl rfl ?_
  refine V_iload (q := 184) dX11_search_182 rfl rfl ?_
  refine V_imul (q := 185) dX11_search_184 rfl ?_
  refine V_iload (q := 187) dX11_search_185 rfl rfl ?_
  refine V_iadd (q := 188) dX11_search_187 rfl ?_
  obtain ⟨v19, μ20, hc21, h⟩ := bd_i h
  refine V_cV0 (q := 191) (hrec hc21) (by omega) mv_X11_353 rfl rfl rfl rfl rfl rfl dX11_search_188 rfl ?_
  refine V_iinc (q := 194) dX11_search_191 rfl (Nat.le_of_ble_eq_true rfl) trivial rfl ?_
  refine V_goto (q := 38) dX11_search_194 (by decide) ?_
  exact V_weak (hk_38 _ _ h) (sb_s rfl (sb_s rfl (sb_s rfl (sb_s rfl (sb_s rfl (sb_s rfl (sb_s rfl (sb_s rfl (sb_n (sb_n (sb_n (sb_n sb_0))))))))))))
set_option maxHeartbeats 4000000 in
set_option maxRecDepth 100000 in
theorem kX11_search_J161 (d : Nat) {d0 : Nat} (hd : d0 + 9 ≤ d) (hb : 11 ≤ d) {rec : Int → Int → Int → Int → Int → Int → Mm → Rs} (hrec : ∀ {q1 : Int} {q2 : Int} {q3 : Int} {q4 : Int} {q5 : Int} {q6 : Int} {μ1 : Mm} {r1 : Int} {μ2 : Mm}, rec q1 q2 q3 q4 q5 q6 μ1 = some (r1, μ2) → CC d0 mX11_search [vR 70, vI q1, vI q2, vI q3, vI q4, vI q5, vI q6] μ1 r1 μ2) {k38 : Int → Mm → Rs} {l1 : Int} {l2 : Int} {l3 : Int} {l4 : Int} {l5 : Int} {l6 : Int} {l7 : Int} {l9 : Int} {s0 : Int} {s1 : Int} {μ : Mm} {r : Int} {μ' : Mm} (hk_38 : ∀ (v7 : Int) (μ1 : Mm), k38 v7 μ1 = some (r, μ') → VV d mX11_search 38 [some (vR 70), some (vI l1), some (vI l2), some (vI l3), some (vI l4), some (vI l5), some (vI l6), some (vI v7), none, none, none, none] [] μ1 r μ') (h : X11_search_J161 rec k38 l1 l2 l3 l4 l5 l6 l7 l9 s0 s1 μ = some (r, μ')) : VV d mX11_search 161 [some (vR 70), some (vI l1), some (vI l2), some (vI l3), some (vI l4), some (vI l5), some (vI l6), some (vI l7), none, some (vI l9), none, none] [vI s1, vI s0] μ r μ' := by
  unfold X11_search_J161 at h
  refine V_iadd (q := 162) dX11_search_161 rfl ?_
  exact V_weak (kX11_search_J162 d hd hb hrec (fun _ _ h => hk_38 _ _ h) h) (sb_s rfl (sb_s rfl (sb_s rfl (sb_s rfl (sb_s rfl (sb_s rfl (sb_s rfl (sb_s rfl (sb_n (sb_s rfl (sb_n (sb_n sb_0))))))))))))
set_option maxHeartbeats 4000000 in
set_option maxRecDepth 100000 in
theorem kX11_search_J72 (d : Nat) {d0 : Nat} (hd : d0 + 9 ≤ d) (hb : 11 ≤ d) {rec : Int → Int → Int → Int → Int → Int → Mm → Rs} (hrec : ∀ {q1 : Int} {q2 : Int} {q3 : Int} {q4 : Int} {q5 : Int} {q6 : Int} {μ1 : Mm} {r1 : Int} {μ2 : Mm}, rec q1 q2 q3 q4 q5 q6 μ1 = some (r1, μ2) → CC d0 mX11_search [vR 70, vI q1, vI q2, vI q3, vI q4, vI q5, vI q6] μ1 r1 μ2) {k38 : Int → Mm → Rs} {l1 : Int} {l2 : Int} {l3 : Int} {l4 : Int} {l5 : Int} {l6 : Int} {l7 : Int} {s0 : Int} {μ : Mm} {r : Int} {μ' : Mm} (hk_38 : ∀ (v7 : Int) (μ1 : Mm), k38 v7 μ1 = some (r, μ') → VV d mX11_search 38 [some (vR 70), some (vI l1), some (vI l2), some (vI l3), some (vI l4), some (vI l5), some (vI l6), some (vI v7), none, none, none, none] [] μ1 r μ') (h : X11_search_J72 rec k38 l1 l2 l3 l4 l5 l6 l7 s0 μ = some (r, μ')) : VV d mX11_search 72 [some (vR 70), some (vI l1), some (vI l2), some (vI l3), some (vI l4), some (vI l5), some (vI l6), some (vI l7), none, none, none, none] [vI s0] μ r μ' := by
  unfold X11_search_J72 at h
  refine V_istore (q := 74) dX11_search_72 (Nat.le_of_ble_eq_true rfl) trivial rfl ?_
  refine V_iload (q := 76) dX11_search_74 rfl rfl ?_
  refine V_iconst (q := 77) dX11_search_76 rfl rfl ?_
  refine V_icmpeq (q := 191) (q2 := 80) dX11_search_77 (by decide) rfl (fun hc8 => ?_) (fun hc8 => ?_)
  · have h := ifT hc8 h
    refine V_iinc (q := 194) dX11_search_191 rfl (Nat.le_of_ble_eq_true rfl) trivial rfl ?_
    refine V_goto (q := 38) dX11_search_194 (by decide) ?_
    exact V_weak (hk_38 _ _ h) (sb_s rfl (sb_s rfl (sb_s rfl (sb_s rfl (sb_s rfl (sb_s rfl (sb_s rfl (sb_s rfl (sb_n (sb_n (sb_n (sb_n sb_0))))))))))))
  · have h := ifF hc8 h
    refine V_iload (q := 82) dX11_search_80 rfl rfl ?_
    refine V_iload (q := 84) dX11_search_82 rfl rfl ?_
    refine V_aload_n (q := 85) dX11_search_84 rfl rfl rfl ?_
    refine V_getI (q := 88) fl_X11_319 rfl rfl rfl dX11_search_85 rfl ?_
    refine V_imul (q := 89) dX11_search_88 rfl ?_
    refine V_iadd (q := 90) dX11_search_89 rfl ?_
    refine V_aload_n (q := 91) dX11_search_90 rfl rfl rfl ?_
    refine V_getO (q := 94) (t := 90) fl_X11_74 rfl rfl rfl rfl dX11_search_91 rfl ?_
    refine V_iload (q := 96) dX11_search_94 rfl rfl ?_
    obtain ⟨hi10, h⟩ := ldA_i h
    refine V_iaload (q := 97) rfl hi10 dX11_search_96 rfl ?_
    refine V_iadd (q := 98) dX11_search_97 rfl ?_
    refine V_aload_n (q := 99) dX11_search_98 rfl rfl rfl ?_
    refine V_getO (q := 102) (t := 88) fl_X11_68 rfl rfl rfl rfl dX11_search_99 rfl ?_
    refine V_iload (q := 104) dX11_search_102 rfl rfl ?_
    obtain ⟨hi12, h⟩ := ldA_i h
    refine V_iaload (q := 105) rfl hi12 dX11_search_104 rfl ?_
    refine V_mmax (q := 108) mx_X11_302 (by omega) rfl dX11_search_105 rfl ?_
    have h := lt_i h
    refine V_istore (q := 110) dX11_search_108 (Nat.le_of_ble_eq_true rfl) trivial rfl ?_
    refine V_iload (q := 112) dX11_search_110 rfl rfl ?_
    refine V_aload_n (q := 113) dX11_search_112 rfl rfl rfl ?_
    refine V_getO (q := 116) (t := 88) fl_X11_68 rfl rfl rfl rfl dX11_search_113 rfl ?_
    refine V_iload (q := 118) dX11_search_116 rfl rfl ?_
    obtain ⟨hi15, h⟩ := ldA_i h
    refine V_iaload (q := 119) rfl hi15 dX11_search_118 rfl ?_
    refine V_isub (q := 120) dX11_search_119 rfl ?_
    refine V_istore (q := 122) dX11_search_120 (Nat.le_of_ble_eq_true rfl) trivial rfl ?_
    refine V_iload_n (q := 123) dX11_search_122 rfl rfl rfl ?_
    refine V_ifne (q := 134) (q2 := 126) dX11_search_123 (by decide) rfl (fun hc16 => ?_) (fun hc16 => ?_)
    · have h := ifF hc16 h
      refine V_iload_n (q := 135) dX11_search_134 rfl rfl rfl ?_
      refine V_iconst (q := 136) dX11_search_135 rfl rfl ?_
      refine V_icmpne (q := 149) (q2 := 139) dX11_search_136 (by decide) rfl (fun hc17 => ?_) (fun hc17 => ?_)
      · have h := ifF hc17 h
        refine V_iload (q := 151) dX11_search_149 rfl rfl ?_
        refine V_iload (q := 153) dX11_search_151 rfl rfl ?_
        refine V_ifle (q := 160) (q2 := 156) dX11_search_153 (by decide) rfl (fun hc18 => ?_) (fun hc18 => ?_)
        · have h := ifT hc18 h
          refine V_iconst (q := 161) dX11_search_160 rfl rfl ?_
          exact V_weak (kX11_search_J161 d hd hb hrec (fun _ _ h => hk_38 _ _ h) h) (sb_s rfl (sb_s rfl (sb_s rfl (sb_s rfl (sb_s rfl (sb_s rfl (sb_s rfl (sb_s rfl (sb_n (sb_s rfl (sb_n (sb_n sb_0))))))))))))
        · have h := ifF hc18 h
          refine V_iconst (q := 157) dX11_search_156 rfl rfl ?_
          refine V_goto (q := 161) dX11_search_157 (by decide) ?_
          exact V_weak (kX11_search_J161 d hd hb hrec (fun _ _ h => hk_38 _ _ h) h) (sb_s rfl (sb_s rfl (sb_s rfl (sb_s rfl (sb_s rfl (sb_s rfl (sb_s rfl (sb_s rfl (sb_n (sb_s rfl (sb_n (sb_n sb_0))))))))))))
      · have h := ifT hc17 h
        refine V_iload (q := 141) dX11_search_139 rfl rfl ?_
        refine V_iload (q := 143) dX11_search_141 rfl rfl ?_
        refine V_mmax (q := 146) mx_X11_302 (by omega) rfl dX11_search_143 rfl ?_
        refine V_goto (q := 162) dX11_search_146 (by decide) ?_
        exact V_weak (kX11_search_J162 d hd hb hrec (fun _ _ h => hk_38 _ _ h) h) (sb_s rfl (sb_s rfl (sb_s rfl (sb_s rfl (sb_s rfl (sb_s rfl (sb_s rfl (sb_s rfl (sb_n (sb_s rfl (sb_n (sb_n sb_0))))))))))))
    · have h := ifT hc16 h
      refine V_iload (q := 128) dX11_search_126 rfl rfl ?_
      refine V_iload (q := 130) dX11_search_128 rfl rfl ?_
      refine V_iadd (q := 131) dX11_search_130 rfl ?_
      refine V_goto (q := 162) dX11_search_131 (by decide) ?_
      exact V_weak (kX11_search_J162 d hd hb hrec (fun _ _ h => hk_38 _ _ h) h) (sb_s rfl (sb_s rfl (sb_s rfl (sb_s rfl (sb_s rfl (sb_s rfl (sb_s rfl (sb_s rfl (sb_n (sb_s rfl (sb_n (sb_n sb_0))))))))))))
set_option maxHeartbeats 4000000 in
set_option maxRecDepth 100000 in
theorem kX11_search_L38 (d : Nat) {d0 : Nat} (hd : d0 + 9 ≤ d) (hb : 11 ≤ d) {rec : Int → Int → Int → Int → Int → Int → Mm → Rs} (hrec : ∀ {q1 : Int} {q2 : Int} {q3 : Int} {q4 : Int} {q5 : Int} {q6 : Int} {μ1 : Mm} {r1 : Int} {μ2 : Mm}, rec q1 q2 q3 q4 q5 q6 μ1 = some (r1, μ2) → CC d0 mX11_search [vR 70, vI q1, vI q2, vI q3, vI q4, vI q5, vI q6] μ1 r1 μ2) {l1 : Int} {l2 : Int} {l3 : Int} {l4 : Int} {l5 : Int} {l6 : Int} {r : Int} {μ' : Mm} : ∀ (n : Nat) {l7 : Int} {μ : Mm}, X11_search_L38 rec l1 l2 l3 l4 l5 l6 n l7 μ = some (r, μ') → VV d mX11_search 38 [some (vR 70), some (vI l1), some (vI l2), some (vI l3), some (vI l4), some (vI l5), some (vI l6), some (vI l7), none, none, none, none] [] μ r μ' := by
  intro n
  induction n with
  | zero => intro l7 μ h; rw [X11_search_L38] at h; cases h
  | succ n ih =>
    intro l7 μ h
    rw [X11_search_L38] at h
    refine V_iload (q := 40) dX11_search_38 rfl rfl ?_
    refine V_aload_n (q := 41) dX11_search_40 rfl rfl rfl ?_
    refine V_getI (q := 44) fl_X11_316 rfl rfl rfl dX11_search_41 rfl ?_
    refine V_icmpge (q := 197) (q2 := 47) dX11_search_44 (by decide) rfl (fun hc3 => ?_) (fun hc3 => ?_)
    · have h := ifT hc3 h
      exact V_vret rfl h dX11_search_197
    · have h := ifF hc3 h
      refine V_iload_n (q := 48) dX11_search_47 rfl rfl rfl ?_
      refine V_iload (q := 50) dX11_search_48 rfl rfl ?_
      obtain ⟨v4, μ5, hc6, h⟩ := bd_i h
      refine V_cS1 (q := 53) (v := vI v4) (kX11_has (d - 1) (by omega) hc6) (by omega) mv_X11_227 rfl rfl rfl rfl dX11_search_50 rfl ?_
      refine V_ifeq (q := 71) (q2 := 56) dX11_search_53 (by decide) rfl (fun hc7 => ?_) (fun hc7 => ?_)
      · have h := ifT hc7 h
        refine V_iconst (q := 72) dX11_search_71 rfl rfl ?_
        exact V_weak (kX11_search_J72 d hd hb hrec (fun _ _ h => ih h) h) (sb_s rfl (sb_s rfl (sb_s rfl (sb_s rfl (sb_s rfl (sb_s rfl (sb_s rfl (sb_s rfl (sb_n (sb_n (sb_n (sb_n sb_0))))))))))))
      · have h := ifF hc7 h
        refine V_aload_n (q := 57) dX11_search_56 rfl rfl rfl ?_
        refine V_getO (q := 60) (t := 89) fl_X11_71 rfl rfl rfl rfl dX11_search_57 rfl ?_
        refine V_bipush (q := 62) dX11_search_60 rfl rfl rfl ?_
        refine V_iload_n (q := 63) dX11_search_62 rfl rfl rfl ?_
        refine V_imul (q := 64) dX11_search_63 rfl ?_
        refine V_iload (q := 66) dX11_search_64 rfl rfl ?_
        refine V_iadd (q := 67) dX11_search_66 rfl ?_
        obtain ⟨hi23, h⟩ := ldA_i h
        refine V_iaload (q := 68) rfl hi23 dX11_search_67 rfl ?_
        refine V_goto (q := 72) dX11_search_68 (by decide) ?_
        exact V_weak (kX11_search_J72 d hd hb hrec (fun _ _ h => ih h) h) (sb_s rfl (sb_s rfl (sb_s rfl (sb_s rfl (sb_s rfl (sb_s rfl (sb_s rfl (sb_s rfl (sb_n (sb_n (sb_n (sb_n sb_0))))))))))))
set_option maxHeartbeats 4000000 in
set_option maxRecDepth 100000 in
theorem kX11_search_J18 (d : Nat) {d0 : Nat} (hd : d0 + 9 ≤ d) (hb : 11 ≤ d) {rec : Int → Int → Int → Int → Int → Int → Mm → Rs} (hrec : ∀ {q1 : Int} {q2 : Int} {q3 : Int} {q4 : Int} {q5 : Int} {q6 : Int} {μ1 : Mm} {r1 : Int} {μ2 : Mm}, rec q1 q2 q3 q4 q5 q6 μ1 = some (r1, μ2) → CC d0 mX11_search [vR 70, vI q1, vI q2, vI q3, vI q4, vI q5, vI q6] μ1 r1 μ2) {l1 : Int} {l2 : Int} {l3 : Int} {l4 : Int} {l5 : Int} {l6 : Int} {μ : Mm} {r : Int} {μ' : Mm} (h : X11_search_J18 rec l1 l2 l3 l4 l5 l6 μ = some (r, μ')) : VV d mX11_search 18 [some (vR 70), some (vI l1), some (vI l2), some (vI l3), some (vI l4), some (vI l5), some (vI l6), none, none, none, none, none] [] μ r μ' := by
  unfold X11_search_J18 at h
  refine V_iload_n (q := 19) dX11_search_18 rfl rfl rfl ?_
  refine V_ifne (q := 35) (q2 := 22) dX11_search_19 (by decide) rfl (fun hc2 => ?_) (fun hc2 => ?_)
  · have h := ifF hc2 h
    refine V_iconst (q := 36) dX11_search_35 rfl rfl ?_
    refine V_istore (q := 38) dX11_search_36 (Nat.le_of_ble_eq_true rfl) trivial rfl ?_
    exact V_weak (kX11_search_L38 d hd hb hrec  FU h) (sb_s rfl (sb_s rfl (sb_s rfl (sb_s rfl (sb_s rfl (sb_s rfl (sb_s rfl (sb_s rfl (sb_n (sb_n (sb_n (sb_n sb_0))))))))))))
  · have h := ifT hc2 h
    refine V_aload_n (q := 23) dX11_search_22 rfl rfl rfl ?_
    refine V_iload (q := 25) dX11_search_23 rfl rfl ?_
    have h := sF_i h
    refine V_putI (q := 28) fl_X11_347 rfl rfl rfl dX11_search_25 rfl ?_
    refine V_aload_n (q := 29) dX11_search_28 rfl rfl rfl ?_
    refine V_iload (q := 31) dX11_search_29 rfl rfl ?_
    have h := sF_i h
    refine V_putI (q := 34) fl_X11_350 rfl rfl rfl dX11_search_31 rfl ?_
    exact V_vret rfl h dX11_search_34
set_option maxHeartbeats 4000000 in
set_option maxRecDepth 100000 in
theorem kX11_search : ∀ (n d : Nat) (hd : 10 * n + 12 ≤ d) {l1 : Int} {l2 : Int} {l3 : Int} {l4 : Int} {l5 : Int} {l6 : Int} {μ : Mm} {r : Int} {μ' : Mm} (h : X11_search n l1 l2 l3 l4 l5 l6 μ = some (r, μ')), CC d mX11_search [vR 70, vI l1, vI l2, vI l3, vI l4, vI l5, vI l6] μ r μ' := by
  intro n
  induction n with
  | zero => intro d hd l1 l2 l3 l4 l5 l6   μ r μ' h; rw [X11_search] at h; cases h
  | succ n ih =>
    intro d hd l1 l2 l3 l4 l5 l6   μ r μ' h
    have hb : 11 ≤ d := by omega
    obtain ⟨d0, hd0⟩ : ∃ z, z = 10 * n + 12 := ⟨_, rfl⟩
    have hd : d0 + 10 ≤ d := by omega
    have hrec : ∀ {q1 : Int} {q2 : Int} {q3 : Int} {q4 : Int} {q5 : Int} {q6 : Int} {μ1 : Mm} {r1 : Int} {μ2 : Mm}, ((fun w0 w1 w2 w3 w4 w5 μq => X11_search n w0 w1 w2 w3 w4 w5 μq)) q1 q2 q3 q4 q5 q6 μ1 = some (r1, μ2) → CC d0 mX11_search [vR 70, vI q1, vI q2, vI q3, vI q4, vI q5, vI q6] μ1 r1 μ2 := fun h1 => ih d0 (by omega) h1
    rw [X11_search] at h
    refine V_enter (by decide) (Nat.le_of_ble_eq_true rfl) ?_
    show VV d mX11_search 0 [some (vR 70), some (vI l1), some (vI l2), some (vI l3), some (vI l4), some (vI l5), some (vI l6), none, none, none, none, none] [] μ r μ'
    refine V_aload_n (q := 1) dX11_search_0 rfl rfl rfl ?_
    refine V_getI (q := 4) fl_X11_347 rfl rfl rfl dX11_search_1 rfl ?_
    refine V_iconst (q := 5) dX11_search_4 rfl rfl ?_
    refine V_icmpeq (q := 18) (q2 := 8) dX11_search_5 (by decide) rfl (fun hc1 => ?_) (fun hc1 => ?_)
    · have h := ifT hc1 h
      exact V_weak (kX11_search_J18 d (by omega) hb hrec h) (sb_s rfl (sb_s rfl (sb_s rfl (sb_s rfl (sb_s rfl (sb_s rfl (sb_s rfl (sb_n (sb_n (sb_n (sb_n (sb_n sb_0))))))))))))
    · have h := ifF hc1 h
      refine V_iload (q := 10) dX11_search_8 rfl rfl ?_
      refine V_aload_n (q := 11) dX11_search_10 rfl rfl rfl ?_
      refine V_getI (q := 14) fl_X11_350 rfl rfl rfl dX11_search_11 rfl ?_
      refine V_icmplt (q := 18) (q2 := 17) dX11_search_14 (by decide) rfl (fun hc26 => ?_) (fun hc26 => ?_)
      · have h := ifT hc26 h
        exact V_weak (kX11_search_J18 d (by omega) hb hrec h) (sb_s rfl (sb_s rfl (sb_s rfl (sb_s rfl (sb_s rfl (sb_s rfl (sb_s rfl (sb_n (sb_n (sb_n (sb_n (sb_n sb_0))))))))))))
      · have h := ifF hc26 h
        exact V_vret rfl h dX11_search_17
