abbrev mX0_tellWind : Mth := (yX0_tellWind, cX0_tellWind, 3, some .boolean)
set_option maxRecDepth 100000 in
theorem mi_X0_tellWind : Cond.instanceMethod yX0_tellWind ∈ tG ∧ Cond.selects yX0_tellWind.cls yX0_tellWind yX0_tellWind ∈ tG ∧ Cond.initialized yX0_tellWind.cls ∈ tG ∧ Cond.code yX0_tellWind cX0_tellWind 3 (some .boolean) ∈ tG ∧ (yX0_tellWind.cls ≠ "java/lang/invoke/MethodHandle" ∧ yX0_tellWind.cls ≠ "java/lang/invoke/VarHandle" ∧ (parseMethodDescriptor yX0_tellWind.desc).map (fun d => d.parameters.length) = some 2) ∧ 3 ≤ 60 := ⟨(tG_of (tb3 (List.mem_of_getElem? (i := 148) rfl)) (by decide +kernel)), (tG_of (tb3 (List.mem_of_getElem? (i := 149) rfl)) (by decide +kernel)), (tG_of (tb1 (List.mem_of_getElem? (i := 5) rfl)) (by decide +kernel)), (tG_of (tb3 (List.mem_of_getElem? (i := 150) rfl)) (by decide +kernel)), ⟨by decide, by decide, by decide +kernel⟩, by decide⟩
set_option maxRecDepth 100000 in
theorem mv_X10_194 : mV RX10 194 mX0_tellWind 2 := ⟨(tG_of (tb3 (List.mem_of_getElem? (i := 147) rfl)) (by decide +kernel)), mi_X0_tellWind⟩
set_option maxRecDepth 100000 in
theorem mv_X0_97 : mV RX0 97 mX0_tellWind 2 := ⟨(tG_of (tb4 (List.mem_of_getElem? (i := 166) rfl)) (by decide +kernel)), mi_X0_tellWind⟩
theorem dX0_tellWind_0 : decode cX0_tellWind 0 = .ok (.aload_n 0, 1) := dc_42 (byA eNcX0_tellWind (p := 0) (v := 42) (by decide +kernel))
theorem dX0_tellWind_1 : decode cX0_tellWind 1 = .ok (.iload_n 1, 1) := dc_27 (byA eNcX0_tellWind (p := 1) (v := 27) (by decide +kernel))
theorem dX0_tellWind_2 : decode cX0_tellWind 2 = .ok (.invokevirtual 75, 3) := dc_182 (byA eNcX0_tellWind (p := 2) (v := 182) (by decide +kernel)) (byA eNcX0_tellWind (p := 3) (v := 0) (by decide +kernel)) (byA eNcX0_tellWind (p := 4) (v := 75) (by decide +kernel)) rfl
theorem dX0_tellWind_5 : decode cX0_tellWind 5 = .ok (.iconst (-1), 1) := dc_2 (byA eNcX0_tellWind (p := 5) (v := 2) (by decide +kernel))
theorem dX0_tellWind_6 : decode cX0_tellWind 6 = .ok (.if_icmp .eq 14, 3) := dc_159 (byA eNcX0_tellWind (p := 6) (v := 159) (by decide +kernel)) (byA eNcX0_tellWind (p := 7) (v := 0) (by decide +kernel)) (byA eNcX0_tellWind (p := 8) (v := 14) (by decide +kernel)) (by decide +kernel)
theorem dX0_tellWind_9 : decode cX0_tellWind 9 = .ok (.iload_n 2, 1) := dc_28 (byA eNcX0_tellWind (p := 9) (v := 28) (by decide +kernel))
theorem dX0_tellWind_10 : decode cX0_tellWind 10 = .ok (.iconst 1, 1) := dc_4 (byA eNcX0_tellWind (p := 10) (v := 4) (by decide +kernel))
theorem dX0_tellWind_11 : decode cX0_tellWind 11 = .ok (.if_icmp .lt 9, 3) := dc_161 (byA eNcX0_tellWind (p := 11) (v := 161) (by decide +kernel)) (byA eNcX0_tellWind (p := 12) (v := 0) (by decide +kernel)) (byA eNcX0_tellWind (p := 13) (v := 9) (by decide +kernel)) (by decide +kernel)
theorem dX0_tellWind_14 : decode cX0_tellWind 14 = .ok (.iload_n 2, 1) := dc_28 (byA eNcX0_tellWind (p := 14) (v := 28) (by decide +kernel))
theorem dX0_tellWind_15 : decode cX0_tellWind 15 = .ok (.bipush 30, 2) := dc_16 (byA eNcX0_tellWind (p := 15) (v := 16) (by decide +kernel)) (byA eNcX0_tellWind (p := 16) (v := 30) (by decide +kernel)) (by decide +kernel)
theorem dX0_tellWind_17 : decode cX0_tellWind 17 = .ok (.if_icmp .le 5, 3) := dc_164 (byA eNcX0_tellWind (p := 17) (v := 164) (by decide +kernel)) (byA eNcX0_tellWind (p := 18) (v := 0) (by decide +kernel)) (byA eNcX0_tellWind (p := 19) (v := 5) (by decide +kernel)) (by decide +kernel)
theorem dX0_tellWind_20 : decode cX0_tellWind 20 = .ok (.iconst 0, 1) := dc_3 (byA eNcX0_tellWind (p := 20) (v := 3) (by decide +kernel))
theorem dX0_tellWind_21 : decode cX0_tellWind 21 = .ok (.ireturn, 1) := dc_172 (byA eNcX0_tellWind (p := 21) (v := 172) (by decide +kernel))
theorem dX0_tellWind_22 : decode cX0_tellWind 22 = .ok (.aload_n 0, 1) := dc_42 (byA eNcX0_tellWind (p := 22) (v := 42) (by decide +kernel))
theorem dX0_tellWind_23 : decode cX0_tellWind 23 = .ok (.getfield 18, 3) := dc_180 (byA eNcX0_tellWind (p := 23) (v := 180) (by decide +kernel)) (byA eNcX0_tellWind (p := 24) (v := 0) (by decide +kernel)) (byA eNcX0_tellWind (p := 25) (v := 18) (by decide +kernel)) rfl
theorem dX0_tellWind_26 : decode cX0_tellWind 26 = .ok (.iload_n 1, 1) := dc_27 (byA eNcX0_tellWind (p := 26) (v := 27) (by decide +kernel))
theorem dX0_tellWind_27 : decode cX0_tellWind 27 = .ok (.iload_n 2, 1) := dc_28 (byA eNcX0_tellWind (p := 27) (v := 28) (by decide +kernel))
theorem dX0_tellWind_28 : decode cX0_tellWind 28 = .ok (.iastore, 1) := dc_79 (byA eNcX0_tellWind (p := 28) (v := 79) (by decide +kernel))
theorem dX0_tellWind_29 : decode cX0_tellWind 29 = .ok (.iconst 1, 1) := dc_4 (byA eNcX0_tellWind (p := 29) (v := 4) (by decide +kernel))
theorem dX0_tellWind_30 : decode cX0_tellWind 30 = .ok (.ireturn, 1) := dc_172 (byA eNcX0_tellWind (p := 30) (v := 172) (by decide +kernel))
def X0_tellWind (l0 : Nat) (l1 : Int) (l2 : Int) (μ : Mm) : Rs := bd (X0_placeOf l0 l1 μ) fun v1 μ2 => if v1 = (-1) then (some (0, μ2)) else (if l2 < 1 then (some (0, μ2)) else (if l2 ≤ 30 then (stA μ2 (l0 + 3) l1 l2 fun μ7 => some (1, μ7)) else (some (0, μ2))))
set_option maxHeartbeats 4000000 in
set_option maxRecDepth 100000 in
theorem kX0_tellWind (d : Nat) (hd : 2 ≤ d) {l0 : Nat} {l1 : Int} {l2 : Int} (hk0 : kD l0 = (10, 9)) {μ : Mm} {r : Int} {μ' : Mm} (h : X0_tellWind l0 l1 l2 μ = some (r, μ')) : CC d mX0_tellWind [vR l0, vI l1, vI l2] μ r μ' := by
  unfold X0_tellWind at h
  refine V_enter (by decide) (Nat.le_of_ble_eq_true rfl) ?_
  show VV d mX0_tellWind 0 [some (vR l0), some (vI l1), some (vI l2)] [] μ r μ'
  refine V_aload_n (q := 1) dX0_tellWind_0 rfl rfl rfl ?_
  refine V_iload_n (q := 2) dX0_tellWind_1 rfl rfl rfl ?_
  obtain ⟨v1, μ2, hc3, h⟩ := bd_i h
  refine V_cV1 (q := 5) (v := vI v1) (kX0_placeOf (d - 1) (by omega) hk0 hc3) (by omega) mv_X0_75 hk0 rfl rfl rfl rfl rfl dX0_tellWind_2 rfl ?_
  refine V_iconst (q := 6) dX0_tellWind_5 rfl rfl ?_
  refine V_icmpeq (q := 20) (q2 := 9) dX0_tellWind_6 (by decide) rfl (fun hc4 => ?_) (fun hc4 => ?_)
  · have h := ifT hc4 h
    refine V_iconst (q := 21) dX0_tellWind_20 rfl rfl ?_
    exact V_zret rfl (Or.inl rfl) h dX0_tellWind_21
  · have h := ifF hc4 h
    refine V_iload_n (q := 10) dX0_tellWind_9 rfl rfl rfl ?_
    refine V_iconst (q := 11) dX0_tellWind_10 rfl rfl ?_
    refine V_icmplt (q := 20) (q2 := 14) dX0_tellWind_11 (by decide) rfl (fun hc5 => ?_) (fun hc5 => ?_)
    · have h := ifT hc5 h
      refine V_iconst (q := 21) dX0_tellWind_20 rfl rfl ?_
      exact V_zret rfl (Or.inl rfl) h dX0_tellWind_21
    · have h := ifF hc5 h
      refine V_iload_n (q := 15) dX0_tellWind_14 rfl rfl rfl ?_
      refine V_bipush (q := 17) dX0_tellWind_15 rfl rfl rfl ?_
      refine V_icmple (q := 22) (q2 := 20) dX0_tellWind_17 (by decide) rfl (fun hc6 => ?_) (fun hc6 => ?_)
      · have h := ifT hc6 h
        refine V_aload_n (q := 23) dX0_tellWind_22 rfl rfl rfl ?_
        refine V_getO (q := 26) (t := _) fl_X0_18 hk0 rfl rfl rfl dX0_tellWind_23 rfl ?_
        refine V_iload_n (q := 27) dX0_tellWind_26 rfl rfl rfl ?_
        refine V_iload_n (q := 28) dX0_tellWind_27 rfl rfl rfl ?_
        obtain ⟨hi8, h⟩ := stA_i h
        refine V_iastore (q := 29) (kdo_0_2 hk0) hi8 dX0_tellWind_28 rfl ?_
        refine V_iconst (q := 30) dX0_tellWind_29 rfl rfl ?_
        exact V_zret rfl (Or.inr rfl) h dX0_tellWind_30
      · have h := ifF hc6 h
        refine V_iconst (q := 21) dX0_tellWind_20 rfl rfl ?_
        exact V_zret rfl (Or.inl rfl) h dX0_tellWind_21
abbrev mX0_halveWind : Mth := (yX0_halveWind, cX0_halveWind, 2, some .boolean)
set_option maxRecDepth 100000 in
theorem mi_X0_halveWind : Cond.instanceMethod yX0_halveWind ∈ tG ∧ Cond.selects yX0_halveWind.cls yX0_halveWind yX0_halveWind ∈ tG ∧ Cond.initialized yX0_halveWind.cls ∈ tG ∧ Cond.code yX0_halveWind cX0_halveWind 2 (some .boolean) ∈ tG ∧ (yX0_halveWind.cls ≠ "java/lang/invoke/MethodHandle" ∧ yX0_halveWind.cls ≠ "java/lang/invoke/VarHandle" ∧ (parseMethodDescriptor yX0_halveWind.desc).map (fun d => d.parameters.length) = some 1) ∧ 2 ≤ 60 := ⟨(tG_of (tb4 (List.mem_of_getElem? (i := 162) rfl)) (by decide +kernel)), (tG_of (tb4 (List.mem_of_getElem? (i := 163) rfl)) (by decide +kernel)), (tG_of (tb1 (List.mem_of_getElem? (i := 5) rfl)) (by decide +kernel)), (tG_of (tb4 (List.mem_of_getElem? (i := 164) rfl)) (by decide +kernel)), ⟨by decide, by decide, by decide +kernel⟩, by decide⟩
set_option maxRecDepth 100000 in
theorem mv_X10_337 : mV RX10 337 mX0_halveWind 1 := ⟨(tG_of (tb4 (List.mem_of_getElem? (i := 161) rfl)) (by decide +kernel)), mi_X0_halveWind⟩
theorem dX0_halveWind_0 : decode cX0_halveWind 0 = .ok (.aload_n 0, 1) := dc_42 (byA eNcX0_halveWind (p := 0) (v := 42) (by decide +kernel))
theorem dX0_halveWind_1 : decode cX0_halveWind 1 = .ok (.iload_n 1, 1) := dc_27 (byA eNcX0_halveWind (p := 1) (v := 27) (by decide +kernel))
theorem dX0_halveWind_2 : decode cX0_halveWind 2 = .ok (.aload_n 0, 1) := dc_42 (byA eNcX0_halveWind (p := 2) (v := 42) (by decide +kernel))
theorem dX0_halveWind_3 : decode cX0_halveWind 3 = .ok (.iload_n 1, 1) := dc_27 (byA eNcX0_halveWind (p := 3) (v := 27) (by decide +kernel))
theorem dX0_halveWind_4 : decode cX0_halveWind 4 = .ok (.invokevirtual 94, 3) := dc_182 (byA eNcX0_halveWind (p := 4) (v := 182) (by decide +kernel)) (byA eNcX0_halveWind (p := 5) (v := 0) (by decide +kernel)) (byA eNcX0_halveWind (p := 6) (v := 94) (by decide +kernel)) rfl
theorem dX0_halveWind_7 : decode cX0_halveWind 7 = .ok (.iconst 1, 1) := dc_4 (byA eNcX0_halveWind (p := 7) (v := 4) (by decide +kernel))
theorem dX0_halveWind_8 : decode cX0_halveWind 8 = .ok (.iadd, 1) := dc_96 (byA eNcX0_halveWind (p := 8) (v := 96) (by decide +kernel))
theorem dX0_halveWind_9 : decode cX0_halveWind 9 = .ok (.iconst 2, 1) := dc_5 (byA eNcX0_halveWind (p := 9) (v := 5) (by decide +kernel))
theorem dX0_halveWind_10 : decode cX0_halveWind 10 = .ok (.idiv, 1) := dc_108 (byA eNcX0_halveWind (p := 10) (v := 108) (by decide +kernel))
theorem dX0_halveWind_11 : decode cX0_halveWind 11 = .ok (.invokevirtual 97, 3) := dc_182 (byA eNcX0_halveWind (p := 11) (v := 182) (by decide +kernel)) (byA eNcX0_halveWind (p := 12) (v := 0) (by decide +kernel)) (byA eNcX0_halveWind (p := 13) (v := 97) (by decide +kernel)) rfl
theorem dX0_halveWind_14 : decode cX0_halveWind 14 = .ok (.ireturn, 1) := dc_172 (byA eNcX0_halveWind (p := 14) (v := 172) (by decide +kernel))
def X0_halveWind (l0 : Nat) (l1 : Int) (μ : Mm) : Rs := bd (X0_windOf l0 l1 μ) fun v1 μ2 => bd (X0_tellWind l0 l1 (iD (iA v1 1) 2) μ2) fun v4 μ5 => rZ v4 μ5
set_option maxHeartbeats 4000000 in
set_option maxRecDepth 100000 in
theorem kX0_halveWind (d : Nat) (hd : 3 ≤ d) {l0 : Nat} {l1 : Int} (hk0 : kD l0 = (10, 9)) {μ : Mm} {r : Int} {μ' : Mm} (h : X0_halveWind l0 l1 μ = some (r, μ')) : CC d mX0_halveWind [vR l0, vI l1] μ r μ' := by
  unfold X0_halveWind at h
  refine V_enter (by decide) (Nat.le_of_ble_eq_true rfl) ?_
  show VV d mX0_halveWind 0 [some (vR l0), some (vI l1)] [] μ r μ'
  refine V_aload_n (q := 1) dX0_halveWind_0 rfl rfl rfl ?_
  refine V_iload_n (q := 2) dX0_halveWind_1 rfl rfl rfl ?_
  refine V_aload_n (q := 3) dX0_halveWind_2 rfl rfl rfl ?_
  refine V_iload_n (q := 4) dX0_halveWind_3 rfl rfl rfl ?_
  obtain ⟨v1, μ2, hc3, h⟩ := bd_i h
  refine V_cV1 (q := 7) (v := vI v1) (kX0_windOf (d - 1) (by omega) hk0 hc3) (by omega) mv_X0_94 hk0 rfl rfl rfl rfl rfl dX0_halveWind_4 rfl ?_
  refine V_iconst (q := 8) dX0_halveWind_7 rfl rfl ?_
  refine V_iadd (q := 9) dX0_halveWind_8 rfl ?_
  refine V_iconst (q := 10) dX0_halveWind_9 rfl rfl ?_
  refine V_idiv (q := 11) dX0_halveWind_10 (by decide) rfl ?_
  obtain ⟨v4, μ5, hc6, h⟩ := bd_i h
  refine V_cV1 (q := 14) (v := vI v4) (kX0_tellWind (d - 1) (by omega) hk0 hc6) (by omega) mv_X0_97 hk0 rfl rfl rfl rfl rfl dX0_halveWind_11 rfl ?_
  obtain ⟨hz7, h⟩ := rZ_i h
  exact V_zret rfl hz7 h dX0_halveWind_14
abbrev mX0_exchangeCranks : Mth := (yX0_exchangeCranks, cX0_exchangeCranks, 5, some .boolean)
set_option maxRecDepth 100000 in
theorem mi_X0_exchangeCranks : Cond.instanceMethod yX0_exchangeCranks ∈ tG ∧ Cond.selects yX0_exchangeCranks.cls yX0_exchangeCranks yX0_exchangeCranks ∈ tG ∧ Cond.initialized yX0_exchangeCranks.cls ∈ tG ∧ Cond.code yX0_exchangeCranks cX0_exchangeCranks 5 (some .boolean) ∈ tG ∧ (yX0_exchangeCranks.cls ≠ "java/lang/invoke/MethodHandle" ∧ yX0_exchangeCranks.cls ≠ "java/lang/invoke/VarHandle" ∧ (parseMethodDescriptor yX0_exchangeCranks.desc).map (fun d => d.parameters.length) = some 2) ∧ 5 ≤ 60 := ⟨(tG_of (tb3 (List.mem_of_getElem? (i := 156) rfl)) (by decide +kernel)), (tG_of (tb3 (List.mem_of_getElem? (i := 157) rfl)) (by decide +kernel)), (tG_of (tb1 (List.mem_of_getElem? (i := 5) rfl)) (by decide +kernel)), (tG_of (tb3 (List.mem_of_getElem? (i := 158) rfl)) (by decide +kernel)), ⟨by decide, by decide, by decide +kernel⟩, by decide⟩
set_option maxRecDepth 100000 in
theorem mv_X10_198 : mV RX10 198 mX0_exchangeCranks 2 := ⟨(tG_of (tb3 (List.mem_of_getElem? (i := 155) rfl)) (by decide +kernel)), mi_X0_exchangeCranks⟩
theorem dX0_exchangeCranks_0 : decode cX0_exchangeCranks 0 = .ok (.aload_n 0, 1) := dc_42 (byA eNcX0_exchangeCranks (p := 0) (v := 42) (by decide +kernel))
theorem dX0_exchangeCranks_1 : decode cX0_exchangeCranks 1 = .ok (.iload_n 1, 1) := dc_27 (byA eNcX0_exchangeCranks (p := 1) (v := 27) (by decide +kernel))
theorem dX0_exchangeCranks_2 : decode cX0_exchangeCranks 2 = .ok (.invokevirtual 75, 3) := dc_182 (byA eNcX0_exchangeCranks (p := 2) (v := 182) (by decide +kernel)) (byA eNcX0_exchangeCranks (p := 3) (v := 0) (by decide +kernel)) (byA eNcX0_exchangeCranks (p := 4) (v := 75) (by decide +kernel)) rfl
theorem dX0_exchangeCranks_5 : decode cX0_exchangeCranks 5 = .ok (.istore_n 3, 1) := dc_62 (byA eNcX0_exchangeCranks (p := 5) (v := 62) (by decide +kernel))
theorem dX0_exchangeCranks_6 : decode cX0_exchangeCranks 6 = .ok (.aload_n 0, 1) := dc_42 (byA eNcX0_exchangeCranks (p := 6) (v := 42) (by decide +kernel))
theorem dX0_exchangeCranks_7 : decode cX0_exchangeCranks 7 = .ok (.iload_n 2, 1) := dc_28 (byA eNcX0_exchangeCranks (p := 7) (v := 28) (by decide +kernel))
theorem dX0_exchangeCranks_8 : decode cX0_exchangeCranks 8 = .ok (.invokevirtual 75, 3) := dc_182 (byA eNcX0_exchangeCranks (p := 8) (v := 182) (by decide +kernel)) (byA eNcX0_exchangeCranks (p := 9) (v := 0) (by decide +kernel)) (byA eNcX0_exchangeCranks (p := 10) (v := 75) (by decide +kernel)) rfl
theorem dX0_exchangeCranks_11 : decode cX0_exchangeCranks 11 = .ok (.istore 4, 2) := dc_54 (byA eNcX0_exchangeCranks (p := 11) (v := 54) (by decide +kernel)) (byA eNcX0_exchangeCranks (p := 12) (v := 4) (by decide +kernel))
theorem dX0_exchangeCranks_13 : decode cX0_exchangeCranks 13 = .ok (.iload_n 3, 1) := dc_29 (byA eNcX0_exchangeCranks (p := 13) (v := 29) (by decide +kernel))
theorem dX0_exchangeCranks_14 : decode cX0_exchangeCranks 14 = .ok (.iconst (-1), 1) := dc_2 (byA eNcX0_exchangeCranks (p := 14) (v := 2) (by decide +kernel))
theorem dX0_exchangeCranks_15 : decode cX0_exchangeCranks 15 = .ok (.if_icmp .eq 14, 3) := dc_159 (byA eNcX0_exchangeCranks (p := 15) (v := 159) (by decide +kernel)) (byA eNcX0_exchangeCranks (p := 16) (v := 0) (by decide +kernel)) (byA eNcX0_exchangeCranks (p := 17) (v := 14) (by decide +kernel)) (by decide +kernel)
theorem dX0_exchangeCranks_18 : decode cX0_exchangeCranks 18 = .ok (.iload 4, 2) := dc_21 (byA eNcX0_exchangeCranks (p := 18) (v := 21) (by decide +kernel)) (byA eNcX0_exchangeCranks (p := 19) (v := 4) (by decide +kernel))
theorem dX0_exchangeCranks_20 : decode cX0_exchangeCranks 20 = .ok (.iconst (-1), 1) := dc_2 (byA eNcX0_exchangeCranks (p := 20) (v := 2) (by decide +kernel))
theorem dX0_exchangeCranks_21 : decode cX0_exchangeCranks 21 = .ok (.if_icmp .eq 8, 3) := dc_159 (byA eNcX0_exchangeCranks (p := 21) (v := 159) (by decide +kernel)) (byA eNcX0_exchangeCranks (p := 22) (v := 0) (by decide +kernel)) (byA eNcX0_exchangeCranks (p := 23) (v := 8) (by decide +kernel)) (by decide +kernel)
theorem dX0_exchangeCranks_24 : decode cX0_exchangeCranks 24 = .ok (.iload_n 1, 1) := dc_27 (byA eNcX0_exchangeCranks (p := 24) (v := 27) (by decide +kernel))
theorem dX0_exchangeCranks_25 : decode cX0_exchangeCranks 25 = .ok (.iload_n 2, 1) := dc_28 (byA eNcX0_exchangeCranks (p := 25) (v := 28) (by decide +kernel))
theorem dX0_exchangeCranks_26 : decode cX0_exchangeCranks 26 = .ok (.if_icmp .ne 5, 3) := dc_160 (byA eNcX0_exchangeCranks (p := 26) (v := 160) (by decide +kernel)) (byA eNcX0_exchangeCranks (p := 27) (v := 0) (by decide +kernel)) (byA eNcX0_exchangeCranks (p := 28) (v := 5) (by decide +kernel)) (by decide +kernel)
theorem dX0_exchangeCranks_29 : decode cX0_exchangeCranks 29 = .ok (.iconst 0, 1) := dc_3 (byA eNcX0_exchangeCranks (p := 29) (v := 3) (by decide +kernel))
theorem dX0_exchangeCranks_30 : decode cX0_exchangeCranks 30 = .ok (.ireturn, 1) := dc_172 (byA eNcX0_exchangeCranks (p := 30) (v := 172) (by decide +kernel))
theorem dX0_exchangeCranks_31 : decode cX0_exchangeCranks 31 = .ok (.aload_n 0, 1) := dc_42 (byA eNcX0_exchangeCranks (p := 31) (v := 42) (by decide +kernel))
theorem dX0_exchangeCranks_32 : decode cX0_exchangeCranks 32 = .ok (.getfield 15, 3) := dc_180 (byA eNcX0_exchangeCranks (p := 32) (v := 180) (by decide +kernel)) (byA eNcX0_exchangeCranks (p := 33) (v := 0) (by decide +kernel)) (byA eNcX0_exchangeCranks (p := 34) (v := 15) (by decide +kernel)) rfl
theorem dX0_exchangeCranks_35 : decode cX0_exchangeCranks 35 = .ok (.iload_n 1, 1) := dc_27 (byA eNcX0_exchangeCranks (p := 35) (v := 27) (by decide +kernel))
theorem dX0_exchangeCranks_36 : decode cX0_exchangeCranks 36 = .ok (.iload 4, 2) := dc_21 (byA eNcX0_exchangeCranks (p := 36) (v := 21) (by decide +kernel)) (byA eNcX0_exchangeCranks (p := 37) (v := 4) (by decide +kernel))
theorem dX0_exchangeCranks_38 : decode cX0_exchangeCranks 38 = .ok (.iastore, 1) := dc_79 (byA eNcX0_exchangeCranks (p := 38) (v := 79) (by decide +kernel))
theorem dX0_exchangeCranks_39 : decode cX0_exchangeCranks 39 = .ok (.aload_n 0, 1) := dc_42 (byA eNcX0_exchangeCranks (p := 39) (v := 42) (by decide +kernel))
theorem dX0_exchangeCranks_40 : decode cX0_exchangeCranks 40 = .ok (.getfield 15, 3) := dc_180 (byA eNcX0_exchangeCranks (p := 40) (v := 180) (by decide +kernel)) (byA eNcX0_exchangeCranks (p := 41) (v := 0) (by decide +kernel)) (byA eNcX0_exchangeCranks (p := 42) (v := 15) (by decide +kernel)) rfl
theorem dX0_exchangeCranks_43 : decode cX0_exchangeCranks 43 = .ok (.iload_n 2, 1) := dc_28 (byA eNcX0_exchangeCranks (p := 43) (v := 28) (by decide +kernel))
theorem dX0_exchangeCranks_44 : decode cX0_exchangeCranks 44 = .ok (.iload_n 3, 1) := dc_29 (byA eNcX0_exchangeCranks (p := 44) (v := 29) (by decide +kernel))
theorem dX0_exchangeCranks_45 : decode cX0_exchangeCranks 45 = .ok (.iastore, 1) := dc_79 (byA eNcX0_exchangeCranks (p := 45) (v := 79) (by decide +kernel))
theorem dX0_exchangeCranks_46 : decode cX0_exchangeCranks 46 = .ok (.aload_n 0, 1) := dc_42 (byA eNcX0_exchangeCranks (p := 46) (v := 42) (by decide +kernel))
theorem dX0_exchangeCranks_47 : decode cX0_exchangeCranks 47 = .ok (.getfield 9, 3) := dc_180 (byA eNcX0_exchangeCranks (p := 47) (v := 180) (by decide +kernel)) (byA eNcX0_exchangeCranks (p := 48) (v := 0) (by decide +kernel)) (byA eNcX0_exchangeCranks (p := 49) (v := 9) (by decide +kernel)) rfl
theorem dX0_exchangeCranks_50 : decode cX0_exchangeCranks 50 = .ok (.iload 4, 2) := dc_21 (byA eNcX0_exchangeCranks (p := 50) (v := 21) (by decide +kernel)) (byA eNcX0_exchangeCranks (p := 51) (v := 4) (by decide +kernel))
theorem dX0_exchangeCranks_52 : decode cX0_exchangeCranks 52 = .ok (.iconst 3, 1) := dc_6 (byA eNcX0_exchangeCranks (p := 52) (v := 6) (by decide +kernel))
theorem dX0_exchangeCranks_53 : decode cX0_exchangeCranks 53 = .ok (.iload_n 1, 1) := dc_27 (byA eNcX0_exchangeCranks (p := 53) (v := 27) (by decide +kernel))
theorem dX0_exchangeCranks_54 : decode cX0_exchangeCranks 54 = .ok (.iadd, 1) := dc_96 (byA eNcX0_exchangeCranks (p := 54) (v := 96) (by decide +kernel))
theorem dX0_exchangeCranks_55 : decode cX0_exchangeCranks 55 = .ok (.iastore, 1) := dc_79 (byA eNcX0_exchangeCranks (p := 55) (v := 79) (by decide +kernel))
theorem dX0_exchangeCranks_56 : decode cX0_exchangeCranks 56 = .ok (.aload_n 0, 1) := dc_42 (byA eNcX0_exchangeCranks (p := 56) (v := 42) (by decide +kernel))
theorem dX0_exchangeCranks_57 : decode cX0_exchangeCranks 57 = .ok (.getfield 9, 3) := dc_180 (byA eNcX0_exchangeCranks (p := 57) (v := 180) (by decide +kernel)) (byA eNcX0_exchangeCranks (p := 58) (v := 0) (by decide +kernel)) (byA eNcX0_exchangeCranks (p := 59) (v := 9) (by decide +kernel)) rfl
theorem dX0_exchangeCranks_60 : decode cX0_exchangeCranks 60 = .ok (.iload_n 3, 1) := dc_29 (byA eNcX0_exchangeCranks (p := 60) (v := 29) (by decide +kernel))
theorem dX0_exchangeCranks_61 : decode cX0_exchangeCranks 61 = .ok (.iconst 3, 1) := dc_6 (byA eNcX0_exchangeCranks (p := 61) (v := 6) (by decide +kernel))
theorem dX0_exchangeCranks_62 : decode cX0_exchangeCranks 62 = .ok (.iload_n 2, 1) := dc_28 (byA eNcX0_exchangeCranks (p := 62) (v := 28) (by decide +kernel))
theorem dX0_exchangeCranks_63 : decode cX0_exchangeCranks 63 = .ok (.iadd, 1) := dc_96 (byA eNcX0_exchangeCranks (p := 63) (v := 96) (by decide +kernel))
theorem dX0_exchangeCranks_64 : decode cX0_exchangeCranks 64 = .ok (.iastore, 1) := dc_79 (byA eNcX0_exchangeCranks (p := 64) (v := 79) (by decide +kernel))
theorem dX0_exchangeCranks_65 : decode cX0_exchangeCranks 65 = .ok (.iconst 1, 1) := dc_4 (byA eNcX0_exchangeCranks (p := 65) (v := 4) (by decide +kernel))
theorem dX0_exchangeCranks_66 : decode cX0_exchangeCranks 66 = .ok (.ireturn, 1) := dc_172 (byA eNcX0_exchangeCranks (p := 66) (v := 172) (by decide +kernel))
def X0_exchangeCranks (l0 : Nat) (l1 : Int) (l2 : Int) (μ : Mm) : Rs := bd (X0_placeOf l0 l1 μ) fun v1 μ2 => bd (X0_placeOf l0 l2 μ2) fun v4 μ5 => if v1 = (-1) then (some (0, μ5)) else (if v4 = (-1) then (some (0, μ5)) else (if l1 = l2 then (some (0, μ5)) else (stA μ5 (l0 + 2) l1 v4 fun μ10 => stA μ10 (l0 + 2) l2 v1 fun μ12 => stA μ12 (l0 + 1) v4 (iA 3 l1) fun μ14 => stA μ14 (l0 + 1) v1 (iA 3 l2) fun μ16 => some (1, μ16))))
set_option maxHeartbeats 4000000 in
set_option maxRecDepth 100000 in
theorem kX0_exchangeCranks (d : Nat) (hd : 2 ≤ d) {l0 : Nat} {l1 : Int} {l2 : Int} (hk0 : kD l0 = (10, 9)) {μ : Mm} {r : Int} {μ' : Mm} (h : X0_exchangeCranks l0 l1 l2 μ = some (r, μ')) : CC d mX0_exchangeCranks [vR l0, vI l1, vI l2] μ r μ' := by
  unfold X0_exchangeCranks at h
  refine V_enter (by decide) (Nat.le_of_ble_eq_true rfl) ?_
  show VV d mX0_exchangeCranks 0 [some (vR l0), some (vI l1), some (vI l2), none, none] [] μ r μ'
  refine V_aload_n (q := 1) dX0_exchangeCranks_0 rfl rfl rfl ?_
  refine V_iload_n (q := 2) dX0_exchangeCranks_1 rfl rfl rfl ?_
  obtain ⟨v1, μ2, hc3, h⟩ := bd_i h
  refine V_cV1 (q := 5) (v := vI v1) (kX0_placeOf (d - 1) (by omega) hk0 hc3) (by omega) mv_X0_75 hk0 rfl rfl rfl rfl rfl dX0_exchangeCranks_2 rfl ?_
  refine V_istore_n (q := 6) dX0_exchangeCranks_5 rfl (Nat.le_of_ble_eq_true rfl) trivial rfl ?_
  refine V_aload_n (q := 7) dX0_exchangeCranks_6 rfl rfl rfl ?_
  refine V_iload_n (q := 8) dX0_exchangeCranks_7 rfl rfl rfl ?_
  obtain ⟨v4, μ5, hc6, h⟩ := bd_i h
  refine V_cV1 (q := 11) (v := vI v4) (kX0_placeOf (d - 1) (by omega) hk0 hc6) (by omega) mv_X0_75 hk0 rfl rfl rfl rfl rfl dX0_exchangeCranks_8 rfl ?_
  refine V_istore (q := 13) dX0_exchangeCranks_11 (Nat.le_of_ble_eq_true rfl) trivial rfl ?_
  refine V_iload_n (q := 14) dX0_exchangeCranks_13 rfl rfl rfl ?_
  refine V_iconst (q := 15) dX0_exchangeCranks_14 rfl rfl ?_
  refine V_icmpeq (q := 29) (q2 := 18) dX0_exchangeCranks_15 (by decide) rfl (fun hc7 => ?_) (fun hc7 => ?_)
  · have h := ifT hc7 h
    refine V_iconst (q := 30) dX0_exchangeCranks_29 rfl rfl ?_
    exact V_zret rfl (Or.inl rfl) h dX0_exchangeCranks_30
  · have h := ifF hc7 h
    refine V_iload (q := 20) dX0_exchangeCranks_18 rfl rfl ?_
    refine V_iconst (q := 21) dX0_exchangeCranks_20 rfl rfl ?_
    refine V_icmpeq (q := 29) (q2 := 24) dX0_exchangeCranks_21 (by decide) rfl (fun hc8 => ?_) (fun hc8 => ?_)
    · have h := ifT hc8 h
      refine V_iconst (q := 30) dX0_exchangeCranks_29 rfl rfl ?_
      exact V_zret rfl (Or.inl rfl) h dX0_exchangeCranks_30
    · have h := ifF hc8 h
      refine V_iload_n (q := 25) dX0_exchangeCranks_24 rfl rfl rfl ?_
      refine V_iload_n (q := 26) dX0_exchangeCranks_25 rfl rfl rfl ?_
      refine V_icmpne (q := 31) (q2 := 29) dX0_exchangeCranks_26 (by decide) rfl (fun hc9 => ?_) (fun hc9 => ?_)
      · have h := ifF hc9 h
        refine V_aload_n (q := 32) dX0_exchangeCranks_31 rfl rfl rfl ?_
        refine V_getO (q := 35) (t := _) fl_X0_15 hk0 rfl rfl rfl dX0_exchangeCranks_32 rfl ?_
        refine V_iload_n (q := 36) dX0_exchangeCranks_35 rfl rfl rfl ?_
        refine V_iload (q := 38) dX0_exchangeCranks_36 rfl rfl ?_
        obtain ⟨hi11, h⟩ := stA_i h
        refine V_iastore (q := 39) (kdo_0_1 hk0) hi11 dX0_exchangeCranks_38 rfl ?_
        refine V_aload_n (q := 40) dX0_exchangeCranks_39 rfl rfl rfl ?_
        refine V_getO (q := 43) (t := _) fl_X0_15 hk0 rfl rfl rfl dX0_exchangeCranks_40 rfl ?_
        refine V_iload_n (q := 44) dX0_exchangeCranks_43 rfl rfl rfl ?_
        refine V_iload_n (q := 45) dX0_exchangeCranks_44 rfl rfl rfl ?_
        obtain ⟨hi13, h⟩ := stA_i h
        refine V_iastore (q := 46) (kdo_0_1 hk0) hi13 dX0_exchangeCranks_45 rfl ?_
        refine V_aload_n (q := 47) dX0_exchangeCranks_46 rfl rfl rfl ?_
        refine V_getO (q := 50) (t := _) fl_X0_9 hk0 rfl rfl rfl dX0_exchangeCranks_47 rfl ?_
        refine V_iload (q := 52) dX0_exchangeCranks_50 rfl rfl ?_
        refine V_iconst (q := 53) dX0_exchangeCranks_52 rfl rfl ?_
        refine V_iload_n (q := 54) dX0_exchangeCranks_53 rfl rfl rfl ?_
        refine V_iadd (q := 55) dX0_exchangeCranks_54 rfl ?_
        obtain ⟨hi15, h⟩ := stA_i h
        refine V_iastore (q := 56) (kdo_0_0 hk0) hi15 dX0_exchangeCranks_55 rfl ?_
        refine V_aload_n (q := 57) dX0_exchangeCranks_56 rfl rfl rfl ?_
        refine V_getO (q := 60) (t := _) fl_X0_9 hk0 rfl rfl rfl dX0_exchangeCranks_57 rfl ?_
        refine V_iload_n (q := 61) dX0_exchangeCranks_60 rfl rfl rfl ?_
        refine V_iconst (q := 62) dX0_exchangeCranks_61 rfl rfl ?_
        refine V_iload_n (q := 63) dX0_exchangeCranks_62 rfl rfl rfl ?_
        refine V_iadd (q := 64) dX0_exchangeCranks_63 rfl ?_
        obtain ⟨hi17, h⟩ := stA_i h
        refine V_iastore (q := 65) (kdo_0_0 hk0) hi17 dX0_exchangeCranks_64 rfl ?_
        refine V_iconst (q := 66) dX0_exchangeCranks_65 rfl rfl ?_
        exact V_zret rfl (Or.inr rfl) h dX0_exchangeCranks_66
      · have h := ifT hc9 h
        refine V_iconst (q := 30) dX0_exchangeCranks_29 rfl rfl ?_
        exact V_zret rfl (Or.inl rfl) h dX0_exchangeCranks_30
abbrev mX0_takePost : Mth := (yX0_takePost, cX0_takePost, 2, some .boolean)
set_option maxRecDepth 100000 in
theorem mi_X0_takePost : Cond.instanceMethod yX0_takePost ∈ tG ∧ Cond.selects yX0_takePost.cls yX0_takePost yX0_takePost ∈ tG ∧ Cond.initialized yX0_takePost.cls ∈ tG ∧ Cond.code yX0_takePost cX0_takePost 2 (some .boolean) ∈ tG ∧ (yX0_takePost.cls ≠ "java/lang/invoke/MethodHandle" ∧ yX0_takePost.cls ≠ "java/lang/invoke/VarHandle" ∧ (parseMethodDescriptor yX0_takePost.desc).map (fun d => d.parameters.length) = some 1) ∧ 2 ≤ 60 := ⟨(tG_of (tb3 (List.mem_of_getElem? (i := 164) rfl)) (by decide +kernel)), (tG_of (tb3 (List.mem_of_getElem? (i := 165) rfl)) (by decide +kernel)), (tG_of (tb1 (List.mem_of_getElem? (i := 5) rfl)) (by decide +kernel)), (tG_of (tb3 (List.mem_of_getElem? (i := 166) rfl)) (by decide +kernel)), ⟨by decide, by decide, by decide +kernel⟩, by decide⟩
set_option maxRecDepth 100000 in
theorem mv_X10_201 : mV RX10 201 mX0_takePost 1 := ⟨(tG_of (tb3 (List.mem_of_getElem? (i := 163) rfl)) (by decide +kernel)), mi_X0_takePost⟩
theorem dX0_takePost_0 : decode cX0_takePost 0 = .ok (.aload_n 0, 1) := dc_42 (byA eNcX0_takePost (p := 0) (v := 42) (by decide +kernel))
theorem dX0_takePost_1 : decode cX0_takePost 1 = .ok (.iload_n 1, 1) := dc_27 (byA eNcX0_takePost (p := 1) (v := 27) (by decide +kernel))
theorem dX0_takePost_2 : decode cX0_takePost 2 = .ok (.invokevirtual 101, 3) := dc_182 (byA eNcX0_takePost (p := 2) (v := 182) (by decide +kernel)) (byA eNcX0_takePost (p := 3) (v := 0) (by decide +kernel)) (byA eNcX0_takePost (p := 4) (v := 101) (by decide +kernel)) rfl
theorem dX0_takePost_5 : decode cX0_takePost 5 = .ok (.iconst 1, 1) := dc_4 (byA eNcX0_takePost (p := 5) (v := 4) (by decide +kernel))
theorem dX0_takePost_6 : decode cX0_takePost 6 = .ok (.if_icmp .eq 5, 3) := dc_159 (byA eNcX0_takePost (p := 6) (v := 159) (by decide +kernel)) (byA eNcX0_takePost (p := 7) (v := 0) (by decide +kernel)) (byA eNcX0_takePost (p := 8) (v := 5) (by decide +kernel)) (by decide +kernel)
theorem dX0_takePost_9 : decode cX0_takePost 9 = .ok (.iconst 0, 1) := dc_3 (byA eNcX0_takePost (p := 9) (v := 3) (by decide +kernel))
theorem dX0_takePost_10 : decode cX0_takePost 10 = .ok (.ireturn, 1) := dc_172 (byA eNcX0_takePost (p := 10) (v := 172) (by decide +kernel))
theorem dX0_takePost_11 : decode cX0_takePost 11 = .ok (.aload_n 0, 1) := dc_42 (byA eNcX0_takePost (p := 11) (v := 42) (by decide +kernel))
theorem dX0_takePost_12 : decode cX0_takePost 12 = .ok (.getfield 9, 3) := dc_180 (byA eNcX0_takePost (p := 12) (v := 180) (by decide +kernel)) (byA eNcX0_takePost (p := 13) (v := 0) (by decide +kernel)) (byA eNcX0_takePost (p := 14) (v := 9) (by decide +kernel)) rfl
theorem dX0_takePost_15 : decode cX0_takePost 15 = .ok (.iload_n 1, 1) := dc_27 (byA eNcX0_takePost (p := 15) (v := 27) (by decide +kernel))
theorem dX0_takePost_16 : decode cX0_takePost 16 = .ok (.iconst 0, 1) := dc_3 (byA eNcX0_takePost (p := 16) (v := 3) (by decide +kernel))
theorem dX0_takePost_17 : decode cX0_takePost 17 = .ok (.iastore, 1) := dc_79 (byA eNcX0_takePost (p := 17) (v := 79) (by decide +kernel))
theorem dX0_takePost_18 : decode cX0_takePost 18 = .ok (.aload_n 0, 1) := dc_42 (byA eNcX0_takePost (p := 18) (v := 42) (by decide +kernel))
theorem dX0_takePost_19 : decode cX0_takePost 19 = .ok (.dup, 1) := dc_89 (byA eNcX0_takePost (p := 19) (v := 89) (by decide +kernel))
theorem dX0_takePost_20 : decode cX0_takePost 20 = .ok (.getfield 34, 3) := dc_180 (byA eNcX0_takePost (p := 20) (v := 180) (by decide +kernel)) (byA eNcX0_takePost (p := 21) (v := 0) (by decide +kernel)) (byA eNcX0_takePost (p := 22) (v := 34) (by decide +kernel)) rfl
theorem dX0_takePost_23 : decode cX0_takePost 23 = .ok (.iconst 1, 1) := dc_4 (byA eNcX0_takePost (p := 23) (v := 4) (by decide +kernel))
theorem dX0_takePost_24 : decode cX0_takePost 24 = .ok (.isub, 1) := dc_100 (byA eNcX0_takePost (p := 24) (v := 100) (by decide +kernel))
theorem dX0_takePost_25 : decode cX0_takePost 25 = .ok (.putfield 34, 3) := dc_181 (byA eNcX0_takePost (p := 25) (v := 181) (by decide +kernel)) (byA eNcX0_takePost (p := 26) (v := 0) (by decide +kernel)) (byA eNcX0_takePost (p := 27) (v := 34) (by decide +kernel)) rfl
theorem dX0_takePost_28 : decode cX0_takePost 28 = .ok (.iconst 1, 1) := dc_4 (byA eNcX0_takePost (p := 28) (v := 4) (by decide +kernel))
theorem dX0_takePost_29 : decode cX0_takePost 29 = .ok (.ireturn, 1) := dc_172 (byA eNcX0_takePost (p := 29) (v := 172) (by decide +kernel))
def X0_takePost (l0 : Nat) (l1 : Int) (μ : Mm) : Rs := bd (X0_cellAt l0 l1 μ) fun v1 μ2 => if v1 = 1 then (stA μ2 (l0 + 1) l1 0 fun μ5 => sF μ5 l0 6 (iS (μ5 l0 6) 1) fun μ7 => some (1, μ7)) else (some (0, μ2))
set_option maxHeartbeats 4000000 in
set_option maxRecDepth 100000 in
theorem kX0_takePost (d : Nat) (hd : 2 ≤ d) {l0 : Nat} {l1 : Int} (hk0 : kD l0 = (10, 9)) {μ : Mm} {r : Int} {μ' : Mm} (h : X0_takePost l0 l1 μ = some (r, μ')) : CC d mX0_takePost [vR l0, vI l1] μ r μ' := by
  unfold X0_takePost at h
  refine V_enter (by decide) (Nat.le_of_ble_eq_true rfl) ?_
  show VV d mX0_takePost 0 [some (vR l0), some (vI l1)] [] μ r μ'
  refine V_aload_n (q := 1) dX0_takePost_0 rfl rfl rfl ?_
  refine V_iload_n (q := 2) dX0_takePost_1 rfl rfl rfl ?_
  obtain ⟨v1, μ2, hc3, h⟩ := bd_i h
  refine V_cV1 (q := 5) (v := vI v1) (kX0_cellAt (d - 1) (by omega) hk0 hc3) (by omega) mv_X0_101 hk0 rfl rfl rfl rfl rfl dX0_takePost_2 rfl ?_
  refine V_iconst (q := 6) dX0_takePost_5 rfl rfl ?_
  refine V_icmpeq (q := 11) (q2 := 9) dX0_takePost_6 (by decide) rfl (fun hc4 => ?_) (fun hc4 => ?_)
  · have h := ifT hc4 h
    refine V_aload_n (q := 12) dX0_takePost_11 rfl rfl rfl ?_
    refine V_getO (q := 15) (t := _) fl_X0_9 hk0 rfl rfl rfl dX0_takePost_12 rfl ?_
    refine V_iload_n (q := 16) dX0_takePost_15 rfl rfl rfl ?_
    refine V_iconst (q := 17) dX0_takePost_16 rfl rfl ?_
    obtain ⟨hi6, h⟩ := stA_i h
    refine V_iastore (q := 18) (kdo_0_0 hk0) hi6 dX0_takePost_17 rfl ?_
    refine V_aload_n (q := 19) dX0_takePost_18 rfl rfl rfl ?_
    refine V_dup (q := 20) dX0_takePost_19 trivial rfl ?_
    refine V_getI (q := 23) fl_X0_34 hk0 rfl rfl dX0_takePost_20 rfl ?_
    refine V_iconst (q := 24) dX0_takePost_23 rfl rfl ?_
    refine V_isub (q := 25) dX0_takePost_24 rfl ?_
    have h := sF_i h
    refine V_putI (q := 28) fl_X0_34 hk0 rfl rfl dX0_takePost_25 rfl ?_
    refine V_iconst (q := 29) dX0_takePost_28 rfl rfl ?_
    exact V_zret rfl (Or.inr rfl) h dX0_takePost_29
  · have h := ifF hc4 h
    refine V_iconst (q := 10) dX0_takePost_9 rfl rfl ?_
    exact V_zret rfl (Or.inl rfl) h dX0_takePost_10
abbrev mX0_putPost : Mth := (yX0_putPost, cX0_putPost, 2, some .boolean)
set_option maxRecDepth 100000 in
theorem mi_X0_putPost : Cond.instanceMethod yX0_putPost ∈ tG ∧ Cond.selects yX0_putPost.cls yX0_putPost yX0_putPost ∈ tG ∧ Cond.initialized yX0_putPost.cls ∈ tG ∧ Cond.code yX0_putPost cX0_putPost 2 (some .boolean) ∈ tG ∧ (yX0_putPost.cls ≠ "java/lang/invoke/MethodHandle" ∧ yX0_putPost.cls ≠ "java/lang/invoke/VarHandle" ∧ (parseMethodDescriptor yX0_putPost.desc).map (fun d => d.parameters.length) = some 1) ∧ 2 ≤ 60 := ⟨(tG_of (tb4 (List.mem_of_getElem? (i := 180) rfl)) (by decide +kernel)), (tG_of (tb4 (List.mem_of_getElem? (i := 181) rfl)) (by decide +kernel)), (tG_of (tb1 (List.mem_of_getElem? (i := 5) rfl)) (by decide +kernel)), (tG_of (tb4 (List.mem_of_getElem? (i := 182) rfl)) (by decide +kernel)), ⟨by decide, by decide, by decide +kernel⟩, by decide⟩
set_option maxRecDepth 100000 in
theorem mv_X10_347 : mV RX10 347 mX0_putPost 1 := ⟨(tG_of (tb4 (List.mem_of_getElem? (i := 179) rfl)) (by decide +kernel)), mi_X0_putPost⟩
theorem dX0_putPost_0 : decode cX0_putPost 0 = .ok (.aload_n 0, 1) := dc_42 (byA eNcX0_putPost (p := 0) (v := 42) (by decide +kernel))
theorem dX0_putPost_1 : decode cX0_putPost 1 = .ok (.iload_n 1, 1) := dc_27 (byA eNcX0_putPost (p := 1) (v := 27) (by decide +kernel))
theorem dX0_putPost_2 : decode cX0_putPost 2 = .ok (.invokevirtual 101, 3) := dc_182 (byA eNcX0_putPost (p := 2) (v := 182) (by decide +kernel)) (byA eNcX0_putPost (p := 3) (v := 0) (by decide +kernel)) (byA eNcX0_putPost (p := 4) (v := 101) (by decide +kernel)) rfl
theorem dX0_putPost_5 : decode cX0_putPost 5 = .ok (.ifCond .eq 5, 3) := dc_153 (byA eNcX0_putPost (p := 5) (v := 153) (by decide +kernel)) (byA eNcX0_putPost (p := 6) (v := 0) (by decide +kernel)) (byA eNcX0_putPost (p := 7) (v := 5) (by decide +kernel)) (by decide +kernel)
theorem dX0_putPost_8 : decode cX0_putPost 8 = .ok (.iconst 0, 1) := dc_3 (byA eNcX0_putPost (p := 8) (v := 3) (by decide +kernel))
theorem dX0_putPost_9 : decode cX0_putPost 9 = .ok (.ireturn, 1) := dc_172 (byA eNcX0_putPost (p := 9) (v := 172) (by decide +kernel))
theorem dX0_putPost_10 : decode cX0_putPost 10 = .ok (.aload_n 0, 1) := dc_42 (byA eNcX0_putPost (p := 10) (v := 42) (by decide +kernel))
theorem dX0_putPost_11 : decode cX0_putPost 11 = .ok (.getfield 9, 3) := dc_180 (byA eNcX0_putPost (p := 11) (v := 180) (by decide +kernel)) (byA eNcX0_putPost (p := 12) (v := 0) (by decide +kernel)) (byA eNcX0_putPost (p := 13) (v := 9) (by decide +kernel)) rfl
theorem dX0_putPost_14 : decode cX0_putPost 14 = .ok (.iload_n 1, 1) := dc_27 (byA eNcX0_putPost (p := 14) (v := 27) (by decide +kernel))
theorem dX0_putPost_15 : decode cX0_putPost 15 = .ok (.iconst 1, 1) := dc_4 (byA eNcX0_putPost (p := 15) (v := 4) (by decide +kernel))
theorem dX0_putPost_16 : decode cX0_putPost 16 = .ok (.iastore, 1) := dc_79 (byA eNcX0_putPost (p := 16) (v := 79) (by decide +kernel))
theorem dX0_putPost_17 : decode cX0_putPost 17 = .ok (.aload_n 0, 1) := dc_42 (byA eNcX0_putPost (p := 17) (v := 42) (by decide +kernel))
theorem dX0_putPost_18 : decode cX0_putPost 18 = .ok (.dup, 1) := dc_89 (byA eNcX0_putPost (p := 18) (v := 89) (by decide +kernel))
theorem dX0_putPost_19 : decode cX0_putPost 19 = .ok (.getfield 34, 3) := dc_180 (byA eNcX0_putPost (p := 19) (v := 180) (by decide +kernel)) (byA eNcX0_putPost (p := 20) (v := 0) (by decide +kernel)) (byA eNcX0_putPost (p := 21) (v := 34) (by decide +kernel)) rfl
theorem dX0_putPost_22 : decode cX0_putPost 22 = .ok (.iconst 1, 1) := dc_4 (byA eNcX0_putPost (p := 22) (v := 4) (by decide +kernel))
theorem dX0_putPost_23 : decode cX0_putPost 23 = .ok (.iadd, 1) := dc_96 (byA eNcX0_putPost (p := 23) (v := 96) (by decide +kernel))
theorem dX0_putPost_24 : decode cX0_putPost 24 = .ok (.putfield 34, 3) := dc_181 (byA eNcX0_putPost (p := 24) (v := 181) (by decide +kernel)) (byA eNcX0_putPost (p := 25) (v := 0) (by decide +kernel)) (byA eNcX0_putPost (p := 26) (v := 34) (by decide +kernel)) rfl
theorem dX0_putPost_27 : decode cX0_putPost 27 = .ok (.iconst 1, 1) := dc_4 (byA eNcX0_putPost (p := 27) (v := 4) (by decide +kernel))
theorem dX0_putPost_28 : decode cX0_putPost 28 = .ok (.ireturn, 1) := dc_172 (byA eNcX0_putPost (p := 28) (v := 172) (by decide +kernel))
def X0_putPost (l0 : Nat) (l1 : Int) (μ : Mm) : Rs := bd (X0_cellAt l0 l1 μ) fun v1 μ2 => if v1 = 0 then (stA μ2 (l0 + 1) l1 1 fun μ5 => sF μ5 l0 6 (iA (μ5 l0 6) 1) fun μ7 => some (1, μ7)) else (some (0, μ2))
set_option maxHeartbeats 4000000 in
set_option maxRecDepth 100000 in
theorem kX0_putPost (d : Nat) (hd : 2 ≤ d) {l0 : Nat} {l1 : Int} (hk0 : kD l0 = (10, 9)) {μ : Mm} {r : Int} {μ' : Mm} (h : X0_putPost l0 l1 μ = some (r, μ')) : CC d mX0_putPost [vR l0, vI l1] μ r μ' := by
  unfold X0_putPost at h
  refine V_enter (by decide) (Nat.le_of_ble_eq_true rfl) ?_
  show VV d mX0_putPost 0 [some (vR l0), some (vI l1)] [] μ r μ'
  refine V_aload_n (q := 1) dX0_putPost_0 rfl rfl rfl ?_
  refine V_iload_n (q := 2) dX0_putPost_1 rfl rfl rfl ?_
  obtain ⟨v1, μ2, hc3, h⟩ := bd_i h
  refine V_cV1 (q := 5) (v := vI v1) (kX0_cellAt (d - 1) (by omega) hk0 hc3) (by omega) mv_X0_101 hk0 rfl rfl rfl rfl rfl dX0_putPost_2 rfl ?_
  refine V_ifeq (q := 10) (q2 := 8) dX0_putPost_5 (by decide) rfl (fun hc4 => ?_) (fun hc4 => ?_)
  · have h := ifT hc4 h
    refine V_aload_n (q := 11) dX0_putPost_10 rfl rfl rfl ?_
    refine V_getO (q := 14) (t := _) fl_X0_9 hk0 rfl rfl rfl dX0_putPost_11 rfl ?_
    refine V_iload_n (q := 15) dX0_putPost_14 rfl rfl rfl ?_
    refine V_iconst (q := 16) dX0_putPost_15 rfl rfl ?_
    obtain ⟨hi6, h⟩ := stA_i h
    refine V_iastore (q := 17) (kdo_0_0 hk0) hi6 dX0_putPost_16 rfl ?_
    refine V_aload_n (q := 18) dX0_putPost_17 rfl rfl rfl ?_
    refine V_dup (q := 19) dX0_putPost_18 trivial rfl ?_
    refine V_getI (q := 22) fl_X0_34 hk0 rfl rfl dX0_putPost_19 rfl ?_
    refine V_iconst (q := 23) dX0_putPost_22 rfl rfl ?_
    refine V_iadd (q := 24) dX0_putPost_23 rfl ?_
    have h := sF_i h
    refine V_putI (q := 27) fl_X0_34 hk0 rfl rfl dX0_putPost_24 rfl ?_
    refine V_iconst (q := 28) dX0_putPost_27 rfl rfl ?_
    exact V_zret rfl (Or.inr rfl) h dX0_putPost_28
  · have h := ifF hc4 h
    refine V_iconst (q := 9) dX0_putPost_8 rfl rfl ?_
    exact V_zret rfl (Or.inl rfl) h dX0_putPost_9
abbrev mX9_reach : Mth := (yX9_reach, cX9_reach, 4, none)
set_option maxRecDepth 100000 in
theorem mi_X9_reach : Cond.instanceMethod yX9_reach ∈ tG ∧ Cond.selects yX9_reach.cls yX9_reach yX9_reach ∈ tG ∧ Cond.initialized yX9_reach.cls ∈ tG ∧ Cond.code yX9_reach cX9_reach 4 (none) ∈ tG ∧ (yX9_reach.cls ≠ "java/lang/invoke/MethodHandle" ∧ yX9_reach.cls ≠ "java/lang/invoke/VarHandle" ∧ (parseMethodDescriptor yX9_reach.desc).map (fun d => d.parameters.length) = some 3) ∧ 4 ≤ 60 := ⟨(tG_of (tb3 (List.mem_of_getElem? (i := 116) rfl)) (by decide +kernel)), (tG_of (List.mem_of_getElem? (i := 19) (by decide +kernel)) (by decide +kernel)), (tG_of (tb1 (List.mem_of_getElem? (i := 7) rfl)) (by decide +kernel)), (tG_of (tb3 (List.mem_of_getElem? (i := 117) rfl)) (by decide +kernel)), ⟨by decide, by decide, by decide +kernel⟩, by decide⟩
set_option maxRecDepth 100000 in
theorem mv_X9_22 : mV RX9 22 mX9_reach 3 := ⟨(tG_of (tb3 (List.mem_of_getElem? (i := 114) rfl)) (by decide +kernel)), mi_X9_reach⟩
theorem dX9_reach_0 : decode cX9_reach 0 = .ok (.aload_n 1, 1) := dc_43 (byA eNcX9_reach (p := 0) (v := 43) (by decide +kernel))
theorem dX9_reach_1 : decode cX9_reach 1 = .ok (.iload_n 2, 1) := dc_28 (byA eNcX9_reach (p := 1) (v := 28) (by decide +kernel))
theorem dX9_reach_2 : decode cX9_reach 2 = .ok (.invokevirtual 30, 3) := dc_182 (byA eNcX9_reach (p := 2) (v := 182) (by decide +kernel)) (byA eNcX9_reach (p := 3) (v := 0) (by decide +kernel)) (byA eNcX9_reach (p := 4) (v := 30) (by decide +kernel)) rfl
theorem dX9_reach_5 : decode cX9_reach 5 = .ok (.ifCond .eq 49, 3) := dc_153 (byA eNcX9_reach (p := 5) (v := 153) (by decide +kernel)) (byA eNcX9_reach (p := 6) (v := 0) (by decide +kernel)) (byA eNcX9_reach (p := 7) (v := 49) (by decide +kernel)) (by decide +kernel)
theorem dX9_reach_8 : decode cX9_reach 8 = .ok (.aload_n 0, 1) := dc_42 (byA eNcX9_reach (p := 8) (v := 42) (by decide +kernel))
theorem dX9_reach_9 : decode cX9_reach 9 = .ok (.getfield 9, 3) := dc_180 (byA eNcX9_reach (p := 9) (v := 180) (by decide +kernel)) (byA eNcX9_reach (p := 10) (v := 0) (by decide +kernel)) (byA eNcX9_reach (p := 11) (v := 9) (by decide +kernel)) rfl
theorem dX9_reach_12 : decode cX9_reach 12 = .ok (.iload_n 2, 1) := dc_28 (byA eNcX9_reach (p := 12) (v := 28) (by decide +kernel))
theorem dX9_reach_13 : decode cX9_reach 13 = .ok (.iaload, 1) := dc_46 (byA eNcX9_reach (p := 13) (v := 46) (by decide +kernel))
theorem dX9_reach_14 : decode cX9_reach 14 = .ok (.iconst (-1), 1) := dc_2 (byA eNcX9_reach (p := 14) (v := 2) (by decide +kernel))
theorem dX9_reach_15 : decode cX9_reach 15 = .ok (.if_icmp .ne 39, 3) := dc_160 (byA eNcX9_reach (p := 15) (v := 160) (by decide +kernel)) (byA eNcX9_reach (p := 16) (v := 0) (by decide +kernel)) (byA eNcX9_reach (p := 17) (v := 39) (by decide +kernel)) (by decide +kernel)
theorem dX9_reach_18 : decode cX9_reach 18 = .ok (.aload_n 0, 1) := dc_42 (byA eNcX9_reach (p := 18) (v := 42) (by decide +kernel))
theorem dX9_reach_19 : decode cX9_reach 19 = .ok (.getfield 18, 3) := dc_180 (byA eNcX9_reach (p := 19) (v := 180) (by decide +kernel)) (byA eNcX9_reach (p := 20) (v := 0) (by decide +kernel)) (byA eNcX9_reach (p := 21) (v := 18) (by decide +kernel)) rfl
theorem dX9_reach_22 : decode cX9_reach 22 = .ok (.bipush 60, 2) := dc_16 (byA eNcX9_reach (p := 22) (v := 16) (by decide +kernel)) (byA eNcX9_reach (p := 23) (v := 60) (by decide +kernel)) (by decide +kernel)
theorem dX9_reach_24 : decode cX9_reach 24 = .ok (.if_icmp .ge 30, 3) := dc_162 (byA eNcX9_reach (p := 24) (v := 162) (by decide +kernel)) (byA eNcX9_reach (p := 25) (v := 0) (by decide +kernel)) (byA eNcX9_reach (p := 26) (v := 30) (by decide +kernel)) (by decide +kernel)
theorem dX9_reach_27 : decode cX9_reach 27 = .ok (.aload_n 0, 1) := dc_42 (byA eNcX9_reach (p := 27) (v := 42) (by decide +kernel))
theorem dX9_reach_28 : decode cX9_reach 28 = .ok (.getfield 9, 3) := dc_180 (byA eNcX9_reach (p := 28) (v := 180) (by decide +kernel)) (byA eNcX9_reach (p := 29) (v := 0) (by decide +kernel)) (byA eNcX9_reach (p := 30) (v := 9) (by decide +kernel)) rfl
theorem dX9_reach_31 : decode cX9_reach 31 = .ok (.iload_n 2, 1) := dc_28 (byA eNcX9_reach (p := 31) (v := 28) (by decide +kernel))
theorem dX9_reach_32 : decode cX9_reach 32 = .ok (.iload_n 3, 1) := dc_29 (byA eNcX9_reach (p := 32) (v := 29) (by decide +kernel))
theorem dX9_reach_33 : decode cX9_reach 33 = .ok (.iastore, 1) := dc_79 (byA eNcX9_reach (p := 33) (v := 79) (by decide +kernel))
theorem dX9_reach_34 : decode cX9_reach 34 = .ok (.aload_n 0, 1) := dc_42 (byA eNcX9_reach (p := 34) (v := 42) (by decide +kernel))
theorem dX9_reach_35 : decode cX9_reach 35 = .ok (.getfield 15, 3) := dc_180 (byA eNcX9_reach (p := 35) (v := 180) (by decide +kernel)) (byA eNcX9_reach (p := 36) (v := 0) (by decide +kernel)) (byA eNcX9_reach (p := 37) (v := 15) (by decide +kernel)) rfl
theorem dX9_reach_38 : decode cX9_reach 38 = .ok (.aload_n 0, 1) := dc_42 (byA eNcX9_reach (p := 38) (v := 42) (by decide +kernel))
theorem dX9_reach_39 : decode cX9_reach 39 = .ok (.getfield 18, 3) := dc_180 (byA eNcX9_reach (p := 39) (v := 180) (by decide +kernel)) (byA eNcX9_reach (p := 40) (v := 0) (by decide +kernel)) (byA eNcX9_reach (p := 41) (v := 18) (by decide +kernel)) rfl
theorem dX9_reach_42 : decode cX9_reach 42 = .ok (.iload_n 2, 1) := dc_28 (byA eNcX9_reach (p := 42) (v := 28) (by decide +kernel))
theorem dX9_reach_43 : decode cX9_reach 43 = .ok (.iastore, 1) := dc_79 (byA eNcX9_reach (p := 43) (v := 79) (by decide +kernel))
theorem dX9_reach_44 : decode cX9_reach 44 = .ok (.aload_n 0, 1) := dc_42 (byA eNcX9_reach (p := 44) (v := 42) (by decide +kernel))
theorem dX9_reach_45 : decode cX9_reach 45 = .ok (.dup, 1) := dc_89 (byA eNcX9_reach (p := 45) (v := 89) (by decide +kernel))
theorem dX9_reach_46 : decode cX9_reach 46 = .ok (.getfield 18, 3) := dc_180 (byA eNcX9_reach (p := 46) (v := 180) (by decide +kernel)) (byA eNcX9_reach (p := 47) (v := 0) (by decide +kernel)) (byA eNcX9_reach (p := 48) (v := 18) (by decide +kernel)) rfl
theorem dX9_reach_49 : decode cX9_reach 49 = .ok (.iconst 1, 1) := dc_4 (byA eNcX9_reach (p := 49) (v := 4) (by decide +kernel))
theorem dX9_reach_50 : decode cX9_reach 50 = .ok (.iadd, 1) := dc_96 (byA eNcX9_reach (p := 50) (v := 96) (by decide +kernel))
theorem dX9_reach_51 : decode cX9_reach 51 = .ok (.putfield 18, 3) := dc_181 (byA eNcX9_reach (p := 51) (v := 181) (by decide +kernel)) (byA eNcX9_reach (p := 52) (v := 0) (by decide +kernel)) (byA eNcX9_reach (p := 53) (v := 18) (by decide +kernel)) rfl
theorem dX9_reach_54 : decode cX9_reach 54 = .ok (.return_, 1) := dc_177 (byA eNcX9_reach (p := 54) (v := 177) (by decide +kernel))
def X9_reach (l1 : Nat) (l2 : Int) (l3 : Int) (μ : Mm) : Rs := bd (X0_isOpen l1 l2 μ) fun v1 μ2 => if v1 = 0 then (some (0, μ2)) else (ldA μ2 46 l2 fun v5 => if v5 = (-1) then (if 60 ≤ (μ2 45 2) then (some (0, μ2)) else (stA μ2 46 l2 l3 fun μ9 => stA μ9 47 (μ9 45 2) l2 fun μ11 => sF μ11 45 2 (iA (μ11 45 2) 1) fun μ13 => some (0, μ13))) else (some (0, μ2)))
set_option maxHeartbeats 4000000 in
set_option maxRecDepth 100000 in
theorem kX9_reach (d : Nat) (hd : 2 ≤ d) {l1 : Nat} {l2 : Int} {l3 : Int} (hk1 : kD l1 = (10, 9)) {μ : Mm} {r : Int} {μ' : Mm} (h : X9_reach l1 l2 l3 μ = some (r, μ')) : CC d mX9_reach [vR 45, vR l1, vI l2, vI l3] μ r μ' := by
  unfold X9_reach at h
  refine V_enter (by decide) (Nat.le_of_ble_eq_true rfl) ?_
  show VV d mX9_reach 0 [some (vR 45), some (vR l1), some (vI l2), some (vI l3)] [] μ r μ'
  refine V_aload_n (q := 1) dX9_reach_0 rfl rfl rfl ?_
  refine V_iload_n (q := 2) dX9_reach_1 rfl rfl rfl ?_
  obtain ⟨v1, μ2, hc3, h⟩ := bd_i h
  refine V_cV1 (q := 5) (v := vI v1) (kX0_isOpen (d - 1) (by omega) hk1 hc3) (by omega) mv_X9_30 hk1 rfl rfl rfl rfl rfl dX9_reach_2 rfl ?_
  refine V_ifeq (q := 54) (q2 := 8) dX9_reach_5 (by decide) rfl (fun hc4 => ?_) (fun hc4 => ?_)
  · have h := ifT hc4 h
    exact V_vret rfl h dX9_reach_54
  · have h := ifF hc4 h
    refine V_aload_n (q := 9) dX9_reach_8 rfl rfl rfl ?_
    refine V_getO (q := 12) (t := 46) fl_X9_9 rfl rfl rfl rfl dX9_reach_9 rfl ?_
    refine V_iload_n (q := 13) dX9_reach_12 rfl rfl rfl ?_
    obtain ⟨hi6, h⟩ := ldA_i h
    refine V_iaload (q := 14) rfl hi6 dX9_reach_13 rfl ?_
    refine V_iconst (q := 15) dX9_reach_14 rfl rfl ?_
    refine V_icmpne (q := 54) (q2 := 18) dX9_reach_15 (by decide) rfl (fun hc7 => ?_) (fun hc7 => ?_)
    · have h := ifF hc7 h
      exact V_vret rfl h dX9_reach_54
    · have h := ifT hc7 h
      refine V_aload_n (q := 19) dX9_reach_18 rfl rfl rfl ?_
      refine V_getI (q := 22) fl_X9_18 rfl rfl rfl dX9_reach_19 rfl ?_
      refine V_bipush (q := 24) dX9_reach_22 rfl rfl rfl ?_
      refine V_icmpge (q := 54) (q2 := 27) dX9_reach_24 (by decide) rfl (fun hc8 => ?_) (fun hc8 => ?_)
      · have h := ifT hc8 h
        exact V_vret rfl h dX9_reach_54
      · have h := ifF hc8 h
        refine V_aload_n (q := 28) dX9_reach_27 rfl rfl rfl ?_
        refine V_getO (q := 31) (t := 46) fl_X9_9 rfl rfl rfl rfl dX9_reach_28 rfl ?_
        refine V_iload_n (q := 32) dX9_reach_31 rfl rfl rfl ?_
        refine V_iload_n (q := 33) dX9_reach_32 rfl rfl rfl ?_
        obtain ⟨hi10, h⟩ := stA_i h
        refine V_iastore (q := 34) rfl hi10 dX9_reach_33 rfl ?_
        refine V_aload_n (q := 35) dX9_reach_34 rfl rfl rfl ?_
        refine V_getO (q := 38) (t := 47) fl_X9_15 rfl rfl rfl rfl dX9_reach_35 rfl ?_
        refine V_aload_n (q := 39) dX9_reach_38 rfl rfl rfl ?_
        refine V_getI (q := 42) fl_X9_18 rfl rfl rfl dX9_reach_39 rfl ?_
        refine V_iload_n (q := 43) dX9_reach_42 rfl rfl rfl ?_
        obtain ⟨hi12, h⟩ := stA_i h
        refine V_iastore (q := 44) rfl hi12 dX9_reach_43 rfl ?_
        refine V_aload_n (q := 45) dX9_reach_44 rfl rfl rfl ?_
        refine V_dup (q := 46) dX9_reach_45 trivial rfl ?_
        refine V_getI (q := 49) fl_X9_18 rfl rfl rfl dX9_reach_46 rfl ?_
        refine V_iconst (q := 50) dX9_reach_49 rfl rfl ?_
        refine V_iadd (q := 51) dX9_reach_50 rfl ?_
        have h := sF_i h
        refine V_putI (q := 54) fl_X9_18 rfl rfl rfl dX9_reach_51 rfl ?_
        exact V_vret rfl h dX9_reach_54
abbrev mX9_stepsTo : Mth := (yX9_stepsTo, cX9_stepsTo, 2, some .int)
set_option maxRecDepth 100000 in
theorem mi_X9_stepsTo : Cond.instanceMethod yX9_stepsTo ∈ tG ∧ Cond.selects yX9_stepsTo.cls yX9_stepsTo yX9_stepsTo ∈ tG ∧ Cond.initialized yX9_stepsTo.cls ∈ tG ∧ Cond.code yX9_stepsTo cX9_stepsTo 2 (some .int) ∈ tG ∧ (yX9_stepsTo.cls ≠ "java/lang/invoke/MethodHandle" ∧ yX9_stepsTo.cls ≠ "java/lang/invoke/VarHandle" ∧ (parseMethodDescriptor yX9_stepsTo.desc).map (fun d => d.parameters.length) = some 1) ∧ 2 ≤ 60 := ⟨(tG_of (tb3 (List.mem_of_getElem? (i := 123) rfl)) (by decide +kernel)), (tG_of (tb3 (List.mem_of_getElem? (i := 124) rfl)) (by decide +kernel)), (tG_of (tb1 (List.mem_of_getElem? (i := 7) rfl)) (by decide +kernel)), (tG_of (tb3 (List.mem_of_getElem? (i := 125) rfl)) (by decide +kernel)), ⟨by decide, by decide, by decide +kernel⟩, by decide⟩
set_option maxRecDepth 100000 in
theorem mv_X10_185 : mV RX10 185 mX9_stepsTo 1 := ⟨(tG_of (tb3 (List.mem_of_getElem? (i := 126) rfl)) (by decide +kernel)), mi_X9_stepsTo⟩
set_option maxRecDepth 100000 in
theorem mv_X1_63 : mV RX1 63 mX9_stepsTo 1 := ⟨(tG_of (tb4 (List.mem_of_getElem? (i := 6) rfl)) (by decide +kernel)), mi_X9_stepsTo⟩
set_option maxRecDepth 100000 in
theorem mv_X9_26 : mV RX9 26 mX9_stepsTo 1 := ⟨(tG_of (tb3 (List.mem_of_getElem? (i := 122) rfl)) (by decide +kernel)), mi_X9_stepsTo⟩
theorem dX9_stepsTo_0 : decode cX9_stepsTo 0 = .ok (.iload_n 1, 1) := dc_27 (byA eNcX9_stepsTo (p := 0) (v := 27) (by decide +kernel))
theorem dX9_stepsTo_1 : decode cX9_stepsTo 1 = .ok (.ifCond .lt 18, 3) := dc_155 (byA eNcX9_stepsTo (p := 1) (v := 155) (by decide +kernel)) (byA eNcX9_stepsTo (p := 2) (v := 0) (by decide +kernel)) (byA eNcX9_stepsTo (p := 3) (v := 18) (by decide +kernel)) (by decide +kernel)
theorem dX9_stepsTo_4 : decode cX9_stepsTo 4 = .ok (.iload_n 1, 1) := dc_27 (byA eNcX9_stepsTo (p := 4) (v := 27) (by decide +kernel))
theorem dX9_stepsTo_5 : decode cX9_stepsTo 5 = .ok (.bipush 60, 2) := dc_16 (byA eNcX9_stepsTo (p := 5) (v := 16) (by decide +kernel)) (byA eNcX9_stepsTo (p := 6) (v := 60) (by decide +kernel)) (by decide +kernel)
theorem dX9_stepsTo_7 : decode cX9_stepsTo 7 = .ok (.if_icmp .ge 12, 3) := dc_162 (byA eNcX9_stepsTo (p := 7) (v := 162) (by decide +kernel)) (byA eNcX9_stepsTo (p := 8) (v := 0) (by decide +kernel)) (byA eNcX9_stepsTo (p := 9) (v := 12) (by decide +kernel)) (by decide +kernel)
theorem dX9_stepsTo_10 : decode cX9_stepsTo 10 = .ok (.aload_n 0, 1) := dc_42 (byA eNcX9_stepsTo (p := 10) (v := 42) (by decide +kernel))
theorem dX9_stepsTo_11 : decode cX9_stepsTo 11 = .ok (.getfield 9, 3) := dc_180 (byA eNcX9_stepsTo (p := 11) (v := 180) (by decide +kernel)) (byA eNcX9_stepsTo (p := 12) (v := 0) (by decide +kernel)) (byA eNcX9_stepsTo (p := 13) (v := 9) (by decide +kernel)) rfl
theorem dX9_stepsTo_14 : decode cX9_stepsTo 14 = .ok (.iload_n 1, 1) := dc_27 (byA eNcX9_stepsTo (p := 14) (v := 27) (by decide +kernel))
theorem dX9_stepsTo_15 : decode cX9_stepsTo 15 = .ok (.iaload, 1) := dc_46 (byA eNcX9_stepsTo (p := 15) (v := 46) (by decide +kernel))
theorem dX9_stepsTo_16 : decode cX9_stepsTo 16 = .ok (.goto 4, 3) := dc_167 (byA eNcX9_stepsTo (p := 16) (v := 167) (by decide +kernel)) (byA eNcX9_stepsTo (p := 17) (v := 0) (by decide +kernel)) (byA eNcX9_stepsTo (p := 18) (v := 4) (by decide +kernel)) (by decide +kernel)
theorem dX9_stepsTo_19 : decode cX9_stepsTo 19 = .ok (.iconst (-1), 1) := dc_2 (byA eNcX9_stepsTo (p := 19) (v := 2) (by decide +kernel))
theorem dX9_stepsTo_20 : decode cX9_stepsTo 20 = .ok (.ireturn, 1) := dc_172 (byA eNcX9_stepsTo (p := 20) (v := 172) (by decide +kernel))
def X9_stepsTo (l1 : Int) (μ : Mm) : Rs := if l1 < 0 then (some ((-1), μ)) else (if 60 ≤ l1 then (some ((-1), μ)) else (ldA μ 46 l1 fun v3 => some (v3, μ)))
set_option maxHeartbeats 4000000 in
set_option maxRecDepth 100000 in
theorem kX9_stepsTo (d : Nat) (hd : 1 ≤ d) {l1 : Int} {μ : Mm} {r : Int} {μ' : Mm} (h : X9_stepsTo l1 μ = some (r, μ')) : CC d mX9_stepsTo [vR 45, vI l1] μ r μ' := by
  unfold X9_stepsTo at h
  refine V_enter (by decide) (Nat.le_of_ble_eq_true rfl) ?_
  show VV d mX9_stepsTo 0 [some (vR 45), some (vI l1)] [] μ r μ'
  refine V_iload_n (q := 1) dX9_stepsTo_0 rfl rfl rfl ?_
  refine V_iflt (q := 19) (q2 := 4) dX9_stepsTo_1 (by decide) rfl (fun hc1 => ?_) (fun hc1 => ?_)
  · have h := ifT hc1 h
    refine V_iconst (q := 20) dX9_stepsTo_19 rfl rfl ?_
    exact V_iret rfl h dX9_stepsTo_20
  · have h := ifF hc1 h
    refine V_iload_n (q := 5) dX9_stepsTo_4 rfl rfl rfl ?_
    refine V_bipush (q := 7) dX9_stepsTo_5 rfl rfl rfl ?_
    refine V_icmpge (q := 19) (q2 := 10) dX9_stepsTo_7 (by decide) rfl (fun hc2 => ?_) (fun hc2 => ?_)
    · have h := ifT hc2 h
      refine V_iconst (q := 20) dX9_stepsTo_19 rfl rfl ?_
      exact V_iret rfl h dX9_stepsTo_20
    · have h := ifF hc2 h
      refine V_aload_n (q := 11) dX9_stepsTo_10 rfl rfl rfl ?_
      refine V_getO (q := 14) (t := 46) fl_X9_9 rfl rfl rfl rfl dX9_stepsTo_11 rfl ?_
      refine V_iload_n (q := 15) dX9_stepsTo_14 rfl rfl rfl ?_
      obtain ⟨hi4, h⟩ := ldA_i h
      refine V_iaload (q := 16) rfl hi4 dX9_stepsTo_15 rfl ?_
      refine V_goto (q := 20) dX9_stepsTo_16 (by decide) ?_
      exact V_iret rfl h dX9_stepsTo_20
abbrev mX9_measure : Mth := (yX9_measure, cX9_measure, 6, none)
set_option maxRecDepth 100000 in
theorem mi_X9_measure : Cond.instanceMethod yX9_measure ∈ tG ∧ Cond.selects yX9_measure.cls yX9_measure yX9_measure ∈ tG ∧ Cond.initialized yX9_measure.cls ∈ tG ∧ Cond.code yX9_measure cX9_measure 6 (none) ∈ tG ∧ (yX9_measure.cls ≠ "java/lang/invoke/MethodHandle" ∧ yX9_measure.cls ≠ "java/lang/invoke/VarHandle" ∧ (parseMethodDescriptor yX9_measure.desc).map (fun d => d.parameters.length) = some 2) ∧ 6 ≤ 60 := ⟨(tG_of (tb3 (List.mem_of_getElem? (i := 111) rfl)) (by decide +kernel)), (tG_of (tb3 (List.mem_of_getElem? (i := 112) rfl)) (by decide +kernel)), (tG_of (tb1 (List.mem_of_getElem? (i := 7) rfl)) (by decide +kernel)), (tG_of (tb3 (List.mem_of_getElem? (i := 113) rfl)) (by decide +kernel)), ⟨by decide, by decide, by decide +kernel⟩, by decide⟩
set_option maxRecDepth 100000 in
theorem mv_X10_181 : mV RX10 181 mX9_measure 2 := ⟨(tG_of (tb3 (List.mem_of_getElem? (i := 110) rfl)) (by decide +kernel)), mi_X9_measure⟩
set_option maxRecDepth 100000 in
theorem mv_X1_58 : mV RX1 58 mX9_measure 2 := ⟨(tG_of (tb4 (List.mem_of_getElem? (i := 4) rfl)) (by decide +kernel)), mi_X9_measure⟩
theorem dX9_measure_0 : decode cX9_measure 0 = .ok (.iconst 0, 1) := dc_3 (byA eNcX9_measure (p := 0) (v := 3) (by decide +kernel))
theorem dX9_measure_1 : decode cX9_measure 1 = .ok (.istore_n 3, 1) := dc_62 (byA eNcX9_measure (p := 1) (v := 62) (by decide +kernel))
theorem dX9_measure_2 : decode cX9_measure 2 = .ok (.iload_n 3, 1) := dc_29 (byA eNcX9_measure (p := 2) (v := 29) (by decide +kernel))
theorem dX9_measure_3 : decode cX9_measure 3 = .ok (.bipush 60, 2) := dc_16 (byA eNcX9_measure (p := 3) (v := 16) (by decide +kernel)) (byA eNcX9_measure (p := 4) (v := 60) (by decide +kernel)) (by decide +kernel)
theorem dX9_measure_5 : decode cX9_measure 5 = .ok (.if_icmp .ge 16, 3) := dc_162 (byA eNcX9_measure (p := 5) (v := 162) (by decide +kernel)) (byA eNcX9_measure (p := 6) (v := 0) (by decide +kernel)) (byA eNcX9_measure (p := 7) (v := 16) (by decide +kernel)) (by decide +kernel)
theorem dX9_measure_8 : decode cX9_measure 8 = .ok (.aload_n 0, 1) := dc_42 (byA eNcX9_measure (p := 8) (v := 42) (by decide +kernel))
theorem dX9_measure_9 : decode cX9_measure 9 = .ok (.getfield 9, 3) := dc_180 (byA eNcX9_measure (p := 9) (v := 180) (by decide +kernel)) (byA eNcX9_measure (p := 10) (v := 0) (by decide +kernel)) (byA eNcX9_measure (p := 11) (v := 9) (by decide +kernel)) rfl
theorem dX9_measure_12 : decode cX9_measure 12 = .ok (.iload_n 3, 1) := dc_29 (byA eNcX9_measure (p := 12) (v := 29) (by decide +kernel))
theorem dX9_measure_13 : decode cX9_measure 13 = .ok (.iconst (-1), 1) := dc_2 (byA eNcX9_measure (p := 13) (v := 2) (by decide +kernel))
theorem dX9_measure_14 : decode cX9_measure 14 = .ok (.iastore, 1) := dc_79 (byA eNcX9_measure (p := 14) (v := 79) (by decide +kernel))
theorem dX9_measure_15 : decode cX9_measure 15 = .ok (.iinc 3 1, 3) := dc_132 (byA eNcX9_measure (p := 15) (v := 132) (by decide +kernel)) (byA eNcX9_measure (p := 16) (v := 3) (by decide +kernel)) (byA eNcX9_measure (p := 17) (v := 1) (by decide +kernel)) (by decide +kernel)
theorem dX9_measure_18 : decode cX9_measure 18 = .ok (.goto (-16), 3) := dc_167 (byA eNcX9_measure (p := 18) (v := 167) (by decide +kernel)) (byA eNcX9_measure (p := 19) (v := 255) (by decide +kernel)) (byA eNcX9_measure (p := 20) (v := 240) (by decide +kernel)) (by decide +kernel)
theorem dX9_measure_21 : decode cX9_measure 21 = .ok (.aload_n 0, 1) := dc_42 (byA eNcX9_measure (p := 21) (v := 42) (by decide +kernel))
theorem dX9_measure_22 : decode cX9_measure 22 = .ok (.iconst 0, 1) := dc_3 (byA eNcX9_measure (p := 22) (v := 3) (by decide +kernel))
theorem dX9_measure_23 : decode cX9_measure 23 = .ok (.putfield 18, 3) := dc_181 (byA eNcX9_measure (p := 23) (v := 181) (by decide +kernel)) (byA eNcX9_measure (p := 24) (v := 0) (by decide +kernel)) (byA eNcX9_measure (p := 25) (v := 18) (by decide +kernel)) rfl
theorem dX9_measure_26 : decode cX9_measure 26 = .ok (.aload_n 0, 1) := dc_42 (byA eNcX9_measure (p := 26) (v := 42) (by decide +kernel))
theorem dX9_measure_27 : decode cX9_measure 27 = .ok (.aload_n 1, 1) := dc_43 (byA eNcX9_measure (p := 27) (v := 43) (by decide +kernel))
theorem dX9_measure_28 : decode cX9_measure 28 = .ok (.iload_n 2, 1) := dc_28 (byA eNcX9_measure (p := 28) (v := 28) (by decide +kernel))
theorem dX9_measure_29 : decode cX9_measure 29 = .ok (.iconst 0, 1) := dc_3 (byA eNcX9_measure (p := 29) (v := 3) (by decide +kernel))
theorem dX9_measure_30 : decode cX9_measure 30 = .ok (.invokevirtual 22, 3) := dc_182 (byA eNcX9_measure (p := 30) (v := 182) (by decide +kernel)) (byA eNcX9_measure (p := 31) (v := 0) (by decide +kernel)) (byA eNcX9_measure (p := 32) (v := 22) (by decide +kernel)) rfl
theorem dX9_measure_33 : decode cX9_measure 33 = .ok (.iconst 0, 1) := dc_3 (byA eNcX9_measure (p := 33) (v := 3) (by decide +kernel))
theorem dX9_measure_34 : decode cX9_measure 34 = .ok (.istore_n 3, 1) := dc_62 (byA eNcX9_measure (p := 34) (v := 62) (by decide +kernel))
theorem dX9_measure_35 : decode cX9_measure 35 = .ok (.iload_n 3, 1) := dc_29 (byA eNcX9_measure (p := 35) (v := 29) (by decide +kernel))
theorem dX9_measure_36 : decode cX9_measure 36 = .ok (.aload_n 0, 1) := dc_42 (byA eNcX9_measure (p := 36) (v := 42) (by decide +kernel))
theorem dX9_measure_37 : decode cX9_measure 37 = .ok (.getfield 18, 3) := dc_180 (byA eNcX9_measure (p := 37) (v := 180) (by decide +kernel)) (byA eNcX9_measure (p := 38) (v := 0) (by decide +kernel)) (byA eNcX9_measure (p := 39) (v := 18) (by decide +kernel)) rfl
theorem dX9_measure_40 : decode cX9_measure 40 = .ok (.if_icmp .ge 79, 3) := dc_162 (byA eNcX9_measure (p := 40) (v := 162) (by decide +kernel)) (byA eNcX9_measure (p := 41) (v := 0) (by decide +kernel)) (byA eNcX9_measure (p := 42) (v := 79) (by decide +kernel)) (by decide +kernel)
theorem dX9_measure_43 : decode cX9_measure 43 = .ok (.iload_n 3, 1) := dc_29 (byA eNcX9_measure (p := 43) (v := 29) (by decide +kernel))
theorem dX9_measure_44 : decode cX9_measure 44 = .ok (.bipush 60, 2) := dc_16 (byA eNcX9_measure (p := 44) (v := 16) (by decide +kernel)) (byA eNcX9_measure (p := 45) (v := 60) (by decide +kernel)) (by decide +kernel)
theorem dX9_measure_46 : decode cX9_measure 46 = .ok (.if_icmp .ge 73, 3) := dc_162 (byA eNcX9_measure (p := 46) (v := 162) (by decide +kernel)) (byA eNcX9_measure (p := 47) (v := 0) (by decide +kernel)) (byA eNcX9_measure (p := 48) (v := 73) (by decide +kernel)) (by decide +kernel)
theorem dX9_measure_49 : decode cX9_measure 49 = .ok (.aload_n 0, 1) := dc_42 (byA eNcX9_measure (p := 49) (v := 42) (by decide +kernel))
theorem dX9_measure_50 : decode cX9_measure 50 = .ok (.getfield 15, 3) := dc_180 (byA eNcX9_measure (p := 50) (v := 180) (by decide +kernel)) (byA eNcX9_measure (p := 51) (v := 0) (by decide +kernel)) (byA eNcX9_measure (p := 52) (v := 15) (by decide +kernel)) rfl
theorem dX9_measure_53 : decode cX9_measure 53 = .ok (.iload_n 3, 1) := dc_29 (byA eNcX9_measure (p := 53) (v := 29) (by decide +kernel))
theorem dX9_measure_54 : decode cX9_measure 54 = .ok (.iaload, 1) := dc_46 (byA eNcX9_measure (p := 54) (v := 46) (by decide +kernel))
theorem dX9_measure_55 : decode cX9_measure 55 = .ok (.istore 4, 2) := dc_54 (byA eNcX9_measure (p := 55) (v := 54) (by decide +kernel)) (byA eNcX9_measure (p := 56) (v := 4) (by decide +kernel))
theorem dX9_measure_57 : decode cX9_measure 57 = .ok (.aload_n 0, 1) := dc_42 (byA eNcX9_measure (p := 57) (v := 42) (by decide +kernel))
theorem dX9_measure_58 : decode cX9_measure 58 = .ok (.iload 4, 2) := dc_21 (byA eNcX9_measure (p := 58) (v := 21) (by decide +kernel)) (byA eNcX9_measure (p := 59) (v := 4) (by decide +kernel))
theorem dX9_measure_60 : decode cX9_measure 60 = .ok (.invokevirtual 26, 3) := dc_182 (byA eNcX9_measure (p := 60) (v := 182) (by decide +kernel)) (byA eNcX9_measure (p := 61) (v := 0) (by decide +kernel)) (byA eNcX9_measure (p := 62) (v := 26) (by decide +kernel)) rfl
theorem dX9_measure_63 : decode cX9_measure 63 = .ok (.iconst 1, 1) := dc_4 (byA eNcX9_measure (p := 63) (v := 4) (by decide +kernel))
theorem dX9_measure_64 : decode cX9_measure 64 = .ok (.iadd, 1) := dc_96 (byA eNcX9_measure (p := 64) (v := 96) (by decide +kernel))
theorem dX9_measure_65 : decode cX9_measure 65 = .ok (.istore 5, 2) := dc_54 (byA eNcX9_measure (p := 65) (v := 54) (by decide +kernel)) (byA eNcX9_measure (p := 66) (v := 5) (by decide +kernel))
theorem dX9_measure_67 : decode cX9_measure 67 = .ok (.aload_n 0, 1) := dc_42 (byA eNcX9_measure (p := 67) (v := 42) (by decide +kernel))
theorem dX9_measure_68 : decode cX9_measure 68 = .ok (.aload_n 1, 1) := dc_43 (byA eNcX9_measure (p := 68) (v := 43) (by decide +kernel))
theorem dX9_measure_69 : decode cX9_measure 69 = .ok (.iload 4, 2) := dc_21 (byA eNcX9_measure (p := 69) (v := 21) (by decide +kernel)) (byA eNcX9_measure (p := 70) (v := 4) (by decide +kernel))
theorem dX9_measure_71 : decode cX9_measure 71 = .ok (.bipush 10, 2) := dc_16 (byA eNcX9_measure (p := 71) (v := 16) (by decide +kernel)) (byA eNcX9_measure (p := 72) (v := 10) (by decide +kernel)) (by decide +kernel)
theorem dX9_measure_73 : decode cX9_measure 73 = .ok (.isub, 1) := dc_100 (byA eNcX9_measure (p := 73) (v := 100) (by decide +kernel))
theorem dX9_measure_74 : decode cX9_measure 74 = .ok (.iload 5, 2) := dc_21 (byA eNcX9_measure (p := 74) (v := 21) (by decide +kernel)) (byA eNcX9_measure (p := 75) (v := 5) (by decide +kernel))
theorem dX9_measure_76 : decode cX9_measure 76 = .ok (.invokevirtual 22, 3) := dc_182 (byA eNcX9_measure (p := 76) (v := 182) (by decide +kernel)) (byA eNcX9_measure (p := 77) (v := 0) (by decide +kernel)) (byA eNcX9_measure (p := 78) (v := 22) (by decide +kernel)) rfl
theorem dX9_measure_79 : decode cX9_measure 79 = .ok (.aload_n 0, 1) := dc_42 (byA eNcX9_measure (p := 79) (v := 42) (by decide +kernel))
theorem dX9_measure_80 : decode cX9_measure 80 = .ok (.aload_n 1, 1) := dc_43 (byA eNcX9_measure (p := 80) (v := 43) (by decide +kernel))
theorem dX9_measure_81 : decode cX9_measure 81 = .ok (.iload 4, 2) := dc_21 (byA eNcX9_measure (p := 81) (v := 21) (by decide +kernel)) (byA eNcX9_measure (p := 82) (v := 4) (by decide +kernel))
theorem dX9_measure_83 : decode cX9_measure 83 = .ok (.iconst 1, 1) := dc_4 (byA eNcX9_measure (p := 83) (v := 4) (by decide +kernel))
theorem dX9_measure_84 : decode cX9_measure 84 = .ok (.isub, 1) := dc_100 (byA eNcX9_measure (p := 84) (v := 100) (by decide +kernel))
theorem dX9_measure_85 : decode cX9_measure 85 = .ok (.iload 5, 2) := dc_21 (byA eNcX9_measure (p := 85) (v := 21) (by decide +kernel)) (byA eNcX9_measure (p := 86) (v := 5) (by decide +kernel))
theorem dX9_measure_87 : decode cX9_measure 87 = .ok (.invokevirtual 22, 3) := dc_182 (byA eNcX9_measure (p := 87) (v := 182) (by decide +kernel)) (byA eNcX9_measure (p := 88) (v := 0) (by decide +kernel)) (byA eNcX9_measure (p := 89) (v := 22) (by decide +kernel)) rfl
theorem dX9_measure_90 : decode cX9_measure 90 = .ok (.aload_n 0, 1) := dc_42 (byA eNcX9_measure (p := 90) (v := 42) (by decide +kernel))
theorem dX9_measure_91 : decode cX9_measure 91 = .ok (.aload_n 1, 1) := dc_43 (byA eNcX9_measure (p := 91) (v := 43) (by decide +kernel))
theorem dX9_measure_92 : decode cX9_measure 92 = .ok (.iload 4, 2) := dc_21 (byA eNcX9_measure (p := 92) (v := 21) (by decide +kernel)) (byA eNcX9_measure (p := 93) (v := 4) (by decide +kernel))
theorem dX9_measure_94 : decode cX9_measure 94 = .ok (.iconst 1, 1) := dc_4 (byA eNcX9_measure (p := 94) (v := 4) (by decide +kernel))
theorem dX9_measure_95 : decode cX9_measure 95 = .ok (.iadd, 1) := dc_96 (byA eNcX9_measure (p := 95) (v := 96) (by decide +kernel))
theorem dX9_measure_96 : decode cX9_measure 96 = .ok (.iload 5, 2) := dc_21 (byA eNcX9_measure (p := 96) (v := 21) (by decide +kernel)) (byA eNcX9_measure (p := 97) (v := 5) (by decide +kernel))
theorem dX9_measure_98 : decode cX9_measure 98 = .ok (.invokevirtual 22, 3) := dc_182 (byA eNcX9_measure (p := 98) (v := 182) (by decide +kernel)) (byA eNcX9_measure (p := 99) (v := 0) (by decide +kernel)) (byA eNcX9_measure (p := 100) (v := 22) (by decide +kernel)) rfl
theorem dX9_measure_101 : decode cX9_measure 101 = .ok (.aload_n 0, 1) := dc_42 (byA eNcX9_measure (p := 101) (v := 42) (by decide +kernel))
theorem dX9_measure_102 : decode cX9_measure 102 = .ok (.aload_n 1, 1) := dc_43 (byA eNcX9_measure (p := 102) (v := 43) (by decide +kernel))
theorem dX9_measure_103 : decode cX9_measure 103 = .ok (.iload 4, 2) := dc_21 (byA eNcX9_measure (p := 103) (v := 21) (by decide +kernel)) (byA eNcX9_measure (p := 104) (v := 4) (by decide +kernel))
theorem dX9_measure_105 : decode cX9_measure 105 = .ok (.bipush 10, 2) := dc_16 (byA eNcX9_measure (p := 105) (v := 16) (by decide +kernel)) (byA eNcX9_measure (p := 106) (v := 10) (by decide +kernel)) (by decide +kernel)
theorem dX9_measure_107 : decode cX9_measure 107 = .ok (.iadd, 1) := dc_96 (byA eNcX9_measure (p := 107) (v := 96) (by decide +kernel))
theorem dX9_measure_108 : decode cX9_measure 108 = .ok (.iload 5, 2) := dc_21 (byA eNcX9_measure (p := 108) (v := 21) (by decide +kernel)) (byA eNcX9_measure (p := 109) (v := 5) (by decide +kernel))
theorem dX9_measure_110 : decode cX9_measure 110 = .ok (.invokevirtual 22, 3) := dc_182 (byA eNcX9_measure (p := 110) (v := 182) (by decide +kernel)) (byA eNcX9_measure (p := 111) (v := 0) (by decide +kernel)) (byA eNcX9_measure (p := 112) (v := 22) (by decide +kernel)) rfl
theorem dX9_measure_113 : decode cX9_measure 113 = .ok (.iinc 3 1, 3) := dc_132 (byA eNcX9_measure (p := 113) (v := 132) (by decide +kernel)) (byA eNcX9_measure (p := 114) (v := 3) (by decide +kernel)) (byA eNcX9_measure (p := 115) (v := 1) (by decide +kernel)) (by decide +kernel)
theorem dX9_measure_116 : decode cX9_measure 116 = .ok (.goto (-81), 3) := dc_167 (byA eNcX9_measure (p := 116) (v := 167) (by decide +kernel)) (byA eNcX9_measure (p := 117) (v := 255) (by decide +kernel)) (byA eNcX9_measure (p := 118) (v := 175) (by decide +kernel)) (by decide +kernel)
theorem dX9_measure_119 : decode cX9_measure 119 = .ok (.return_, 1) := dc_177 (byA eNcX9_measure (p := 119) (v := 177) (by decide +kernel))
def X9_measure_L2 (l1 : Nat) (l2 : Int) (k21 : Mm → Rs) : Nat → Int → Mm → Rs
  | 0, _, _ => none
  | n + 1, l3, μ => if 60 ≤ l3 then (k21 μ) else (stA μ 46 l3 (-1) fun μ2 => X9_measure_L2 l1 l2 k21 n (iA l3 1) μ2)
def X9_measure_L35 (l1 : Nat) : Nat → Int → Mm → Rs
  | 0, _, _ => none
  | n + 1, l3, μ => if (μ 45 2) ≤ l3 then (some (0, μ)) else (if 60 ≤ l3 then (some (0, μ)) else (ldA μ 47 l3 fun v11 => bd (X9_stepsTo v11 μ) fun v13 μ14 => bd (X9_reach l1 (iS v11 10) (iA v13 1) μ14) fun v16 μ17 => bd (X9_reach l1 (iS v11 1) (iA v13 1) μ17) fun v19 μ20 => bd (X9_reach l1 (iA v11 1) (iA v13 1) μ20) fun v22 μ23 => bd (X9_reach l1 (iA v11 10) (iA v13 1) μ23) fun v25 μ26 => X9_measure_L35 l1 n (iA l3 1) μ26))
def X9_measure (l1 : Nat) (l2 : Int) (μ : Mm) : Rs := X9_measure_L2 l1 l2 (fun μ4 => sF μ4 45 2 0 fun μ5 => bd (X9_reach l1 l2 0 μ5) fun v6 μ7 => X9_measure_L35 l1 FU 0 μ7) FU 0 μ
set_option maxHeartbeats 4000000 in
set_option maxRecDepth 100000 in
theorem kX9_measure_L2 (d : Nat) (hd : 3 ≤ d) {l1 : Nat} {l2 : Int} (hk1 : kD l1 = (10, 9)) {k21 : Mm → Rs} {r : Int} {μ' : Mm} (hk_21 : ∀ (μ1 : Mm), k21 μ1 = some (r, μ') → VV d mX9_measure 21 [some (vR 45), some (vR l1), some (vI l2), none, none, none] [] μ1 r μ') : ∀ (n : Nat) {l3 : Int} {μ : Mm}, X9_measure_L2 l1 l2 k21 n l3 μ = some (r, μ') → VV d mX9_measure 2 [some (vR 45), some (vR l1), some (vI l2), some (vI l3), none, none] [] μ r μ' := by
  intro n
  induction n with
  | zero => intro l3 μ h; rw [X9_measure_L2] at h; cases h
  | succ n ih =>
    intro l3 μ h
    rw [X9_measure_L2] at h
    refine V_iload_n (q := 3) dX9_measure_2 rfl rfl rfl ?_
    refine V_bipush (q := 5) dX9_measure_3 rfl rfl rfl ?_
    refine V_icmpge (q := 21) (q2 := 8) dX9_measure_5 (by decide) rfl (fun hc1 => ?_) (fun hc1 => ?_)
    · have h := ifT hc1 h
      exact V_weak (hk_21 _ h) (sb_s rfl (sb_s rfl (sb_s rfl (sb_n (sb_n (sb_n sb_0))))))
    · have h := ifF hc1 h
      refine V_aload_n (q := 9) dX9_measure_8 rfl rfl rfl ?_
      refine V_getO (q := 12) (t := 46) fl_X9_9 rfl rfl rfl rfl dX9_measure_9 rfl ?_
      refine V_iload_n (q := 13) dX9_measure_12 rfl rfl rfl ?_
      refine V_iconst (q := 14) dX9_measure_13 rfl rfl ?_
      obtain ⟨hi3, h⟩ := stA_i h
      refine V_iastore (q := 15) rfl hi3 dX9_measure_14 rfl ?_
      refine V_iinc (q := 18) dX9_measure_15 rfl (Nat.le_of_ble_eq_true rfl) trivial rfl ?_
      refine V_goto (q := 2) dX9_measure_18 (by decide) ?_
      exact V_weak (ih h) (sb_s rfl (sb_s rfl (sb_s rfl (sb_s rfl (sb_n (sb_n sb_0))))))
set_option maxHeartbeats 4000000 in
set_option maxRecDepth 100000 in
theorem kX9_measure_L35 (d : Nat) (hd : 3 ≤ d) {l1 : Nat} (hk1 : kD l1 = (10, 9)) {r : Int} {μ' : Mm} : ∀ (n : Nat) {l3 : Int} {μ : Mm}, X9_measure_L35 l1 n l3 μ = some (r, μ') → VV d mX9_measure 35 [some (vR 45), some (vR l1), none, some (vI l3), none, none] [] μ r μ' := by
  intro n
  induction n with
  | zero => intro l3 μ h; rw [X9_measure_L35] at h; cases h
  | succ n ih =>
    intro l3 μ h
    rw [X9_measure_L35] at h
    refine V_iload_n (q := 36) dX9_measure_35 rfl rfl rfl ?_
    refine V_aload_n (q := 37) dX9_measure_36 rfl rfl rfl ?_
    refine V_getI (q := 40) fl_X9_18 rfl rfl rfl dX9_measure_37 rfl ?_
    refine V_icmpge (q := 119) (q2 := 43) dX9_measure_40 (by decide) rfl (fun hc9 => ?_) (fun hc9 => ?_)
    · have h := ifT hc9 h
      exact V_vret rfl h dX9_measure_119
    · have h := ifF hc9 h
      refine V_iload_n (q := 44) dX9_measure_43 rfl rfl rfl ?_
      refine V_bipush (q := 46) dX9_measure_44 rfl rfl rfl ?_
      refine V_icmpge (q := 119) (q2 := 49) dX9_measure_46 (by decide) rfl (fun hc10 => ?_) (fun hc10 => ?_)
      · have h := ifT hc10 h
        exact V_vret rfl h dX9_measure_119
      · have h := ifF hc10 h
        refine V_aload_n (q := 50) dX9_measure_49 rfl rfl rfl ?_
        refine V_getO (q := 53) (t := 47) fl_X9_15 rfl rfl rfl rfl dX9_measure_50 rfl ?_
        refine V_iload_n (q := 54) dX9_measure_53 rfl rfl rfl ?_
        obtain ⟨hi12, h⟩ := ldA_i h
        refine V_iaload (q := 55) rfl hi12 dX9_measure_54 rfl ?_
        refine V_istore (q := 57) dX9_measure_55 (Nat.le_of_ble_eq_true rfl) trivial rfl ?_
        refine V_aload_n (q := 58) dX9_measure_57 rfl rfl rfl ?_
        refine V_iload (q := 60) dX9_measure_58 rfl rfl ?_
        obtain ⟨v13, μ14, hc15, h⟩ := bd_i h
        refine V_cV1 (q := 63) (v := vI v13) (kX9_stepsTo (d - 1) (by omega) hc15) (by omega) mv_X9_26 rfl rfl rfl rfl rfl rfl dX9_measure_60 rfl ?_
        refine V_iconst (q := 64) dX9_measure_63 rfl rfl ?_
        refine V_iadd (q := 65) dX9_measure_64 rfl ?_
        refine V_istore (q := 67) dX9_measure_65 (Nat.le_of_ble_eq_true rfl) trivial rfl ?_
        refine V_aload_n (q := 68) dX9_measure_67 rfl rfl rfl ?_
        refine V_aload_n (q := 69) dX9_measure_68 rfl rfl rfl ?_
        refine V_iload (q := 71) dX9_measure_69 rfl rfl ?_
        refine V_bipush (q := 73) dX9_measure_71 rfl rfl rfl ?_
        refine V_isub (q := 74) dX9_measure_73 rfl ?_
        refine V_iload (q := 76) dX9_measure_74 rfl rfl ?_
        obtain ⟨v16, μ17, hc18, h⟩ := bd_i h
        refine V_cV0 (q := 79) (kX9_reach (d - 1) (by omega) hk1 hc18) (by omega) mv_X9_22 rfl rfl rfl rfl rfl rfl dX9_measure_76 rfl ?_
        refine V_aload_n (q := 80) dX9_measure_79 rfl rfl rfl ?_
        refine V_aload_n (q := 81) dX9_measure_80 rfl rfl rfl ?_
        refine V_iload (q := 83) dX9_measure_81 rfl rfl ?_
        refine V_iconst (q := 84) dX9_measure_83 rfl rfl ?_
        refine V_isub (q := 85) dX9_measure_84 rfl ?_
        refine V_iload (q := 87) dX9_measure_85 rfl rfl ?_
        obtain ⟨v19, μ20, hc21, h⟩ := bd_i h
        refine V_cV0 (q := 90) (kX9_reach (d - 1) (by omega) hk1 hc21) (by omega) mv_X9_22 rfl rfl rfl rfl rfl rfl dX9_measure_87 rfl ?_
        refine V_aload_n (q := 91) dX9_measure_90 rfl rfl rfl ?_
        refine V_aload_n (q := 92) dX9_measure_91 rfl rfl rfl ?_
        refine V_iload (q := 94) dX9_measure_92 rfl rfl ?_
        refine V_iconst (q := 95) dX9_measure_94 rfl rfl ?_
        refine V_iadd (q := 96) dX9_measure_95 rfl ?_
        refine V_iload (q := 98) dX9_measure_96 rfl rfl ?_
        obtain ⟨v22, μ23, hc24, h⟩ := bd_i h
        refine V_cV0 (q := 101) (kX9_reach (d - 1) (by omega) hk1 hc24) (by omega) mv_X9_22 rfl rfl rfl rfl rfl rfl dX9_measure_98 rfl ?_
        refine V_aload_n (q := 102) dX9_measure_101 rfl rfl rfl ?_
        refine V_aload_n (q := 103) dX9_measure_102 rfl rfl rfl ?_
        refine V_iload (q := 105) dX9_measure_103 rfl rfl ?_
        refine V_bipush (q := 107) dX9_measure_105 rfl rfl rfl ?_
        refine V_iadd (q := 108) dX9_measure_107 rfl ?_
        refine V_iload (q := 110) dX9_measure_108 rfl rfl ?_
        obtain ⟨v25, μ26, hc27, h⟩ := bd_i h
        refine V_cV0 (q := 113) (kX9_reach (d - 1) (by omega) hk1 hc27) (by omega) mv_X9_22 rfl rfl rfl rfl rfl rfl dX9_measure_110 rfl ?_
        refine V_iinc (q := 116) dX9_measure_113 rfl (Nat.le_of_ble_eq_true rfl) trivial rfl ?_
        refine V_goto (q := 35) dX9_measure_116 (by decide) ?_
        exact V_weak (ih h) (sb_s rfl (sb_s rfl (sb_n (sb_s rfl (sb_n (sb_n sb_0))))))
set_option maxHeartbeats 4000000 in
set_option maxRecDepth 100000 in
theorem kX9_measure (d : Nat) (hd : 3 ≤ d) {l1 : Nat} {l2 : Int} (hk1 : kD l1 = (10, 9)) {μ : Mm} {r : Int} {μ' : Mm} (h : X9_measure l1 l2 μ = some (r, μ')) : CC d mX9_measure [vR 45, vR l1, vI l2] μ r μ' := by
  unfold X9_measure at h
  refine V_enter (by decide) (Nat.le_of_ble_eq_true rfl) ?_
  show VV d mX9_measure 0 [some (vR 45), some (vR l1), some (vI l2), none, none, none] [] μ r μ'
  refine V_iconst (q := 1) dX9_measure_0 rfl rfl ?_
  refine V_istore_n (q := 2) dX9_measure_1 rfl (Nat.le_of_ble_eq_true rfl) trivial rfl ?_
  refine V_weak (kX9_measure_L2 d hd hk1 (fun μ4 h => ?_) FU h) (sb_s rfl (sb_s rfl (sb_s rfl (sb_s rfl (sb_n (sb_n sb_0))))))
  refine V_aload_n (q := 22) dX9_measure_21 rfl rfl rfl ?_
  refine V_iconst (q := 23) dX9_measure_22 rfl rfl ?_
  have h := sF_i h
  refine V_putI (q := 26) fl_X9_18 rfl rfl rfl dX9_measure_23 rfl ?_
  refine V_aload_n (q := 27) dX9_measure_26 rfl rfl rfl ?_
  refine V_aload_n (q := 28) dX9_measure_27 rfl rfl rfl ?_
  refine V_iload_n (q := 29) dX9_measure_28 rfl rfl rfl ?_
  refine V_iconst (q := 30) dX9_measure_29 rfl rfl ?_
  obtain ⟨v6, μ7, hc8, h⟩ := bd_i h
  refine V_cV0 (q := 33) (kX9_reach (d - 1) (by omega) hk1 hc8) (by omega) mv_X9_22 rfl rfl rfl rfl rfl rfl dX9_measure_30 rfl ?_
  refine V_iconst (q := 34) dX9_measure_33 rfl rfl ?_
  refine V_istore_n (q := 35) dX9_measure_34 rfl (Nat.le_of_ble_eq_true rfl) trivial rfl ?_
  exact V_weak (kX9_measure_L35 d hd hk1  FU h) (sb_s rfl (sb_s rfl (sb_n (sb_s rfl (sb_n (sb_n sb_0))))))
abbrev mX1_measure : Mth := (yX1_measure, cX1_measure, 5, none)
set_option maxRecDepth 100000 in
theorem mi_X1_measure : Cond.instanceMethod yX1_measure ∈ tG ∧ Cond.selects yX1_measure.cls yX1_measure yX1_measure ∈ tG ∧ Cond.initialized yX1_measure.cls ∈ tG ∧ Cond.code yX1_measure cX1_measure 5 (none) ∈ tG ∧ (yX1_measure.cls ≠ "java/lang/invoke/MethodHandle" ∧ yX1_measure.cls ≠ "java/lang/invoke/VarHandle" ∧ (parseMethodDescriptor yX1_measure.desc).map (fun d => d.parameters.length) = some 3) ∧ 5 ≤ 60 := ⟨(tG_of (tb4 (List.mem_of_getElem? (i := 2) rfl)) (by decide +kernel)), (tG_of (List.mem_of_getElem? (i := 24) (by decide +kernel)) (by decide +kernel)), (tG_of (tb1 (List.mem_of_getElem? (i := 8) rfl)) (by decide +kernel)), (tG_of (tb4 (List.mem_of_getElem? (i := 3) rfl)) (by decide +kernel)), ⟨by decide, by decide, by decide +kernel⟩, by decide⟩
set_option maxRecDepth 100000 in
theorem mv_X1_51 : mV RX1 51 mX1_measure 3 := ⟨(tG_of (tb4 (List.mem_of_getElem? (i := 0) rfl)) (by decide +kernel)), mi_X1_measure⟩
theorem dX1_measure_0 : decode cX1_measure 0 = .ok (.aload_n 0, 1) := dc_42 (byA eNcX1_measure (p := 0) (v := 42) (by decide +kernel))
theorem dX1_measure_1 : decode cX1_measure 1 = .ok (.getfield 24, 3) := dc_180 (byA eNcX1_measure (p := 1) (v := 180) (by decide +kernel)) (byA eNcX1_measure (p := 2) (v := 0) (by decide +kernel)) (byA eNcX1_measure (p := 3) (v := 24) (by decide +kernel)) rfl
theorem dX1_measure_4 : decode cX1_measure 4 = .ok (.aload_n 1, 1) := dc_43 (byA eNcX1_measure (p := 4) (v := 43) (by decide +kernel))
theorem dX1_measure_5 : decode cX1_measure 5 = .ok (.iload_n 3, 1) := dc_29 (byA eNcX1_measure (p := 5) (v := 29) (by decide +kernel))
theorem dX1_measure_6 : decode cX1_measure 6 = .ok (.invokevirtual 58, 3) := dc_182 (byA eNcX1_measure (p := 6) (v := 182) (by decide +kernel)) (byA eNcX1_measure (p := 7) (v := 0) (by decide +kernel)) (byA eNcX1_measure (p := 8) (v := 58) (by decide +kernel)) rfl
theorem dX1_measure_9 : decode cX1_measure 9 = .ok (.iconst 0, 1) := dc_3 (byA eNcX1_measure (p := 9) (v := 3) (by decide +kernel))
theorem dX1_measure_10 : decode cX1_measure 10 = .ok (.istore 4, 2) := dc_54 (byA eNcX1_measure (p := 10) (v := 54) (by decide +kernel)) (byA eNcX1_measure (p := 11) (v := 4) (by decide +kernel))
theorem dX1_measure_12 : decode cX1_measure 12 = .ok (.iload 4, 2) := dc_21 (byA eNcX1_measure (p := 12) (v := 21) (by decide +kernel)) (byA eNcX1_measure (p := 13) (v := 4) (by decide +kernel))
theorem dX1_measure_14 : decode cX1_measure 14 = .ok (.aload_n 0, 1) := dc_42 (byA eNcX1_measure (p := 14) (v := 42) (by decide +kernel))
theorem dX1_measure_15 : decode cX1_measure 15 = .ok (.getfield 34, 3) := dc_180 (byA eNcX1_measure (p := 15) (v := 180) (by decide +kernel)) (byA eNcX1_measure (p := 16) (v := 0) (by decide +kernel)) (byA eNcX1_measure (p := 17) (v := 34) (by decide +kernel)) rfl
theorem dX1_measure_18 : decode cX1_measure 18 = .ok (.if_icmp .ge 46, 3) := dc_162 (byA eNcX1_measure (p := 18) (v := 162) (by decide +kernel)) (byA eNcX1_measure (p := 19) (v := 0) (by decide +kernel)) (byA eNcX1_measure (p := 20) (v := 46) (by decide +kernel)) (by decide +kernel)
theorem dX1_measure_21 : decode cX1_measure 21 = .ok (.iload 4, 2) := dc_21 (byA eNcX1_measure (p := 21) (v := 21) (by decide +kernel)) (byA eNcX1_measure (p := 22) (v := 4) (by decide +kernel))
theorem dX1_measure_23 : decode cX1_measure 23 = .ok (.bipush 8, 2) := dc_16 (byA eNcX1_measure (p := 23) (v := 16) (by decide +kernel)) (byA eNcX1_measure (p := 24) (v := 8) (by decide +kernel)) (by decide +kernel)
theorem dX1_measure_25 : decode cX1_measure 25 = .ok (.if_icmp .ge 39, 3) := dc_162 (byA eNcX1_measure (p := 25) (v := 162) (by decide +kernel)) (byA eNcX1_measure (p := 26) (v := 0) (by decide +kernel)) (byA eNcX1_measure (p := 27) (v := 39) (by decide +kernel)) (by decide +kernel)
theorem dX1_measure_28 : decode cX1_measure 28 = .ok (.aload_n 0, 1) := dc_42 (byA eNcX1_measure (p := 28) (v := 42) (by decide +kernel))
theorem dX1_measure_29 : decode cX1_measure 29 = .ok (.getfield 21, 3) := dc_180 (byA eNcX1_measure (p := 29) (v := 180) (by decide +kernel)) (byA eNcX1_measure (p := 30) (v := 0) (by decide +kernel)) (byA eNcX1_measure (p := 31) (v := 21) (by decide +kernel)) rfl
theorem dX1_measure_32 : decode cX1_measure 32 = .ok (.iload_n 2, 1) := dc_28 (byA eNcX1_measure (p := 32) (v := 28) (by decide +kernel))
theorem dX1_measure_33 : decode cX1_measure 33 = .ok (.bipush 8, 2) := dc_16 (byA eNcX1_measure (p := 33) (v := 16) (by decide +kernel)) (byA eNcX1_measure (p := 34) (v := 8) (by decide +kernel)) (by decide +kernel)
theorem dX1_measure_35 : decode cX1_measure 35 = .ok (.imul, 1) := dc_104 (byA eNcX1_measure (p := 35) (v := 104) (by decide +kernel))
theorem dX1_measure_36 : decode cX1_measure 36 = .ok (.iload 4, 2) := dc_21 (byA eNcX1_measure (p := 36) (v := 21) (by decide +kernel)) (byA eNcX1_measure (p := 37) (v := 4) (by decide +kernel))
theorem dX1_measure_38 : decode cX1_measure 38 = .ok (.iadd, 1) := dc_96 (byA eNcX1_measure (p := 38) (v := 96) (by decide +kernel))
theorem dX1_measure_39 : decode cX1_measure 39 = .ok (.aload_n 0, 1) := dc_42 (byA eNcX1_measure (p := 39) (v := 42) (by decide +kernel))
theorem dX1_measure_40 : decode cX1_measure 40 = .ok (.getfield 24, 3) := dc_180 (byA eNcX1_measure (p := 40) (v := 180) (by decide +kernel)) (byA eNcX1_measure (p := 41) (v := 0) (by decide +kernel)) (byA eNcX1_measure (p := 42) (v := 24) (by decide +kernel)) rfl
theorem dX1_measure_43 : decode cX1_measure 43 = .ok (.aload_n 1, 1) := dc_43 (byA eNcX1_measure (p := 43) (v := 43) (by decide +kernel))
theorem dX1_measure_44 : decode cX1_measure 44 = .ok (.aload_n 0, 1) := dc_42 (byA eNcX1_measure (p := 44) (v := 42) (by decide +kernel))
theorem dX1_measure_45 : decode cX1_measure 45 = .ok (.getfield 9, 3) := dc_180 (byA eNcX1_measure (p := 45) (v := 180) (by decide +kernel)) (byA eNcX1_measure (p := 46) (v := 0) (by decide +kernel)) (byA eNcX1_measure (p := 47) (v := 9) (by decide +kernel)) rfl
theorem dX1_measure_48 : decode cX1_measure 48 = .ok (.iload 4, 2) := dc_21 (byA eNcX1_measure (p := 48) (v := 21) (by decide +kernel)) (byA eNcX1_measure (p := 49) (v := 4) (by decide +kernel))
theorem dX1_measure_50 : decode cX1_measure 50 = .ok (.iaload, 1) := dc_46 (byA eNcX1_measure (p := 50) (v := 46) (by decide +kernel))
theorem dX1_measure_51 : decode cX1_measure 51 = .ok (.invokevirtual 55, 3) := dc_182 (byA eNcX1_measure (p := 51) (v := 182) (by decide +kernel)) (byA eNcX1_measure (p := 52) (v := 0) (by decide +kernel)) (byA eNcX1_measure (p := 53) (v := 55) (by decide +kernel)) rfl
theorem dX1_measure_54 : decode cX1_measure 54 = .ok (.invokevirtual 63, 3) := dc_182 (byA eNcX1_measure (p := 54) (v := 182) (by decide +kernel)) (byA eNcX1_measure (p := 55) (v := 0) (by decide +kernel)) (byA eNcX1_measure (p := 56) (v := 63) (by decide +kernel)) rfl
theorem dX1_measure_57 : decode cX1_measure 57 = .ok (.iastore, 1) := dc_79 (byA eNcX1_measure (p := 57) (v := 79) (by decide +kernel))
theorem dX1_measure_58 : decode cX1_measure 58 = .ok (.iinc 4 1, 3) := dc_132 (byA eNcX1_measure (p := 58) (v := 132) (by decide +kernel)) (byA eNcX1_measure (p := 59) (v := 4) (by decide +kernel)) (byA eNcX1_measure (p := 60) (v := 1) (by decide +kernel)) (by decide +kernel)
theorem dX1_measure_61 : decode cX1_measure 61 = .ok (.goto (-49), 3) := dc_167 (byA eNcX1_measure (p := 61) (v := 167) (by decide +kernel)) (byA eNcX1_measure (p := 62) (v := 255) (by decide +kernel)) (byA eNcX1_measure (p := 63) (v := 207) (by decide +kernel)) (by decide +kernel)
theorem dX1_measure_64 : decode cX1_measure 64 = .ok (.return_, 1) := dc_177 (byA eNcX1_measure (p := 64) (v := 177) (by decide +kernel))
def X1_measure_L12 (l0 : Nat) (l1 : Nat) (l2 : Int) : Nat → Int → Mm → Rs
  | 0, _, _ => none
  | n + 1, l4, μ => if (μ l0 5) ≤ l4 then (some (0, μ)) else (if 8 ≤ l4 then (some (0, μ)) else (ldA μ (l0 + 1) l4 fun v6 => bd (X0_placeOf l1 v6 μ) fun v8 μ9 => bd (X9_stepsTo v8 μ9) fun v11 μ12 => stA μ12 (l0 + 4) (iA (iM l2 8) l4) v11 fun μ14 => X1_measure_L12 l0 l1 l2 n (iA l4 1) μ14))
def X1_measure (l0 : Nat) (l1 : Nat) (l2 : Int) (l3 : Int) (μ : Mm) : Rs := bd (X9_measure l1 l3 μ) fun v1 μ2 => X1_measure_L12 l0 l1 l2 FU 0 μ2
set_option maxHeartbeats 4000000 in
set_option maxRecDepth 100000 in
theorem kX1_measure_L12 (d : Nat) (hd : 4 ≤ d) {l0 : Nat} {l1 : Nat} {l2 : Int} (hk0 : kD l0 = (11, 7)) (hk1 : kD l1 = (10, 9)) {r : Int} {μ' : Mm} : ∀ (n : Nat) {l4 : Int} {μ : Mm}, X1_measure_L12 l0 l1 l2 n l4 μ = some (r, μ') → VV d mX1_measure 12 [some (vR l0), some (vR l1), some (vI l2), none, some (vI l4)] [] μ r μ' := by
  intro n
  induction n with
  | zero => intro l4 μ h; rw [X1_measure_L12] at h; cases h
  | succ n ih =>
    intro l4 μ h
    rw [X1_measure_L12] at h
    refine V_iload (q := 14) dX1_measure_12 rfl rfl ?_
    refine V_aload_n (q := 15) dX1_measure_14 rfl rfl rfl ?_
    refine V_getI (q := 18) fl_X1_34 hk0 rfl rfl dX1_measure_15 rfl ?_
    refine V_icmpge (q := 64) (q2 := 21) dX1_measure_18 (by decide) rfl (fun hc4 => ?_) (fun hc4 => ?_)
    · have h := ifT hc4 h
      exact V_vret rfl h dX1_measure_64
    · have h := ifF hc4 h
      refine V_iload (q := 23) dX1_measure_21 rfl rfl ?_
      refine V_bipush (q := 25) dX1_measure_23 rfl rfl rfl ?_
      refine V_icmpge (q := 64) (q2 := 28) dX1_measure_25 (by decide) rfl (fun hc5 => ?_) (fun hc5 => ?_)
      · have h := ifT hc5 h
        exact V_vret rfl h dX1_measure_64
      · have h := ifF hc5 h
        refine V_aload_n (q := 29) dX1_measure_28 rfl rfl rfl ?_
        refine V_getO (q := 32) (t := _) fl_X1_21 hk0 rfl rfl rfl dX1_measure_29 rfl ?_
        refine V_iload_n (q := 33) dX1_measure_32 rfl rfl rfl ?_
        refine V_bipush (q := 35) dX1_measure_33 rfl rfl rfl ?_
        refine V_imul (q := 36) dX1_measure_35 rfl ?_
        refine V_iload (q := 38) dX1_measure_36 rfl rfl ?_
        refine V_iadd (q := 39) dX1_measure_38 rfl ?_
        refine V_aload_n (q := 40) dX1_measure_39 rfl rfl rfl ?_
        refine V_getC (q := 43) fl_X1_24 hk0 rfl rfl dX1_measure_40 rfl ?_
        refine V_aload_n (q := 44) dX1_measure_43 rfl rfl rfl ?_
        refine V_aload_n (q := 45) dX1_measure_44 rfl rfl rfl ?_
        refine V_getO (q := 48) (t := _) fl_X1_9 hk0 rfl rfl rfl dX1_measure_45 rfl ?_
        refine V_iload (q := 50) dX1_measure_48 rfl rfl ?_
        obtain ⟨hi7, h⟩ := ldA_i h
        refine V_iaload (q := 51) (kdo_1_1 hk0) hi7 dX1_measure_50 rfl ?_
        obtain ⟨v8, μ9, hc10, h⟩ := bd_i h
        refine V_cV1 (q := 54) (v := vI v8) (kX0_placeOf (d - 1) (by omega) hk1 hc10) (by omega) mv_X1_55 hk1 rfl rfl rfl rfl rfl dX1_measure_51 rfl ?_
        obtain ⟨v11, μ12, hc13, h⟩ := bd_i h
        refine V_cV1 (q := 57) (v := vI v11) (kX9_stepsTo (d - 1) (by omega) hc13) (by omega) mv_X1_63 rfl rfl rfl rfl rfl rfl dX1_measure_54 rfl ?_
        obtain ⟨hi15, h⟩ := stA_i h
        refine V_iastore (q := 58) (kdo_1_4 hk0) hi15 dX1_measure_57 rfl ?_
        refine V_iinc (q := 61) dX1_measure_58 rfl (Nat.le_of_ble_eq_true rfl) trivial rfl ?_
        refine V_goto (q := 12) dX1_measure_61 (by decide) ?_
        exact V_weak (ih h) (sb_s rfl (sb_s rfl (sb_s rfl (sb_n (sb_s rfl sb_0)))))
set_option maxHeartbeats 4000000 in
set_option maxRecDepth 100000 in
theorem kX1_measure (d : Nat) (hd : 4 ≤ d) {l0 : Nat} {l1 : Nat} {l2 : Int} {l3 : Int} (hk0 : kD l0 = (11, 7)) (hk1 : kD l1 = (10, 9)) {μ : Mm} {r : Int} {μ' : Mm} (h : X1_measure l0 l1 l2 l3 μ = some (r, μ')) : CC d mX1_measure [vR l0, vR l1, vI l2, vI l3] μ r μ' := by
  unfold X1_measure at h
  refine V_enter (by decide) (Nat.le_of_ble_eq_true rfl) ?_
  show VV d mX1_measure 0 [some (vR l0), some (vR l1), some (vI l2), some (vI l3), none] [] μ r μ'
  refine V_aload_n (q := 1) dX1_measure_0 rfl rfl rfl ?_
  refine V_getC (q := 4) fl_X1_24 hk0 rfl rfl dX1_measure_1 rfl ?_
  refine V_aload_n (q := 5) dX1_measure_4 rfl rfl rfl ?_
  refine V_iload_n (q := 6) dX1_measure_5 rfl rfl rfl ?_
  obtain ⟨v1, μ2, hc3, h⟩ := bd_i h
  refine V_cV0 (q := 9) (kX9_measure (d - 1) (by omega) hk1 hc3) (by omega) mv_X1_58 rfl rfl rfl rfl rfl rfl dX1_measure_6 rfl ?_
  refine V_iconst (q := 10) dX1_measure_9 rfl rfl ?_
  refine V_istore (q := 12) dX1_measure_10 (Nat.le_of_ble_eq_true rfl) trivial rfl ?_
  exact V_weak (kX1_measure_L12 d hd hk0 hk1  FU h) (sb_s rfl (sb_s rfl (sb_s rfl (sb_n (sb_s rfl sb_0)))))
abbrev mX1_prepare : Mth := (yX1_prepare, cX1_prepare, 4, none)
set_option maxRecDepth 100000 in
theorem mi_X1_prepare : Cond.instanceMethod yX1_prepare ∈ tG ∧ Cond.selects yX1_prepare.cls yX1_prepare yX1_prepare ∈ tG ∧ Cond.initialized yX1_prepare.cls ∈ tG ∧ Cond.code yX1_prepare cX1_prepare 4 (none) ∈ tG ∧ (yX1_prepare.cls ≠ "java/lang/invoke/MethodHandle" ∧ yX1_prepare.cls ≠ "java/lang/invoke/VarHandle" ∧ (parseMethodDescriptor yX1_prepare.desc).map (fun d => d.parameters.length) = some 2) ∧ 4 ≤ 60 := ⟨(tG_of (tb3 (List.mem_of_getElem? (i := 233) rfl)) (by decide +kernel)), (tG_of (tb3 (List.mem_of_getElem? (i := 234) rfl)) (by decide +kernel)), (tG_of (tb1 (List.mem_of_getElem? (i := 8) rfl)) (by decide +kernel)), (tG_of (tb3 (List.mem_of_getElem? (i := 235) rfl)) (by decide +kernel)), ⟨by decide, by decide, by decide +kernel⟩, by decide⟩
set_option maxRecDepth 100000 in
theorem mv_X10_284 : mV RX10 284 mX1_prepare 2 := ⟨(tG_of (tb3 (List.mem_of_getElem? (i := 232) rfl)) (by decide +kernel)), mi_X1_prepare⟩
theorem dX1_prepare_0 : decode cX1_prepare 0 = .ok (.aload_n 0, 1) := dc_42 (byA eNcX1_prepare (p := 0) (v := 42) (by decide +kernel))
theorem dX1_prepare_1 : decode cX1_prepare 1 = .ok (.aload_n 2, 1) := dc_44 (byA eNcX1_prepare (p := 1) (v := 44) (by decide +kernel))
theorem dX1_prepare_2 : decode cX1_prepare 2 = .ok (.getfield 28, 3) := dc_180 (byA eNcX1_prepare (p := 2) (v := 180) (by decide +kernel)) (byA eNcX1_prepare (p := 3) (v := 0) (by decide +kernel)) (byA eNcX1_prepare (p := 4) (v := 28) (by decide +kernel)) rfl
theorem dX1_prepare_5 : decode cX1_prepare 5 = .ok (.putfield 34, 3) := dc_181 (byA eNcX1_prepare (p := 5) (v := 181) (by decide +kernel)) (byA eNcX1_prepare (p := 6) (v := 0) (by decide +kernel)) (byA eNcX1_prepare (p := 7) (v := 34) (by decide +kernel)) rfl
theorem dX1_prepare_8 : decode cX1_prepare 8 = .ok (.iconst 0, 1) := dc_3 (byA eNcX1_prepare (p := 8) (v := 3) (by decide +kernel))
theorem dX1_prepare_9 : decode cX1_prepare 9 = .ok (.istore_n 3, 1) := dc_62 (byA eNcX1_prepare (p := 9) (v := 62) (by decide +kernel))
theorem dX1_prepare_10 : decode cX1_prepare 10 = .ok (.iload_n 3, 1) := dc_29 (byA eNcX1_prepare (p := 10) (v := 29) (by decide +kernel))
theorem dX1_prepare_11 : decode cX1_prepare 11 = .ok (.aload_n 0, 1) := dc_42 (byA eNcX1_prepare (p := 11) (v := 42) (by decide +kernel))
theorem dX1_prepare_12 : decode cX1_prepare 12 = .ok (.getfield 34, 3) := dc_180 (byA eNcX1_prepare (p := 12) (v := 180) (by decide +kernel)) (byA eNcX1_prepare (p := 13) (v := 0) (by decide +kernel)) (byA eNcX1_prepare (p := 14) (v := 34) (by decide +kernel)) rfl
theorem dX1_prepare_15 : decode cX1_prepare 15 = .ok (.if_icmp .ge 43, 3) := dc_162 (byA eNcX1_prepare (p := 15) (v := 162) (by decide +kernel)) (byA eNcX1_prepare (p := 16) (v := 0) (by decide +kernel)) (byA eNcX1_prepare (p := 17) (v := 43) (by decide +kernel)) (by decide +kernel)
theorem dX1_prepare_18 : decode cX1_prepare 18 = .ok (.iload_n 3, 1) := dc_29 (byA eNcX1_prepare (p := 18) (v := 29) (by decide +kernel))
theorem dX1_prepare_19 : decode cX1_prepare 19 = .ok (.bipush 8, 2) := dc_16 (byA eNcX1_prepare (p := 19) (v := 16) (by decide +kernel)) (byA eNcX1_prepare (p := 20) (v := 8) (by decide +kernel)) (by decide +kernel)
theorem dX1_prepare_21 : decode cX1_prepare 21 = .ok (.if_icmp .ge 37, 3) := dc_162 (byA eNcX1_prepare (p := 21) (v := 162) (by decide +kernel)) (byA eNcX1_prepare (p := 22) (v := 0) (by decide +kernel)) (byA eNcX1_prepare (p := 23) (v := 37) (by decide +kernel)) (by decide +kernel)
theorem dX1_prepare_24 : decode cX1_prepare 24 = .ok (.aload_n 0, 1) := dc_42 (byA eNcX1_prepare (p := 24) (v := 42) (by decide +kernel))
theorem dX1_prepare_25 : decode cX1_prepare 25 = .ok (.getfield 9, 3) := dc_180 (byA eNcX1_prepare (p := 25) (v := 180) (by decide +kernel)) (byA eNcX1_prepare (p := 26) (v := 0) (by decide +kernel)) (byA eNcX1_prepare (p := 27) (v := 9) (by decide +kernel)) rfl
theorem dX1_prepare_28 : decode cX1_prepare 28 = .ok (.iload_n 3, 1) := dc_29 (byA eNcX1_prepare (p := 28) (v := 29) (by decide +kernel))
theorem dX1_prepare_29 : decode cX1_prepare 29 = .ok (.aload_n 2, 1) := dc_44 (byA eNcX1_prepare (p := 29) (v := 44) (by decide +kernel))
theorem dX1_prepare_30 : decode cX1_prepare 30 = .ok (.getfield 35, 3) := dc_180 (byA eNcX1_prepare (p := 30) (v := 180) (by decide +kernel)) (byA eNcX1_prepare (p := 31) (v := 0) (by decide +kernel)) (byA eNcX1_prepare (p := 32) (v := 35) (by decide +kernel)) rfl
theorem dX1_prepare_33 : decode cX1_prepare 33 = .ok (.iload_n 3, 1) := dc_29 (byA eNcX1_prepare (p := 33) (v := 29) (by decide +kernel))
theorem dX1_prepare_34 : decode cX1_prepare 34 = .ok (.iaload, 1) := dc_46 (byA eNcX1_prepare (p := 34) (v := 46) (by decide +kernel))
theorem dX1_prepare_35 : decode cX1_prepare 35 = .ok (.iastore, 1) := dc_79 (byA eNcX1_prepare (p := 35) (v := 79) (by decide +kernel))
theorem dX1_prepare_36 : decode cX1_prepare 36 = .ok (.aload_n 0, 1) := dc_42 (byA eNcX1_prepare (p := 36) (v := 42) (by decide +kernel))
theorem dX1_prepare_37 : decode cX1_prepare 37 = .ok (.getfield 18, 3) := dc_180 (byA eNcX1_prepare (p := 37) (v := 180) (by decide +kernel)) (byA eNcX1_prepare (p := 38) (v := 0) (by decide +kernel)) (byA eNcX1_prepare (p := 39) (v := 18) (by decide +kernel)) rfl
theorem dX1_prepare_40 : decode cX1_prepare 40 = .ok (.iload_n 3, 1) := dc_29 (byA eNcX1_prepare (p := 40) (v := 29) (by decide +kernel))
theorem dX1_prepare_41 : decode cX1_prepare 41 = .ok (.aload_n 1, 1) := dc_43 (byA eNcX1_prepare (p := 41) (v := 43) (by decide +kernel))
theorem dX1_prepare_42 : decode cX1_prepare 42 = .ok (.aload_n 0, 1) := dc_42 (byA eNcX1_prepare (p := 42) (v := 42) (by decide +kernel))
theorem dX1_prepare_43 : decode cX1_prepare 43 = .ok (.getfield 9, 3) := dc_180 (byA eNcX1_prepare (p := 43) (v := 180) (by decide +kernel)) (byA eNcX1_prepare (p := 44) (v := 0) (by decide +kernel)) (byA eNcX1_prepare (p := 45) (v := 9) (by decide +kernel)) rfl
theorem dX1_prepare_46 : decode cX1_prepare 46 = .ok (.iload_n 3, 1) := dc_29 (byA eNcX1_prepare (p := 46) (v := 29) (by decide +kernel))
theorem dX1_prepare_47 : decode cX1_prepare 47 = .ok (.iaload, 1) := dc_46 (byA eNcX1_prepare (p := 47) (v := 46) (by decide +kernel))
theorem dX1_prepare_48 : decode cX1_prepare 48 = .ok (.invokevirtual 38, 3) := dc_182 (byA eNcX1_prepare (p := 48) (v := 182) (by decide +kernel)) (byA eNcX1_prepare (p := 49) (v := 0) (by decide +kernel)) (byA eNcX1_prepare (p := 50) (v := 38) (by decide +kernel)) rfl
theorem dX1_prepare_51 : decode cX1_prepare 51 = .ok (.iastore, 1) := dc_79 (byA eNcX1_prepare (p := 51) (v := 79) (by decide +kernel))
theorem dX1_prepare_52 : decode cX1_prepare 52 = .ok (.iinc 3 1, 3) := dc_132 (byA eNcX1_prepare (p := 52) (v := 132) (by decide +kernel)) (byA eNcX1_prepare (p := 53) (v := 3) (by decide +kernel)) (byA eNcX1_prepare (p := 54) (v := 1) (by decide +kernel)) (by decide +kernel)
theorem dX1_prepare_55 : decode cX1_prepare 55 = .ok (.goto (-45), 3) := dc_167 (byA eNcX1_prepare (p := 55) (v := 167) (by decide +kernel)) (byA eNcX1_prepare (p := 56) (v := 255) (by decide +kernel)) (byA eNcX1_prepare (p := 57) (v := 211) (by decide +kernel)) (by decide +kernel)
theorem dX1_prepare_58 : decode cX1_prepare 58 = .ok (.aload_n 0, 1) := dc_42 (byA eNcX1_prepare (p := 58) (v := 42) (by decide +kernel))
theorem dX1_prepare_59 : decode cX1_prepare 59 = .ok (.aload_n 1, 1) := dc_43 (byA eNcX1_prepare (p := 59) (v := 43) (by decide +kernel))
theorem dX1_prepare_60 : decode cX1_prepare 60 = .ok (.getfield 44, 3) := dc_180 (byA eNcX1_prepare (p := 60) (v := 180) (by decide +kernel)) (byA eNcX1_prepare (p := 61) (v := 0) (by decide +kernel)) (byA eNcX1_prepare (p := 62) (v := 44) (by decide +kernel)) rfl
theorem dX1_prepare_63 : decode cX1_prepare 63 = .ok (.putfield 47, 3) := dc_181 (byA eNcX1_prepare (p := 63) (v := 181) (by decide +kernel)) (byA eNcX1_prepare (p := 64) (v := 0) (by decide +kernel)) (byA eNcX1_prepare (p := 65) (v := 47) (by decide +kernel)) rfl
theorem dX1_prepare_66 : decode cX1_prepare 66 = .ok (.aload_n 0, 1) := dc_42 (byA eNcX1_prepare (p := 66) (v := 42) (by decide +kernel))
theorem dX1_prepare_67 : decode cX1_prepare 67 = .ok (.aload_n 1, 1) := dc_43 (byA eNcX1_prepare (p := 67) (v := 43) (by decide +kernel))
theorem dX1_prepare_68 : decode cX1_prepare 68 = .ok (.bipush 8, 2) := dc_16 (byA eNcX1_prepare (p := 68) (v := 16) (by decide +kernel)) (byA eNcX1_prepare (p := 69) (v := 8) (by decide +kernel)) (by decide +kernel)
theorem dX1_prepare_70 : decode cX1_prepare 70 = .ok (.aload_n 1, 1) := dc_43 (byA eNcX1_prepare (p := 70) (v := 43) (by decide +kernel))
theorem dX1_prepare_71 : decode cX1_prepare 71 = .ok (.getfield 48, 3) := dc_180 (byA eNcX1_prepare (p := 71) (v := 180) (by decide +kernel)) (byA eNcX1_prepare (p := 72) (v := 0) (by decide +kernel)) (byA eNcX1_prepare (p := 73) (v := 48) (by decide +kernel)) rfl
theorem dX1_prepare_74 : decode cX1_prepare 74 = .ok (.invokevirtual 51, 3) := dc_182 (byA eNcX1_prepare (p := 74) (v := 182) (by decide +kernel)) (byA eNcX1_prepare (p := 75) (v := 0) (by decide +kernel)) (byA eNcX1_prepare (p := 76) (v := 51) (by decide +kernel)) rfl
theorem dX1_prepare_77 : decode cX1_prepare 77 = .ok (.iconst 0, 1) := dc_3 (byA eNcX1_prepare (p := 77) (v := 3) (by decide +kernel))
theorem dX1_prepare_78 : decode cX1_prepare 78 = .ok (.istore_n 3, 1) := dc_62 (byA eNcX1_prepare (p := 78) (v := 62) (by decide +kernel))
theorem dX1_prepare_79 : decode cX1_prepare 79 = .ok (.iload_n 3, 1) := dc_29 (byA eNcX1_prepare (p := 79) (v := 29) (by decide +kernel))
theorem dX1_prepare_80 : decode cX1_prepare 80 = .ok (.aload_n 0, 1) := dc_42 (byA eNcX1_prepare (p := 80) (v := 42) (by decide +kernel))
theorem dX1_prepare_81 : decode cX1_prepare 81 = .ok (.getfield 34, 3) := dc_180 (byA eNcX1_prepare (p := 81) (v := 180) (by decide +kernel)) (byA eNcX1_prepare (p := 82) (v := 0) (by decide +kernel)) (byA eNcX1_prepare (p := 83) (v := 34) (by decide +kernel)) rfl
theorem dX1_prepare_84 : decode cX1_prepare 84 = .ok (.if_icmp .ge 31, 3) := dc_162 (byA eNcX1_prepare (p := 84) (v := 162) (by decide +kernel)) (byA eNcX1_prepare (p := 85) (v := 0) (by decide +kernel)) (byA eNcX1_prepare (p := 86) (v := 31) (by decide +kernel)) (by decide +kernel)
theorem dX1_prepare_87 : decode cX1_prepare 87 = .ok (.iload_n 3, 1) := dc_29 (byA eNcX1_prepare (p := 87) (v := 29) (by decide +kernel))
theorem dX1_prepare_88 : decode cX1_prepare 88 = .ok (.bipush 8, 2) := dc_16 (byA eNcX1_prepare (p := 88) (v := 16) (by decide +kernel)) (byA eNcX1_prepare (p := 89) (v := 8) (by decide +kernel)) (by decide +kernel)
theorem dX1_prepare_90 : decode cX1_prepare 90 = .ok (.if_icmp .ge 25, 3) := dc_162 (byA eNcX1_prepare (p := 90) (v := 162) (by decide +kernel)) (byA eNcX1_prepare (p := 91) (v := 0) (by decide +kernel)) (byA eNcX1_prepare (p := 92) (v := 25) (by decide +kernel)) (by decide +kernel)
theorem dX1_prepare_93 : decode cX1_prepare 93 = .ok (.aload_n 0, 1) := dc_42 (byA eNcX1_prepare (p := 93) (v := 42) (by decide +kernel))
theorem dX1_prepare_94 : decode cX1_prepare 94 = .ok (.aload_n 1, 1) := dc_43 (byA eNcX1_prepare (p := 94) (v := 43) (by decide +kernel))
theorem dX1_prepare_95 : decode cX1_prepare 95 = .ok (.iload_n 3, 1) := dc_29 (byA eNcX1_prepare (p := 95) (v := 29) (by decide +kernel))
theorem dX1_prepare_96 : decode cX1_prepare 96 = .ok (.aload_n 1, 1) := dc_43 (byA eNcX1_prepare (p := 96) (v := 43) (by decide +kernel))
theorem dX1_prepare_97 : decode cX1_prepare 97 = .ok (.aload_n 0, 1) := dc_42 (byA eNcX1_prepare (p := 97) (v := 42) (by decide +kernel))
theorem dX1_prepare_98 : decode cX1_prepare 98 = .ok (.getfield 9, 3) := dc_180 (byA eNcX1_prepare (p := 98) (v := 180) (by decide +kernel)) (byA eNcX1_prepare (p := 99) (v := 0) (by decide +kernel)) (byA eNcX1_prepare (p := 100) (v := 9) (by decide +kernel)) rfl
theorem dX1_prepare_101 : decode cX1_prepare 101 = .ok (.iload_n 3, 1) := dc_29 (byA eNcX1_prepare (p := 101) (v := 29) (by decide +kernel))
theorem dX1_prepare_102 : decode cX1_prepare 102 = .ok (.iaload, 1) := dc_46 (byA eNcX1_prepare (p := 102) (v := 46) (by decide +kernel))
theorem dX1_prepare_103 : decode cX1_prepare 103 = .ok (.invokevirtual 55, 3) := dc_182 (byA eNcX1_prepare (p := 103) (v := 182) (by decide +kernel)) (byA eNcX1_prepare (p := 104) (v := 0) (by decide +kernel)) (byA eNcX1_prepare (p := 105) (v := 55) (by decide +kernel)) rfl
theorem dX1_prepare_106 : decode cX1_prepare 106 = .ok (.invokevirtual 51, 3) := dc_182 (byA eNcX1_prepare (p := 106) (v := 182) (by decide +kernel)) (byA eNcX1_prepare (p := 107) (v := 0) (by decide +kernel)) (byA eNcX1_prepare (p := 108) (v := 51) (by decide +kernel)) rfl
theorem dX1_prepare_109 : decode cX1_prepare 109 = .ok (.iinc 3 1, 3) := dc_132 (byA eNcX1_prepare (p := 109) (v := 132) (by decide +kernel)) (byA eNcX1_prepare (p := 110) (v := 3) (by decide +kernel)) (byA eNcX1_prepare (p := 111) (v := 1) (by decide +kernel)) (by decide +kernel)
theorem dX1_prepare_112 : decode cX1_prepare 112 = .ok (.goto (-33), 3) := dc_167 (byA eNcX1_prepare (p := 112) (v := 167) (by decide +kernel)) (byA eNcX1_prepare (p := 113) (v := 255) (by decide +kernel)) (byA eNcX1_prepare (p := 114) (v := 223) (by decide +kernel)) (by decide +kernel)
theorem dX1_prepare_115 : decode cX1_prepare 115 = .ok (.return_, 1) := dc_177 (byA eNcX1_prepare (p := 115) (v := 177) (by decide +kernel))
def X1_prepare_L10 (l0 : Nat) (l1 : Nat) (l2 : Nat) (k58 : Mm → Rs) : Nat → Int → Mm → Rs
  | 0, _, _ => none
  | n + 1, l3, μ => if (μ l0 5) ≤ l3 then (k58 μ) else (if 8 ≤ l3 then (k58 μ) else (ldA μ (l2 + 1) l3 fun v4 => stA μ (l0 + 1) l3 v4 fun μ6 => ldA μ6 (l0 + 1) l3 fun v8 => bd (X0_windOf l1 v8 μ6) fun v10 μ11 => stA μ11 (l0 + 3) l3 v10 fun μ13 => X1_prepare_L10 l0 l1 l2 k58 n (iA l3 1) μ13))
def X1_prepare_L79 (l0 : Nat) (l1 : Nat) : Nat → Int → Mm → Rs
  | 0, _, _ => none
  | n + 1, l3, μ => if (μ l0 5) ≤ l3 then (some (0, μ)) else (if 8 ≤ l3 then (some (0, μ)) else (ldA μ (l0 + 1) l3 fun v22 => bd (X0_placeOf l1 v22 μ) fun v24 μ25 => bd (X1_measure l0 l1 l3 v24 μ25) fun v27 μ28 => X1_prepare_L79 l0 l1 n (iA l3 1) μ28))
def X1_prepare_J58 (l0 : Nat) (l1 : Nat) (μ : Mm) : Rs := sF μ l0 6 (μ l1 7) fun μ16 => bd (X1_measure l0 l1 8 (μ16 l1 3) μ16) fun v17 μ18 => X1_prepare_L79 l0 l1 FU 0 μ18
def X1_prepare (l0 : Nat) (l1 : Nat) (l2 : Nat) (μ : Mm) : Rs := sF μ l0 5 (μ l2 2) fun μ1 => X1_prepare_L10 l0 l1 l2 (fun μ15 => X1_prepare_J58 l0 l1 μ15) FU 0 μ1
set_option maxHeartbeats 4000000 in
set_option maxRecDepth 100000 in
theorem kX1_prepare_L10 (d : Nat) (hd : 5 ≤ d) {l0 : Nat} {l1 : Nat} {l2 : Nat} (hk0 : kD l0 = (11, 7)) (hk1 : kD l1 = (10, 9)) (hk2 : kD l2 = (13, 3)) {k58 : Mm → Rs} {r : Int} {μ' : Mm} (hk_58 : ∀ (μ1 : Mm), k58 μ1 = some (r, μ') → VV d mX1_prepare 58 [some (vR l0), some (vR l1), none, none] [] μ1 r μ') : ∀ (n : Nat) {l3 : Int} {μ : Mm}, X1_prepare_L10 l0 l1 l2 k58 n l3 μ = some (r, μ') → VV d mX1_prepare 10 [some (vR l0), some (vR l1), some (vR l2), some (vI l3)] [] μ r μ' := by
  intro n
  induction n with
  | zero => intro l3 μ h; rw [X1_prepare_L10] at h; cases h
  | succ n ih =>
    intro l3 μ h
    rw [X1_prepare_L10] at h
    refine V_iload_n (q := 11) dX1_prepare_10 rfl rfl rfl ?_
    refine V_aload_n (q := 12) dX1_prepare_11 rfl rfl rfl ?_
    refine V_getI (q := 15) fl_X1_34 hk0 rfl rfl dX1_prepare_12 rfl ?_
    refine V_icmpge (q := 58) (q2 := 18) dX1_prepare_15 (by decide) rfl (fun hc2 => ?_) (fun hc2 => ?_)
    · have h := ifT hc2 h
      exact V_weak (hk_58 _ h) (sb_s rfl (sb_s rfl (sb_n (sb_n sb_0))))
    · have h := ifF hc2 h
      refine V_iload_n (q := 19) dX1_prepare_18 rfl rfl rfl ?_
      refine V_bipush (q := 21) dX1_prepare_19 rfl rfl rfl ?_
      refine V_icmpge (q := 58) (q2 := 24) dX1_prepare_21 (by decide) rfl (fun hc3 => ?_) (fun hc3 => ?_)
      · have h := ifT hc3 h
        exact V_weak (hk_58 _ h) (sb_s rfl (sb_s rfl (sb_n (sb_n sb_0))))
      · have h := ifF hc3 h
        refine V_aload_n (q := 25) dX1_prepare_24 rfl rfl rfl ?_
        refine V_getO (q := 28) (t := _) fl_X1_9 hk0 rfl rfl rfl dX1_prepare_25 rfl ?_
        refine V_iload_n (q := 29) dX1_prepare_28 rfl rfl rfl ?_
        refine V_aload_n (q := 30) dX1_prepare_29 rfl rfl rfl ?_
        refine V_getO (q := 33) (t := _) fl_X1_35 hk2 rfl rfl rfl dX1_prepare_30 rfl ?_
        refine V_iload_n (q := 34) dX1_prepare_33 rfl rfl rfl ?_
        obtain ⟨hi5, h⟩ := ldA_i h
        refine V_iaload (q := 35) (kdo_3_0 hk2) hi5 dX1_prepare_34 rfl ?_
        obtain ⟨hi7, h⟩ := stA_i h
        refine V_iastore (q := 36) (kdo_1_1 hk0) hi7 dX1_prepare_35 rfl ?_
        refine V_aload_n (q := 37) dX1_prepare_36 rfl rfl rfl ?_
        refine V_getO (q := 40) (t := _) fl_X1_18 hk0 rfl rfl rfl dX1_prepare_37 rfl ?_
        refine V_iload_n (q := 41) dX1_prepare_40 rfl rfl rfl ?_
        refine V_aload_n (q := 42) dX1_prepare_41 rfl rfl rfl ?_
        refine V_aload_n (q := 43) dX1_prepare_42 rfl rfl rfl ?_
        refine V_getO (q := 46) (t := _) fl_X1_9 hk0 rfl rfl rfl dX1_prepare_43 rfl ?_
        refine V_iload_n (q := 47) dX1_prepare_46 rfl rfl rfl ?_
        obtain ⟨hi9, h⟩ := ldA_i h
        refine V_iaload (q := 48) (kdo_1_1 hk0) hi9 dX1_prepare_47 rfl ?_
        obtain ⟨v10, μ11, hc12, h⟩ := bd_i h
        refine V_cV1 (q := 51) (v := vI v10) (kX0_windOf (d - 1) (by omega) hk1 hc12) (by omega) mv_X1_38 hk1 rfl rfl rfl rfl rfl dX1_prepare_48 rfl ?_
        obtain ⟨hi14, h⟩ := stA_i h
        refine V_iastore (q := 52) (kdo_1_3 hk0) hi14 dX1_prepare_51 rfl ?_
        refine V_iinc (q := 55) dX1_prepare_52 rfl (Nat.le_of_ble_eq_true rfl) trivial rfl ?_
        refine V_goto (q := 10) dX1_prepare_55 (by decide) ?_
        exact V_weak (ih h) (sb_s rfl (sb_s rfl (sb_s rfl (sb_s rfl sb_0))))
set_option maxHeartbeats 4000000 in
set_option maxRecDepth 100000 in
theorem kX1_prepare_L79 (d : Nat) (hd : 5 ≤ d) {l0 : Nat} {l1 : Nat} (hk0 : kD l0 = (11, 7)) (hk1 : kD l1 = (10, 9)) {r : Int} {μ' : Mm} : ∀ (n : Nat) {l3 : Int} {μ : Mm}, X1_prepare_L79 l0 l1 n l3 μ = some (r, μ') → VV d mX1_prepare 79 [some (vR l0), some (vR l1), none, some (vI l3)] [] μ r μ' := by
  intro n
  induction n with
  | zero => intro l3 μ h; rw [X1_prepare_L79] at h; cases h
  | succ n ih =>
    intro l3 μ h
    rw [X1_prepare_L79] at h
    refine V_iload_n (q := 80) dX1_prepare_79 rfl rfl rfl ?_
    refine V_aload_n (q := 81) dX1_prepare_80 rfl rfl rfl ?_
    refine V_getI (q := 84) fl_X1_34 hk0 rfl rfl dX1_prepare_81 rfl ?_
    refine V_icmpge (q := 115) (q2 := 87) dX1_prepare_84 (by decide) rfl (fun hc20 => ?_) (fun hc20 => ?_)
    · have h := ifT hc20 h
      exact V_vret rfl h dX1_prepare_115
    · have h := ifF hc20 h
      refine V_iload_n (q := 88) dX1_prepare_87 rfl rfl rfl ?_
      refine V_bipush (q := 90) dX1_prepare_88 rfl rfl rfl ?_
      refine V_icmpge (q := 115) (q2 := 93) dX1_prepare_90 (by decide) rfl (fun hc21 => ?_) (fun hc21 => ?_)
      · have h := ifT hc21 h
        exact V_vret rfl h dX1_prepare_115
      · have h := ifF hc21 h
        refine V_aload_n (q := 94) dX1_prepare_93 rfl rfl rfl ?_
        refine V_aload_n (q := 95) dX1_prepare_94 rfl rfl rfl ?_
        refine V_iload_n (q := 96) dX1_prepare_95 rfl rfl rfl ?_
        refine V_aload_n (q := 97) dX1_prepare_96 rfl rfl rfl ?_
        refine V_aload_n (q := 98) dX1_prepare_97 rfl rfl rfl ?_
        refine V_getO (q := 101) (t := _) fl_X1_9 hk0 rfl rfl rfl dX1_prepare_98 rfl ?_
        refine V_iload_n (q := 102) dX1_prepare_101 rfl rfl rfl ?_
        obtain ⟨hi23, h⟩ := ldA_i h
        refine V_iaload (q := 103) (kdo_1_1 hk0) hi23 dX1_prepare_102 rfl ?_
        obtain ⟨v24, μ25, hc26, h⟩ := bd_i h
        refine V_cV1 (q := 106) (v := vI v24) (kX0_placeOf (d - 1) (by omega) hk1 hc26) (by omega) mv_X1_55 hk1 rfl rfl rfl rfl rfl dX1_prepare_103 rfl ?_
        obtain ⟨v27, μ28, hc29, h⟩ := bd_i h
        refine V_cV0 (q := 109) (kX1_measure (d - 1) (by omega) hk0 hk1 hc29) (by omega) mv_X1_51 hk0 rfl rfl rfl rfl rfl dX1_prepare_106 rfl ?_
        refine V_iinc (q := 112) dX1_prepare_109 rfl (Nat.le_of_ble_eq_true rfl) trivial rfl ?_
        refine V_goto (q := 79) dX1_prepare_112 (by decide) ?_
        exact V_weak (ih h) (sb_s rfl (sb_s rfl (sb_n (sb_s rfl sb_0))))
set_option maxHeartbeats 4000000 in
set_option maxRecDepth 100000 in
theorem kX1_prepare_J58 (d : Nat) (hd : 5 ≤ d) {l0 : Nat} {l1 : Nat} (hk0 : kD l0 = (11, 7)) (hk1 : kD l1 = (10, 9)) {μ : Mm} {r : Int} {μ' : Mm} (h : X1_prepare_J58 l0 l1 μ = some (r, μ')) : VV d mX1_prepare 58 [some (vR l0), some (vR l1), none, none] [] μ r μ' := by
  unfold X1_prepare_J58 at h
  refine V_aload_n (q := 59) dX1_prepare_58 rfl rfl rfl ?_
  refine V_aload_n (q := 60) dX1_prepare_59 rfl rfl rfl ?_
  refine V_getI (q := 63) fl_X1_44 hk1 rfl rfl dX1_prepare_60 rfl ?_
  have h := sF_i h
  refine V_putI (q := 66) fl_X1_47 hk0 rfl rfl dX1_prepare_63 rfl ?_
  refine V_aload_n (q := 67) dX1_prepare_66 rfl rfl rfl ?_
  refine V_aload_n (q := 68) dX1_prepare_67 rfl rfl rfl ?_
  refine V_bipush (q := 70) dX1_prepare_68 rfl rfl rfl ?_
  refine V_aload_n (q := 71) dX1_prepare_70 rfl rfl rfl ?_
  refine V_getI (q := 74) fl_X1_48 hk1 rfl rfl dX1_prepare_71 rfl ?_
  obtain ⟨v17, μ18, hc19, h⟩ := bd_i h
  refine V_cV0 (q := 77) (kX1_measure (d - 1) (by omega) hk0 hk1 hc19) (by omega) mv_X1_51 hk0 rfl rfl rfl rfl rfl dX1_prepare_74 rfl ?_
  refine V_iconst (q := 78) dX1_prepare_77 rfl rfl ?_
  refine V_istore_n (q := 79) dX1_prepare_78 rfl (Nat.le_of_ble_eq_true rfl) trivial rfl ?_
  exact V_weak (kX1_prepare_L79 d hd hk0 hk1  FU h) (sb_s rfl (sb_s rfl (sb_n (sb_s rfl sb_0))))
set_option maxHeartbeats 4000000 in
set_option maxRecDepth 100000 in
theorem kX1_prepare (d : Nat) (hd : 5 ≤ d) {l0 : Nat} {l1 : Nat} {l2 : Nat} (hk0 : kD l0 = (11, 7)) (hk1 : kD l1 = (10, 9)) (hk2 : kD l2 = (13, 3)) {μ : Mm} {r : Int} {μ' : Mm} (h : X1_prepare l0 l1 l2 μ = some (r, μ')) : CC d mX1_prepare [vR l0, vR l1, vR l2] μ r μ' := by
  unfold X1_prepare at h
  refine V_enter (by decide) (Nat.le_of_ble_eq_true rfl) ?_
  show VV d mX1_prepare 0 [some (vR l0), some (vR l1), some (vR l2), none] [] μ r μ'
  refine V_aload_n (q := 1) dX1_prepare_0 rfl rfl rfl ?_
  refine V_aload_n (q := 2) dX1_prepare_1 rfl rfl rfl ?_
  refine V_getI (q := 5) fl_X1_28 hk2 rfl rfl dX1_prepare_2 rfl ?_
  have h := sF_i h
  refine V_putI (q := 8) fl_X1_34 hk0 rfl rfl dX1_prepare_5 rfl ?_
  refine V_iconst (q := 9) dX1_prepare_8 rfl rfl ?_
  refine V_istore_n (q := 10) dX1_prepare_9 rfl (Nat.le_of_ble_eq_true rfl) trivial rfl ?_
  refine V_weak (kX1_prepare_L10 d hd hk0 hk1 hk2 (fun μ15 h => ?_) FU h) (sb_s rfl (sb_s rfl (sb_s rfl (sb_s rfl sb_0))))
  exact V_weak (kX1_prepare_J58 d hd hk0 hk1 h) (sb_s rfl (sb_s rfl (sb_n (sb_n sb_0))))
abbrev mX1_standAt : Mth := (yX1_standAt, cX1_standAt, 4, none)
set_option maxRecDepth 100000 in
theorem mi_X1_standAt : Cond.instanceMethod yX1_standAt ∈ tG ∧ Cond.selects yX1_standAt.cls yX1_standAt yX1_standAt ∈ tG ∧ Cond.initialized yX1_standAt.cls ∈ tG ∧ Cond.code yX1_standAt cX1_standAt 4 (none) ∈ tG ∧ (yX1_standAt.cls ≠ "java/lang/invoke/MethodHandle" ∧ yX1_standAt.cls ≠ "java/lang/invoke/VarHandle" ∧ (parseMethodDescriptor yX1_standAt.desc).map (fun d => d.parameters.length) = some 3) ∧ 4 ≤ 60 := ⟨(tG_of (tb5 (List.mem_of_getElem? (i := 8) rfl)) (by decide +kernel)), (tG_of (tb5 (List.mem_of_getElem? (i := 9) rfl)) (by decide +kernel)), (tG_of (tb1 (List.mem_of_getElem? (i := 8) rfl)) (by decide +kernel)), (tG_of (tb5 (List.mem_of_getElem? (i := 10) rfl)) (by decide +kernel)), ⟨by decide, by decide, by decide +kernel⟩, by decide⟩
set_option maxRecDepth 100000 in
theorem mv_X10_360 : mV RX10 360 mX1_standAt 3 := ⟨(tG_of (tb5 (List.mem_of_getElem? (i := 7) rfl)) (by decide +kernel)), mi_X1_standAt⟩
theorem dX1_standAt_0 : decode cX1_standAt 0 = .ok (.aload_n 0, 1) := dc_42 (byA eNcX1_standAt (p := 0) (v := 42) (by decide +kernel))
theorem dX1_standAt_1 : decode cX1_standAt 1 = .ok (.iload_n 3, 1) := dc_29 (byA eNcX1_standAt (p := 1) (v := 29) (by decide +kernel))
theorem dX1_standAt_2 : decode cX1_standAt 2 = .ok (.putfield 47, 3) := dc_181 (byA eNcX1_standAt (p := 2) (v := 181) (by decide +kernel)) (byA eNcX1_standAt (p := 3) (v := 0) (by decide +kernel)) (byA eNcX1_standAt (p := 4) (v := 47) (by decide +kernel)) rfl
theorem dX1_standAt_5 : decode cX1_standAt 5 = .ok (.aload_n 0, 1) := dc_42 (byA eNcX1_standAt (p := 5) (v := 42) (by decide +kernel))
theorem dX1_standAt_6 : decode cX1_standAt 6 = .ok (.aload_n 1, 1) := dc_43 (byA eNcX1_standAt (p := 6) (v := 43) (by decide +kernel))
theorem dX1_standAt_7 : decode cX1_standAt 7 = .ok (.bipush 8, 2) := dc_16 (byA eNcX1_standAt (p := 7) (v := 16) (by decide +kernel)) (byA eNcX1_standAt (p := 8) (v := 8) (by decide +kernel)) (by decide +kernel)
theorem dX1_standAt_9 : decode cX1_standAt 9 = .ok (.iload_n 2, 1) := dc_28 (byA eNcX1_standAt (p := 9) (v := 28) (by decide +kernel))
theorem dX1_standAt_10 : decode cX1_standAt 10 = .ok (.invokevirtual 51, 3) := dc_182 (byA eNcX1_standAt (p := 10) (v := 182) (by decide +kernel)) (byA eNcX1_standAt (p := 11) (v := 0) (by decide +kernel)) (byA eNcX1_standAt (p := 12) (v := 51) (by decide +kernel)) rfl
theorem dX1_standAt_13 : decode cX1_standAt 13 = .ok (.return_, 1) := dc_177 (byA eNcX1_standAt (p := 13) (v := 177) (by decide +kernel))
def X1_standAt (l0 : Nat) (l1 : Nat) (l2 : Int) (l3 : Int) (μ : Mm) : Rs := sF μ l0 6 l3 fun μ1 => bd (X1_measure l0 l1 8 l2 μ1) fun v2 μ3 => some (0, μ3)
set_option maxHeartbeats 4000000 in
set_option maxRecDepth 100000 in
theorem kX1_standAt (d : Nat) (hd : 5 ≤ d) {l0 : Nat} {l1 : Nat} {l2 : Int} {l3 : Int} (hk0 : kD l0 = (11, 7)) (hk1 : kD l1 = (10, 9)) {μ : Mm} {r : Int} {μ' : Mm} (h : X1_standAt l0 l1 l2 l3 μ = some (r, μ')) : CC d mX1_standAt [vR l0, vR l1, vI l2, vI l3] μ r μ' := by
  unfold X1_standAt at h
  refine V_enter (by decide) (Nat.le_of_ble_eq_true rfl) ?_
  show VV d mX1_standAt 0 [some (vR l0), some (vR l1), some (vI l2), some (vI l3)] [] μ r μ'
  refine V_aload_n (q := 1) dX1_standAt_0 rfl rfl rfl ?_
  refine V_iload_n (q := 2) dX1_standAt_1 rfl rfl rfl ?_
  have h := sF_i h
  refine V_putI (q := 5) fl_X1_47 hk0 rfl rfl dX1_standAt_2 rfl ?_
  refine V_aload_n (q := 6) dX1_standAt_5 rfl rfl rfl ?_
  refine V_aload_n (q := 7) dX1_standAt_6 rfl rfl rfl ?_
  refine V_bipush (q := 9) dX1_standAt_7 rfl rfl rfl ?_
  refine V_iload_n (q := 10) dX1_standAt_9 rfl rfl rfl ?_
  obtain ⟨v2, μ3, hc4, h⟩ := bd_i h
  refine V_cV0 (q := 13) (kX1_measure (d - 1) (by omega) hk0 hk1 hc4) (by omega) mv_X1_51 hk0 rfl rfl rfl rfl rfl dX1_standAt_10 rfl ?_
  exact V_vret rfl h dX1_standAt_13
abbrev mX1_copy : Mth := (yX1_copy, cX1_copy, 2, none)
set_option maxRecDepth 100000 in
theorem mi_X1_copy : Cond.instanceMethod yX1_copy ∈ tG ∧ Cond.selects yX1_copy.cls yX1_copy yX1_copy ∈ tG ∧ Cond.initialized yX1_copy.cls ∈ tG ∧ Cond.code yX1_copy cX1_copy 2 (none) ∈ tG ∧ (yX1_copy.cls ≠ "java/lang/invoke/MethodHandle" ∧ yX1_copy.cls ≠ "java/lang/invoke/VarHandle" ∧ (parseMethodDescriptor yX1_copy.desc).map (fun d => d.parameters.length) = some 1) ∧ 2 ≤ 60 := ⟨(tG_of (tb5 (List.mem_of_getElem? (i := 3) rfl)) (by decide +kernel)), (tG_of (tb5 (List.mem_of_getElem? (i := 4) rfl)) (by decide +kernel)), (tG_of (tb1 (List.mem_of_getElem? (i := 8) rfl)) (by decide +kernel)), (tG_of (tb5 (List.mem_of_getElem? (i := 5) rfl)) (by decide +kernel)), ⟨by decide, by decide, by decide +kernel⟩, by decide⟩
set_option maxRecDepth 100000 in
theorem mv_X10_358 : mV RX10 358 mX1_copy 1 := ⟨(tG_of (tb5 (List.mem_of_getElem? (i := 2) rfl)) (by decide +kernel)), mi_X1_copy⟩
theorem dX1_copy_0 : decode cX1_copy 0 = .ok (.aload_n 1, 1) := dc_43 (byA eNcX1_copy (p := 0) (v := 43) (by decide +kernel))
theorem dX1_copy_1 : decode cX1_copy 1 = .ok (.getfield 9, 3) := dc_180 (byA eNcX1_copy (p := 1) (v := 180) (by decide +kernel)) (byA eNcX1_copy (p := 2) (v := 0) (by decide +kernel)) (byA eNcX1_copy (p := 3) (v := 9) (by decide +kernel)) rfl
theorem dX1_copy_4 : decode cX1_copy 4 = .ok (.iconst 0, 1) := dc_3 (byA eNcX1_copy (p := 4) (v := 3) (by decide +kernel))
theorem dX1_copy_5 : decode cX1_copy 5 = .ok (.aload_n 0, 1) := dc_42 (byA eNcX1_copy (p := 5) (v := 42) (by decide +kernel))
theorem dX1_copy_6 : decode cX1_copy 6 = .ok (.getfield 9, 3) := dc_180 (byA eNcX1_copy (p := 6) (v := 180) (by decide +kernel)) (byA eNcX1_copy (p := 7) (v := 0) (by decide +kernel)) (byA eNcX1_copy (p := 8) (v := 9) (by decide +kernel)) rfl
theorem dX1_copy_9 : decode cX1_copy 9 = .ok (.iconst 0, 1) := dc_3 (byA eNcX1_copy (p := 9) (v := 3) (by decide +kernel))
theorem dX1_copy_10 : decode cX1_copy 10 = .ok (.bipush 8, 2) := dc_16 (byA eNcX1_copy (p := 10) (v := 16) (by decide +kernel)) (byA eNcX1_copy (p := 11) (v := 8) (by decide +kernel)) (by decide +kernel)
theorem dX1_copy_12 : decode cX1_copy 12 = .ok (.invokestatic 66, 3) := dc_184 (byA eNcX1_copy (p := 12) (v := 184) (by decide +kernel)) (byA eNcX1_copy (p := 13) (v := 0) (by decide +kernel)) (byA eNcX1_copy (p := 14) (v := 66) (by decide +kernel)) rfl
theorem dX1_copy_15 : decode cX1_copy 15 = .ok (.aload_n 1, 1) := dc_43 (byA eNcX1_copy (p := 15) (v := 43) (by decide +kernel))
theorem dX1_copy_16 : decode cX1_copy 16 = .ok (.getfield 15, 3) := dc_180 (byA eNcX1_copy (p := 16) (v := 180) (by decide +kernel)) (byA eNcX1_copy (p := 17) (v := 0) (by decide +kernel)) (byA eNcX1_copy (p := 18) (v := 15) (by decide +kernel)) rfl
theorem dX1_copy_19 : decode cX1_copy 19 = .ok (.iconst 0, 1) := dc_3 (byA eNcX1_copy (p := 19) (v := 3) (by decide +kernel))
theorem dX1_copy_20 : decode cX1_copy 20 = .ok (.aload_n 0, 1) := dc_42 (byA eNcX1_copy (p := 20) (v := 42) (by decide +kernel))
theorem dX1_copy_21 : decode cX1_copy 21 = .ok (.getfield 15, 3) := dc_180 (byA eNcX1_copy (p := 21) (v := 180) (by decide +kernel)) (byA eNcX1_copy (p := 22) (v := 0) (by decide +kernel)) (byA eNcX1_copy (p := 23) (v := 15) (by decide +kernel)) rfl
theorem dX1_copy_24 : decode cX1_copy 24 = .ok (.iconst 0, 1) := dc_3 (byA eNcX1_copy (p := 24) (v := 3) (by decide +kernel))
theorem dX1_copy_25 : decode cX1_copy 25 = .ok (.bipush 8, 2) := dc_16 (byA eNcX1_copy (p := 25) (v := 16) (by decide +kernel)) (byA eNcX1_copy (p := 26) (v := 8) (by decide +kernel)) (by decide +kernel)
theorem dX1_copy_27 : decode cX1_copy 27 = .ok (.invokestatic 66, 3) := dc_184 (byA eNcX1_copy (p := 27) (v := 184) (by decide +kernel)) (byA eNcX1_copy (p := 28) (v := 0) (by decide +kernel)) (byA eNcX1_copy (p := 29) (v := 66) (by decide +kernel)) rfl
theorem dX1_copy_30 : decode cX1_copy 30 = .ok (.aload_n 1, 1) := dc_43 (byA eNcX1_copy (p := 30) (v := 43) (by decide +kernel))
theorem dX1_copy_31 : decode cX1_copy 31 = .ok (.getfield 18, 3) := dc_180 (byA eNcX1_copy (p := 31) (v := 180) (by decide +kernel)) (byA eNcX1_copy (p := 32) (v := 0) (by decide +kernel)) (byA eNcX1_copy (p := 33) (v := 18) (by decide +kernel)) rfl
theorem dX1_copy_34 : decode cX1_copy 34 = .ok (.iconst 0, 1) := dc_3 (byA eNcX1_copy (p := 34) (v := 3) (by decide +kernel))
theorem dX1_copy_35 : decode cX1_copy 35 = .ok (.aload_n 0, 1) := dc_42 (byA eNcX1_copy (p := 35) (v := 42) (by decide +kernel))
theorem dX1_copy_36 : decode cX1_copy 36 = .ok (.getfield 18, 3) := dc_180 (byA eNcX1_copy (p := 36) (v := 180) (by decide +kernel)) (byA eNcX1_copy (p := 37) (v := 0) (by decide +kernel)) (byA eNcX1_copy (p := 38) (v := 18) (by decide +kernel)) rfl
theorem dX1_copy_39 : decode cX1_copy 39 = .ok (.iconst 0, 1) := dc_3 (byA eNcX1_copy (p := 39) (v := 3) (by decide +kernel))
theorem dX1_copy_40 : decode cX1_copy 40 = .ok (.bipush 8, 2) := dc_16 (byA eNcX1_copy (p := 40) (v := 16) (by decide +kernel)) (byA eNcX1_copy (p := 41) (v := 8) (by decide +kernel)) (by decide +kernel)
theorem dX1_copy_42 : decode cX1_copy 42 = .ok (.invokestatic 66, 3) := dc_184 (byA eNcX1_copy (p := 42) (v := 184) (by decide +kernel)) (byA eNcX1_copy (p := 43) (v := 0) (by decide +kernel)) (byA eNcX1_copy (p := 44) (v := 66) (by decide +kernel)) rfl
theorem dX1_copy_45 : decode cX1_copy 45 = .ok (.aload_n 1, 1) := dc_43 (byA eNcX1_copy (p := 45) (v := 43) (by decide +kernel))
theorem dX1_copy_46 : decode cX1_copy 46 = .ok (.getfield 21, 3) := dc_180 (byA eNcX1_copy (p := 46) (v := 180) (by decide +kernel)) (byA eNcX1_copy (p := 47) (v := 0) (by decide +kernel)) (byA eNcX1_copy (p := 48) (v := 21) (by decide +kernel)) rfl
theorem dX1_copy_49 : decode cX1_copy 49 = .ok (.iconst 0, 1) := dc_3 (byA eNcX1_copy (p := 49) (v := 3) (by decide +kernel))
theorem dX1_copy_50 : decode cX1_copy 50 = .ok (.aload_n 0, 1) := dc_42 (byA eNcX1_copy (p := 50) (v := 42) (by decide +kernel))
theorem dX1_copy_51 : decode cX1_copy 51 = .ok (.getfield 21, 3) := dc_180 (byA eNcX1_copy (p := 51) (v := 180) (by decide +kernel)) (byA eNcX1_copy (p := 52) (v := 0) (by decide +kernel)) (byA eNcX1_copy (p := 53) (v := 21) (by decide +kernel)) rfl
theorem dX1_copy_54 : decode cX1_copy 54 = .ok (.iconst 0, 1) := dc_3 (byA eNcX1_copy (p := 54) (v := 3) (by decide +kernel))
theorem dX1_copy_55 : decode cX1_copy 55 = .ok (.bipush 72, 2) := dc_16 (byA eNcX1_copy (p := 55) (v := 16) (by decide +kernel)) (byA eNcX1_copy (p := 56) (v := 72) (by decide +kernel)) (by decide +kernel)
theorem dX1_copy_57 : decode cX1_copy 57 = .ok (.invokestatic 66, 3) := dc_184 (byA eNcX1_copy (p := 57) (v := 184) (by decide +kernel)) (byA eNcX1_copy (p := 58) (v := 0) (by decide +kernel)) (byA eNcX1_copy (p := 59) (v := 66) (by decide +kernel)) rfl
theorem dX1_copy_60 : decode cX1_copy 60 = .ok (.aload_n 0, 1) := dc_42 (byA eNcX1_copy (p := 60) (v := 42) (by decide +kernel))
theorem dX1_copy_61 : decode cX1_copy 61 = .ok (.aload_n 1, 1) := dc_43 (byA eNcX1_copy (p := 61) (v := 43) (by decide +kernel))
theorem dX1_copy_62 : decode cX1_copy 62 = .ok (.getfield 34, 3) := dc_180 (byA eNcX1_copy (p := 62) (v := 180) (by decide +kernel)) (byA eNcX1_copy (p := 63) (v := 0) (by decide +kernel)) (byA eNcX1_copy (p := 64) (v := 34) (by decide +kernel)) rfl
theorem dX1_copy_65 : decode cX1_copy 65 = .ok (.putfield 34, 3) := dc_181 (byA eNcX1_copy (p := 65) (v := 181) (by decide +kernel)) (byA eNcX1_copy (p := 66) (v := 0) (by decide +kernel)) (byA eNcX1_copy (p := 67) (v := 34) (by decide +kernel)) rfl
theorem dX1_copy_68 : decode cX1_copy 68 = .ok (.aload_n 0, 1) := dc_42 (byA eNcX1_copy (p := 68) (v := 42) (by decide +kernel))
theorem dX1_copy_69 : decode cX1_copy 69 = .ok (.aload_n 1, 1) := dc_43 (byA eNcX1_copy (p := 69) (v := 43) (by decide +kernel))
theorem dX1_copy_70 : decode cX1_copy 70 = .ok (.getfield 47, 3) := dc_180 (byA eNcX1_copy (p := 70) (v := 180) (by decide +kernel)) (byA eNcX1_copy (p := 71) (v := 0) (by decide +kernel)) (byA eNcX1_copy (p := 72) (v := 47) (by decide +kernel)) rfl
theorem dX1_copy_73 : decode cX1_copy 73 = .ok (.putfield 47, 3) := dc_181 (byA eNcX1_copy (p := 73) (v := 181) (by decide +kernel)) (byA eNcX1_copy (p := 74) (v := 0) (by decide +kernel)) (byA eNcX1_copy (p := 75) (v := 47) (by decide +kernel)) rfl
theorem dX1_copy_76 : decode cX1_copy 76 = .ok (.return_, 1) := dc_177 (byA eNcX1_copy (p := 76) (v := 177) (by decide +kernel))
def X1_copy (l0 : Nat) (l1 : Nat) (μ : Mm) : Rs := cpA μ (l1 + 1) (l0 + 1) 8 fun μ1 => cpA μ1 (l1 + 2) (l0 + 2) 8 fun μ3 => cpA μ3 (l1 + 3) (l0 + 3) 8 fun μ5 => cpA μ5 (l1 + 4) (l0 + 4) 72 fun μ7 => sF μ7 l0 5 (μ7 l1 5) fun μ9 => sF μ9 l0 6 (μ9 l1 6) fun μ10 => some (0, μ10)
set_option maxHeartbeats 4000000 in
set_option maxRecDepth 100000 in
theorem kX1_copy (d : Nat) (hd : 1 ≤ d) {l0 : Nat} {l1 : Nat} (hk0 : kD l0 = (11, 7)) (hk1 : kD l1 = (11, 7)) {μ : Mm} {r : Int} {μ' : Mm} (h : X1_copy l0 l1 μ = some (r, μ')) : CC d mX1_copy [vR l0, vR l1] μ r μ' := by
  unfold X1_copy at h
  refine V_enter (by decide) (Nat.le_of_ble_eq_true rfl) ?_
  show VV d mX1_copy 0 [some (vR l0), some (vR l1)] [] μ r μ'
  refine V_aload_n (q := 1) dX1_copy_0 rfl rfl rfl ?_
  refine V_getO (q := 4) (t := _) fl_X1_9 hk1 rfl rfl rfl dX1_copy_1 rfl ?_
  refine V_iconst (q := 5) dX1_copy_4 rfl rfl ?_
  refine V_aload_n (q := 6) dX1_copy_5 rfl rfl rfl ?_
  refine V_getO (q := 9) (t := _) fl_X1_9 hk0 rfl rfl rfl dX1_copy_6 rfl ?_
  refine V_iconst (q := 10) dX1_copy_9 rfl rfl ?_
  refine V_bipush (q := 12) dX1_copy_10 rfl rfl rfl ?_
  obtain ⟨hn2, h⟩ := cpA_i h
  refine V_copy (q := 15) mc_X1_66 (by omega) (kdo_1_1 hk1) (kdo_1_1 hk0) hn2 rfl dX1_copy_12 rfl ?_
  refine V_aload_n (q := 16) dX1_copy_15 rfl rfl rfl ?_
  refine V_getO (q := 19) (t := _) fl_X1_15 hk1 rfl rfl rfl dX1_copy_16 rfl ?_
  refine V_iconst (q := 20) dX1_copy_19 rfl rfl ?_
  refine V_aload_n (q := 21) dX1_copy_20 rfl rfl rfl ?_
  refine V_getO (q := 24) (t := _) fl_X1_15 hk0 rfl rfl rfl dX1_copy_21 rfl ?_
  refine V_iconst (q := 25) dX1_copy_24 rfl rfl ?_
  refine V_bipush (q := 27) dX1_copy_25 rfl rfl rfl ?_
  obtain ⟨hn4, h⟩ := cpA_i h
  refine V_copy (q := 30) mc_X1_66 (by omega) (kdo_1_2 hk1) (kdo_1_2 hk0) hn4 rfl dX1_copy_27 rfl ?_
  refine V_aload_n (q := 31) dX1_copy_30 rfl rfl rfl ?_
  refine V_getO (q := 34) (t := _) fl_X1_18 hk1 rfl rfl rfl dX1_copy_31 rfl ?_
  refine V_iconst (q := 35) dX1_copy_34 rfl rfl ?_
  refine V_aload_n (q := 36) dX1_copy_35 rfl rfl rfl ?_
  refine V_getO (q := 39) (t := _) fl_X1_18 hk0 rfl rfl rfl dX1_copy_36 rfl ?_
  refine V_iconst (q := 40) dX1_copy_39 rfl rfl ?_
  refine V_bipush (q := 42) dX1_copy_40 rfl rfl rfl ?_
  obtain ⟨hn6, h⟩ := cpA_i h
  refine V_copy (q := 45) mc_X1_66 (by omega) (kdo_1_3 hk1) (kdo_1_3 hk0) hn6 rfl dX1_copy_42 rfl ?_
  refine V_aload_n (q := 46) dX1_copy_45 rfl rfl rfl ?_
  refine V_getO (q := 49) (t := _) fl_X1_21 hk1 rfl rfl rfl dX1_copy_46 rfl ?_
  refine V_iconst (q := 50) dX1_copy_49 rfl rfl ?_
  refine V_aload_n (q := 51) dX1_copy_50 rfl rfl rfl ?_
  refine V_getO (q := 54) (t := _) fl_X1_21 hk0 rfl rfl rfl dX1_copy_51 rfl ?_
  refine V_iconst (q := 55) dX1_copy_54 rfl rfl ?_
  refine V_bipush (q := 57) dX1_copy_55 rfl rfl rfl ?_
  obtain ⟨hn8, h⟩ := cpA_i h
  refine V_copy (q := 60) mc_X1_66 (by omega) (kdo_1_4 hk1) (kdo_1_4 hk0) hn8 rfl dX1_copy_57 rfl ?_
  refine V_aload_n (q := 61) dX1_copy_60 rfl rfl rfl ?_
  refine V_aload_n (q := 62) dX1_copy_61 rfl rfl rfl ?_
  refine V_getI (q := 65) fl_X1_34 hk1 rfl rfl dX1_copy_62 rfl ?_
  have h := sF_i h
  refine V_putI (q := 68) fl_X1_34 hk0 rfl rfl dX1_copy_65 rfl ?_
  refine V_aload_n (q := 69) dX1_copy_68 rfl rfl rfl ?_
  refine V_aload_n (q := 70) dX1_copy_69 rfl rfl rfl ?_
  refine V_getI (q := 73) fl_X1_47 hk1 rfl rfl dX1_copy_70 rfl ?_
  have h := sF_i h
  refine V_putI (q := 76) fl_X1_47 hk0 rfl rfl dX1_copy_73 rfl ?_
  exact V_vret rfl h dX1_copy_76
abbrev mX1_allCues : Mth := (yX1_allCues, cX1_allCues, 1, some .int)
set_option maxRecDepth 100000 in
theorem mi_X1_allCues : Cond.instanceMethod yX1_allCues ∈ tG ∧ Cond.selects yX1_allCues.cls yX1_allCues yX1_allCues ∈ tG ∧ Cond.initialized yX1_allCues.cls ∈ tG ∧ Cond.code yX1_allCues cX1_allCues 1 (some .int) ∈ tG ∧ (yX1_allCues.cls ≠ "java/lang/invoke/MethodHandle" ∧ yX1_allCues.cls ≠ "java/lang/invoke/VarHandle" ∧ (parseMethodDescriptor yX1_allCues.desc).map (fun d => d.parameters.length) = some 0) ∧ 1 ≤ 60 := ⟨(tG_of (tb4 (List.mem_of_getElem? (i := 80) rfl)) (by decide +kernel)), (tG_of (tb4 (List.mem_of_getElem? (i := 81) rfl)) (by decide +kernel)), (tG_of (tb1 (List.mem_of_getElem? (i := 8) rfl)) (by decide +kernel)), (tG_of (tb4 (List.mem_of_getElem? (i := 82) rfl)) (by decide +kernel)), ⟨by decide, by decide, by decide +kernel⟩, by decide⟩
set_option maxRecDepth 100000 in
theorem mv_X10_316 : mV RX10 316 mX1_allCues 0 := ⟨(tG_of (tb4 (List.mem_of_getElem? (i := 110) rfl)) (by decide +kernel)), mi_X1_allCues⟩
set_option maxRecDepth 100000 in
theorem mv_X6_55 : mV RX6 55 mX1_allCues 0 := ⟨(tG_of (tb4 (List.mem_of_getElem? (i := 79) rfl)) (by decide +kernel)), mi_X1_allCues⟩
theorem dX1_allCues_0 : decode cX1_allCues 0 = .ok (.iconst 1, 1) := dc_4 (byA eNcX1_allCues (p := 0) (v := 4) (by decide +kernel))
theorem dX1_allCues_1 : decode cX1_allCues 1 = .ok (.aload_n 0, 1) := dc_42 (byA eNcX1_allCues (p := 1) (v := 42) (by decide +kernel))
theorem dX1_allCues_2 : decode cX1_allCues 2 = .ok (.getfield 34, 3) := dc_180 (byA eNcX1_allCues (p := 2) (v := 180) (by decide +kernel)) (byA eNcX1_allCues (p := 3) (v := 0) (by decide +kernel)) (byA eNcX1_allCues (p := 4) (v := 34) (by decide +kernel)) rfl
theorem dX1_allCues_5 : decode cX1_allCues 5 = .ok (.ishl, 1) := dc_120 (byA eNcX1_allCues (p := 5) (v := 120) (by decide +kernel))
theorem dX1_allCues_6 : decode cX1_allCues 6 = .ok (.iconst 1, 1) := dc_4 (byA eNcX1_allCues (p := 6) (v := 4) (by decide +kernel))
theorem dX1_allCues_7 : decode cX1_allCues 7 = .ok (.isub, 1) := dc_100 (byA eNcX1_allCues (p := 7) (v := 100) (by decide +kernel))
theorem dX1_allCues_8 : decode cX1_allCues 8 = .ok (.ireturn, 1) := dc_172 (byA eNcX1_allCues (p := 8) (v := 172) (by decide +kernel))
def X1_allCues (l0 : Nat) (μ : Mm) : Rs := some (iS (bL 1 (μ l0 5)) 1, μ)
set_option maxHeartbeats 4000000 in
set_option maxRecDepth 100000 in
theorem kX1_allCues (d : Nat) (hd : 1 ≤ d) {l0 : Nat} (hk0 : kD l0 = (11, 7)) {μ : Mm} {r : Int} {μ' : Mm} (h : X1_allCues l0 μ = some (r, μ')) : CC d mX1_allCues [vR l0] μ r μ' := by
  unfold X1_allCues at h
  refine V_enter (by decide) (Nat.le_of_ble_eq_true rfl) ?_
  show VV d mX1_allCues 0 [some (vR l0)] [] μ r μ'
  refine V_iconst (q := 1) dX1_allCues_0 rfl rfl ?_
  refine V_aload_n (q := 2) dX1_allCues_1 rfl rfl rfl ?_
  refine V_getI (q := 5) fl_X1_34 hk0 rfl rfl dX1_allCues_2 rfl ?_
  refine V_ishl (q := 6) dX1_allCues_5 rfl ?_
  refine V_iconst (q := 7) dX1_allCues_6 rfl rfl ?_
  refine V_isub (q := 8) dX1_allCues_7 rfl ?_
  exact V_iret rfl h dX1_allCues_8
abbrev mX1_stepsBetween : Mth := (yX1_stepsBetween, cX1_stepsBetween, 4, some .int)
set_option maxRecDepth 100000 in
theorem mi_X1_stepsBetween : Cond.instanceMethod yX1_stepsBetween ∈ tG ∧ Cond.selects yX1_stepsBetween.cls yX1_stepsBetween yX1_stepsBetween ∈ tG ∧ Cond.initialized yX1_stepsBetween.cls ∈ tG ∧ Cond.code yX1_stepsBetween cX1_stepsBetween 4 (some .int) ∈ tG ∧ (yX1_stepsBetween.cls ≠ "java/lang/invoke/MethodHandle" ∧ yX1_stepsBetween.cls ≠ "java/lang/invoke/VarHandle" ∧ (parseMethodDescriptor yX1_stepsBetween.desc).map (fun d => d.parameters.length) = some 2) ∧ 4 ≤ 60 := ⟨(tG_of (tb4 (List.mem_of_getElem? (i := 20) rfl)) (by decide +kernel)), (tG_of (tb4 (List.mem_of_getElem? (i := 21) rfl)) (by decide +kernel)), (tG_of (tb1 (List.mem_of_getElem? (i := 8) rfl)) (by decide +kernel)), (tG_of (tb4 (List.mem_of_getElem? (i := 22) rfl)) (by decide +kernel)), ⟨by decide, by decide, by decide +kernel⟩, by decide⟩
set_option maxRecDepth 100000 in
theorem mv_X1_72 : mV RX1 72 mX1_stepsBetween 2 := ⟨(tG_of (tb4 (List.mem_of_getElem? (i := 19) rfl)) (by decide +kernel)), mi_X1_stepsBetween⟩
set_option maxRecDepth 100000 in
theorem mv_X5_48 : mV RX5 48 mX1_stepsBetween 2 := ⟨(tG_of (tb4 (List.mem_of_getElem? (i := 23) rfl)) (by decide +kernel)), mi_X1_stepsBetween⟩
theorem dX1_stepsBetween_0 : decode cX1_stepsBetween 0 = .ok (.iload_n 1, 1) := dc_27 (byA eNcX1_stepsBetween (p := 0) (v := 27) (by decide +kernel))
theorem dX1_stepsBetween_1 : decode cX1_stepsBetween 1 = .ok (.bipush 8, 2) := dc_16 (byA eNcX1_stepsBetween (p := 1) (v := 16) (by decide +kernel)) (byA eNcX1_stepsBetween (p := 2) (v := 8) (by decide +kernel)) (by decide +kernel)
theorem dX1_stepsBetween_3 : decode cX1_stepsBetween 3 = .ok (.imul, 1) := dc_104 (byA eNcX1_stepsBetween (p := 3) (v := 104) (by decide +kernel))
theorem dX1_stepsBetween_4 : decode cX1_stepsBetween 4 = .ok (.iload_n 2, 1) := dc_28 (byA eNcX1_stepsBetween (p := 4) (v := 28) (by decide +kernel))
theorem dX1_stepsBetween_5 : decode cX1_stepsBetween 5 = .ok (.iadd, 1) := dc_96 (byA eNcX1_stepsBetween (p := 5) (v := 96) (by decide +kernel))
theorem dX1_stepsBetween_6 : decode cX1_stepsBetween 6 = .ok (.istore_n 3, 1) := dc_62 (byA eNcX1_stepsBetween (p := 6) (v := 62) (by decide +kernel))
theorem dX1_stepsBetween_7 : decode cX1_stepsBetween 7 = .ok (.iload_n 3, 1) := dc_29 (byA eNcX1_stepsBetween (p := 7) (v := 29) (by decide +kernel))
theorem dX1_stepsBetween_8 : decode cX1_stepsBetween 8 = .ok (.ifCond .lt 21, 3) := dc_155 (byA eNcX1_stepsBetween (p := 8) (v := 155) (by decide +kernel)) (byA eNcX1_stepsBetween (p := 9) (v := 0) (by decide +kernel)) (byA eNcX1_stepsBetween (p := 10) (v := 21) (by decide +kernel)) (by decide +kernel)
theorem dX1_stepsBetween_11 : decode cX1_stepsBetween 11 = .ok (.iload_n 3, 1) := dc_29 (byA eNcX1_stepsBetween (p := 11) (v := 29) (by decide +kernel))
theorem dX1_stepsBetween_12 : decode cX1_stepsBetween 12 = .ok (.aload_n 0, 1) := dc_42 (byA eNcX1_stepsBetween (p := 12) (v := 42) (by decide +kernel))
theorem dX1_stepsBetween_13 : decode cX1_stepsBetween 13 = .ok (.getfield 21, 3) := dc_180 (byA eNcX1_stepsBetween (p := 13) (v := 180) (by decide +kernel)) (byA eNcX1_stepsBetween (p := 14) (v := 0) (by decide +kernel)) (byA eNcX1_stepsBetween (p := 15) (v := 21) (by decide +kernel)) rfl
theorem dX1_stepsBetween_16 : decode cX1_stepsBetween 16 = .ok (.arraylength, 1) := dc_190 (byA eNcX1_stepsBetween (p := 16) (v := 190) (by decide +kernel))
theorem dX1_stepsBetween_17 : decode cX1_stepsBetween 17 = .ok (.if_icmp .ge 12, 3) := dc_162 (byA eNcX1_stepsBetween (p := 17) (v := 162) (by decide +kernel)) (byA eNcX1_stepsBetween (p := 18) (v := 0) (by decide +kernel)) (byA eNcX1_stepsBetween (p := 19) (v := 12) (by decide +kernel)) (by decide +kernel)
theorem dX1_stepsBetween_20 : decode cX1_stepsBetween 20 = .ok (.aload_n 0, 1) := dc_42 (byA eNcX1_stepsBetween (p := 20) (v := 42) (by decide +kernel))
theorem dX1_stepsBetween_21 : decode cX1_stepsBetween 21 = .ok (.getfield 21, 3) := dc_180 (byA eNcX1_stepsBetween (p := 21) (v := 180) (by decide +kernel)) (byA eNcX1_stepsBetween (p := 22) (v := 0) (by decide +kernel)) (byA eNcX1_stepsBetween (p := 23) (v := 21) (by decide +kernel)) rfl
theorem dX1_stepsBetween_24 : decode cX1_stepsBetween 24 = .ok (.iload_n 3, 1) := dc_29 (byA eNcX1_stepsBetween (p := 24) (v := 29) (by decide +kernel))
theorem dX1_stepsBetween_25 : decode cX1_stepsBetween 25 = .ok (.iaload, 1) := dc_46 (byA eNcX1_stepsBetween (p := 25) (v := 46) (by decide +kernel))
theorem dX1_stepsBetween_26 : decode cX1_stepsBetween 26 = .ok (.goto 4, 3) := dc_167 (byA eNcX1_stepsBetween (p := 26) (v := 167) (by decide +kernel)) (byA eNcX1_stepsBetween (p := 27) (v := 0) (by decide +kernel)) (byA eNcX1_stepsBetween (p := 28) (v := 4) (by decide +kernel)) (by decide +kernel)
theorem dX1_stepsBetween_29 : decode cX1_stepsBetween 29 = .ok (.iconst (-1), 1) := dc_2 (byA eNcX1_stepsBetween (p := 29) (v := 2) (by decide +kernel))
theorem dX1_stepsBetween_30 : decode cX1_stepsBetween 30 = .ok (.ireturn, 1) := dc_172 (byA eNcX1_stepsBetween (p := 30) (v := 172) (by decide +kernel))
def X1_stepsBetween (l0 : Nat) (l1 : Int) (l2 : Int) (μ : Mm) : Rs := lt_ (iA (iM l1 8) l2) fun v1 => if v1 < 0 then (some ((-1), μ)) else (if ((aN (l0 + 4) : Nat) : Int) ≤ v1 then (some ((-1), μ)) else (ldA μ (l0 + 4) v1 fun v4 => some (v4, μ)))
set_option maxHeartbeats 4000000 in
set_option maxRecDepth 100000 in
theorem kX1_stepsBetween (d : Nat) (hd : 1 ≤ d) {l0 : Nat} {l1 : Int} {l2 : Int} (hk0 : kD l0 = (11, 7)) {μ : Mm} {r : Int} {μ' : Mm} (h : X1_stepsBetween l0 l1 l2 μ = some (r, μ')) : CC d mX1_stepsBetween [vR l0, vI l1, vI l2] μ r μ' := by
  unfold X1_stepsBetween at h
  refine V_enter (by decide) (Nat.le_of_ble_eq_true rfl) ?_
  show VV d mX1_stepsBetween 0 [some (vR l0), some (vI l1), some (vI l2), none] [] μ r μ'
  refine V_iload_n (q := 1) dX1_stepsBetween_0 rfl rfl rfl ?_
  refine V_bipush (q := 3) dX1_stepsBetween_1 rfl rfl rfl ?_
  refine V_imul (q := 4) dX1_stepsBetween_3 rfl ?_
  refine V_iload_n (q := 5) dX1_stepsBetween_4 rfl rfl rfl ?_
  refine V_iadd (q := 6) dX1_stepsBetween_5 rfl ?_
  have h := lt_i h
  refine V_istore_n (q := 7) dX1_stepsBetween_6 rfl (Nat.le_of_ble_eq_true rfl) trivial rfl ?_
  refine V_iload_n (q := 8) dX1_stepsBetween_7 rfl rfl rfl ?_
  refine V_iflt (q := 29) (q2 := 11) dX1_stepsBetween_8 (by decide) rfl (fun hc2 => ?_) (fun hc2 => ?_)
  · have h := ifT hc2 h
    refine V_iconst (q := 30) dX1_stepsBetween_29 rfl rfl ?_
    exact V_iret rfl h dX1_stepsBetween_30
  · have h := ifF hc2 h
    refine V_iload_n (q := 12) dX1_stepsBetween_11 rfl rfl rfl ?_
    refine V_aload_n (q := 13) dX1_stepsBetween_12 rfl rfl rfl ?_
    refine V_getO (q := 16) (t := _) fl_X1_21 hk0 rfl rfl rfl dX1_stepsBetween_13 rfl ?_
    refine V_alen (q := 17) (kdo_1_4 hk0) dX1_stepsBetween_16 rfl ?_
    refine V_icmpge (q := 29) (q2 := 20) dX1_stepsBetween_17 (by decide) rfl (fun hc3 => ?_) (fun hc3 => ?_)
    · have h := ifT hc3 h
      refine V_iconst (q := 30) dX1_stepsBetween_29 rfl rfl ?_
      exact V_iret rfl h dX1_stepsBetween_30
    · have h := ifF hc3 h
      refine V_aload_n (q := 21) dX1_stepsBetween_20 rfl rfl rfl ?_
      refine V_getO (q := 24) (t := _) fl_X1_21 hk0 rfl rfl rfl dX1_stepsBetween_21 rfl ?_
      refine V_iload_n (q := 25) dX1_stepsBetween_24 rfl rfl rfl ?_
      obtain ⟨hi5, h⟩ := ldA_i h
      refine V_iaload (q := 26) (kdo_1_4 hk0) hi5 dX1_stepsBetween_25 rfl ?_
      refine V_goto (q := 30) dX1_stepsBetween_26 (by decide) ?_
      exact V_iret rfl h dX1_stepsBetween_30
abbrev mX1_canBe : Mth := (yX1_canBe, cX1_canBe, 2, some .boolean)
set_option maxRecDepth 100000 in
theorem mi_X1_canBe : Cond.instanceMethod yX1_canBe ∈ tG ∧ Cond.selects yX1_canBe.cls yX1_canBe yX1_canBe ∈ tG ∧ Cond.initialized yX1_canBe.cls ∈ tG ∧ Cond.code yX1_canBe cX1_canBe 2 (some .boolean) ∈ tG ∧ (yX1_canBe.cls ≠ "java/lang/invoke/MethodHandle" ∧ yX1_canBe.cls ≠ "java/lang/invoke/VarHandle" ∧ (parseMethodDescriptor yX1_canBe.desc).map (fun d => d.parameters.length) = some 0) ∧ 2 ≤ 60 := ⟨(tG_of (tb4 (List.mem_of_getElem? (i := 72) rfl)) (by decide +kernel)), (tG_of (tb4 (List.mem_of_getElem? (i := 73) rfl)) (by decide +kernel)), (tG_of (tb1 (List.mem_of_getElem? (i := 8) rfl)) (by decide +kernel)), (tG_of (tb4 (List.mem_of_getElem? (i := 74) rfl)) (by decide +kernel)), ⟨by decide, by decide, by decide +kernel⟩, by decide⟩
set_option maxRecDepth 100000 in
theorem mv_X6_42 : mV RX6 42 mX1_canBe 0 := ⟨(tG_of (tb4 (List.mem_of_getElem? (i := 71) rfl)) (by decide +kernel)), mi_X1_canBe⟩
set_option maxRecDepth 100000 in
theorem mv_X8_35 : mV RX8 35 mX1_canBe 0 := ⟨(tG_of (tb4 (List.mem_of_getElem? (i := 215) rfl)) (by decide +kernel)), mi_X1_canBe⟩
theorem dX1_canBe_0 : decode cX1_canBe 0 = .ok (.iconst 0, 1) := dc_3 (byA eNcX1_canBe (p := 0) (v := 3) (by decide +kernel))
theorem dX1_canBe_1 : decode cX1_canBe 1 = .ok (.istore_n 1, 1) := dc_60 (byA eNcX1_canBe (p := 1) (v := 60) (by decide +kernel))
theorem dX1_canBe_2 : decode cX1_canBe 2 = .ok (.iload_n 1, 1) := dc_27 (byA eNcX1_canBe (p := 2) (v := 27) (by decide +kernel))
theorem dX1_canBe_3 : decode cX1_canBe 3 = .ok (.aload_n 0, 1) := dc_42 (byA eNcX1_canBe (p := 3) (v := 42) (by decide +kernel))
theorem dX1_canBe_4 : decode cX1_canBe 4 = .ok (.getfield 34, 3) := dc_180 (byA eNcX1_canBe (p := 4) (v := 180) (by decide +kernel)) (byA eNcX1_canBe (p := 5) (v := 0) (by decide +kernel)) (byA eNcX1_canBe (p := 6) (v := 34) (by decide +kernel)) rfl
theorem dX1_canBe_7 : decode cX1_canBe 7 = .ok (.if_icmp .ge 22, 3) := dc_162 (byA eNcX1_canBe (p := 7) (v := 162) (by decide +kernel)) (byA eNcX1_canBe (p := 8) (v := 0) (by decide +kernel)) (byA eNcX1_canBe (p := 9) (v := 22) (by decide +kernel)) (by decide +kernel)
theorem dX1_canBe_10 : decode cX1_canBe 10 = .ok (.aload_n 0, 1) := dc_42 (byA eNcX1_canBe (p := 10) (v := 42) (by decide +kernel))
theorem dX1_canBe_11 : decode cX1_canBe 11 = .ok (.bipush 8, 2) := dc_16 (byA eNcX1_canBe (p := 11) (v := 16) (by decide +kernel)) (byA eNcX1_canBe (p := 12) (v := 8) (by decide +kernel)) (by decide +kernel)
theorem dX1_canBe_13 : decode cX1_canBe 13 = .ok (.iload_n 1, 1) := dc_27 (byA eNcX1_canBe (p := 13) (v := 27) (by decide +kernel))
theorem dX1_canBe_14 : decode cX1_canBe 14 = .ok (.invokevirtual 72, 3) := dc_182 (byA eNcX1_canBe (p := 14) (v := 182) (by decide +kernel)) (byA eNcX1_canBe (p := 15) (v := 0) (by decide +kernel)) (byA eNcX1_canBe (p := 16) (v := 72) (by decide +kernel)) rfl
theorem dX1_canBe_17 : decode cX1_canBe 17 = .ok (.iconst (-1), 1) := dc_2 (byA eNcX1_canBe (p := 17) (v := 2) (by decide +kernel))
theorem dX1_canBe_18 : decode cX1_canBe 18 = .ok (.if_icmp .ne 5, 3) := dc_160 (byA eNcX1_canBe (p := 18) (v := 160) (by decide +kernel)) (byA eNcX1_canBe (p := 19) (v := 0) (by decide +kernel)) (byA eNcX1_canBe (p := 20) (v := 5) (by decide +kernel)) (by decide +kernel)
theorem dX1_canBe_21 : decode cX1_canBe 21 = .ok (.iconst 0, 1) := dc_3 (byA eNcX1_canBe (p := 21) (v := 3) (by decide +kernel))
theorem dX1_canBe_22 : decode cX1_canBe 22 = .ok (.ireturn, 1) := dc_172 (byA eNcX1_canBe (p := 22) (v := 172) (by decide +kernel))
theorem dX1_canBe_23 : decode cX1_canBe 23 = .ok (.iinc 1 1, 3) := dc_132 (byA eNcX1_canBe (p := 23) (v := 132) (by decide +kernel)) (byA eNcX1_canBe (p := 24) (v := 1) (by decide +kernel)) (byA eNcX1_canBe (p := 25) (v := 1) (by decide +kernel)) (by decide +kernel)
theorem dX1_canBe_26 : decode cX1_canBe 26 = .ok (.goto (-24), 3) := dc_167 (byA eNcX1_canBe (p := 26) (v := 167) (by decide +kernel)) (byA eNcX1_canBe (p := 27) (v := 255) (by decide +kernel)) (byA eNcX1_canBe (p := 28) (v := 232) (by decide +kernel)) (by decide +kernel)
theorem dX1_canBe_29 : decode cX1_canBe 29 = .ok (.iconst 1, 1) := dc_4 (byA eNcX1_canBe (p := 29) (v := 4) (by decide +kernel))
theorem dX1_canBe_30 : decode cX1_canBe 30 = .ok (.ireturn, 1) := dc_172 (byA eNcX1_canBe (p := 30) (v := 172) (by decide +kernel))
def X1_canBe_L2 (l0 : Nat) : Nat → Int → Mm → Rs
  | 0, _, _ => none
  | n + 1, l1, μ => if (μ l0 5) ≤ l1 then (some (1, μ)) else (bd (X1_stepsBetween l0 8 l1 μ) fun v2 μ3 => if v2 = (-1) then (some (0, μ3)) else (X1_canBe_L2 l0 n (iA l1 1) μ3))
def X1_canBe (l0 : Nat) (μ : Mm) : Rs := X1_canBe_L2 l0 FU 0 μ
set_option maxHeartbeats 4000000 in
set_option maxRecDepth 100000 in
theorem kX1_canBe_L2 (d : Nat) (hd : 2 ≤ d) {l0 : Nat} (hk0 : kD l0 = (11, 7)) {r : Int} {μ' : Mm} : ∀ (n : Nat) {l1 : Int} {μ : Mm}, X1_canBe_L2 l0 n l1 μ = some (r, μ') → VV d mX1_canBe 2 [some (vR l0), some (vI l1)] [] μ r μ' := by
  intro n
  induction n with
  | zero => intro l1 μ h; rw [X1_canBe_L2] at h; cases h
  | succ n ih =>
    intro l1 μ h
    rw [X1_canBe_L2] at h
    refine V_iload_n (q := 3) dX1_canBe_2 rfl rfl rfl ?_
    refine V_aload_n (q := 4) dX1_canBe_3 rfl rfl rfl ?_
    refine V_getI (q := 7) fl_X1_34 hk0 rfl rfl dX1_canBe_4 rfl ?_
    refine V_icmpge (q := 29) (q2 := 10) dX1_canBe_7 (by decide) rfl (fun hc1 => ?_) (fun hc1 => ?_)
    · have h := ifT hc1 h
      refine V_iconst (q := 30) dX1_canBe_29 rfl rfl ?_
      exact V_zret rfl (Or.inr rfl) h dX1_canBe_30
    · have h := ifF hc1 h
      refine V_aload_n (q := 11) dX1_canBe_10 rfl rfl rfl ?_
      refine V_bipush (q := 13) dX1_canBe_11 rfl rfl rfl ?_
      refine V_iload_n (q := 14) dX1_canBe_13 rfl rfl rfl ?_
      obtain ⟨v2, μ3, hc4, h⟩ := bd_i h
      refine V_cV1 (q := 17) (v := vI v2) (kX1_stepsBetween (d - 1) (by omega) hk0 hc4) (by omega) mv_X1_72 hk0 rfl rfl rfl rfl rfl dX1_canBe_14 rfl ?_
      refine V_iconst (q := 18) dX1_canBe_17 rfl rfl ?_
      refine V_icmpne (q := 23) (q2 := 21) dX1_canBe_18 (by decide) rfl (fun hc5 => ?_) (fun hc5 => ?_)
      · have h := ifF hc5 h
        refine V_iinc (q := 26) dX1_canBe_23 rfl (Nat.le_of_ble_eq_true rfl) trivial rfl ?_
        refine V_goto (q := 2) dX1_canBe_26 (by decide) ?_
        exact V_weak (ih h) (sb_s rfl (sb_s rfl sb_0))
      · have h := ifT hc5 h
        refine V_iconst (q := 22) dX1_canBe_21 rfl rfl ?_
        exact V_zret rfl (Or.inl rfl) h dX1_canBe_22
set_option maxHeartbeats 4000000 in
set_option maxRecDepth 100000 in
theorem kX1_canBe (d : Nat) (hd : 2 ≤ d) {l0 : Nat} (hk0 : kD l0 = (11, 7)) {μ : Mm} {r : Int} {μ' : Mm} (h : X1_canBe l0 μ = some (r, μ')) : CC d mX1_canBe [vR l0] μ r μ' := by
  unfold X1_canBe at h
  refine V_enter (by decide) (Nat.le_of_ble_eq_true rfl) ?_
  show VV d mX1_canBe 0 [some (vR l0), none] [] μ r μ'
  refine V_iconst (q := 1) dX1_canBe_0 rfl rfl ?_
  refine V_istore_n (q := 2) dX1_canBe_1 rfl (Nat.le_of_ble_eq_true rfl) trivial rfl ?_
  exact V_weak (kX1_canBe_L2 d hd hk0  FU h) (sb_s rfl (sb_s rfl sb_0))
abbrev mX1_comes : Mth := (yX1_comes, cX1_comes, 5, some .int)
set_option maxRecDepth 100000 in
theorem mi_X1_comes : Cond.instanceMethod yX1_comes ∈ tG ∧ Cond.selects yX1_comes.cls yX1_comes yX1_comes ∈ tG ∧ Cond.initialized yX1_comes.cls ∈ tG ∧ Cond.code yX1_comes cX1_comes 5 (some .int) ∈ tG ∧ (yX1_comes.cls ≠ "java/lang/invoke/MethodHandle" ∧ yX1_comes.cls ≠ "java/lang/invoke/VarHandle" ∧ (parseMethodDescriptor yX1_comes.desc).map (fun d => d.parameters.length) = some 3) ∧ 5 ≤ 60 := ⟨(tG_of (tb4 (List.mem_of_getElem? (i := 16) rfl)) (by decide +kernel)), (tG_of (tb4 (List.mem_of_getElem? (i := 17) rfl)) (by decide +kernel)), (tG_of (tb1 (List.mem_of_getElem? (i := 8) rfl)) (by decide +kernel)), (tG_of (tb4 (List.mem_of_getElem? (i := 18) rfl)) (by decide +kernel)), ⟨by decide, by decide, by decide +kernel⟩, by decide⟩
set_option maxRecDepth 100000 in
theorem mv_X5_45 : mV RX5 45 mX1_comes 3 := ⟨(tG_of (tb4 (List.mem_of_getElem? (i := 15) rfl)) (by decide +kernel)), mi_X1_comes⟩
set_option maxRecDepth 100000 in
theorem mv_X6_62 : mV RX6 62 mX1_comes 3 := ⟨(tG_of (tb4 (List.mem_of_getElem? (i := 87) rfl)) (by decide +kernel)), mi_X1_comes⟩
set_option maxRecDepth 100000 in
theorem mv_X8_50 : mV RX8 50 mX1_comes 3 := ⟨(tG_of (tb4 (List.mem_of_getElem? (i := 224) rfl)) (by decide +kernel)), mi_X1_comes⟩
theorem dX1_comes_0 : decode cX1_comes 0 = .ok (.aload_n 0, 1) := dc_42 (byA eNcX1_comes (p := 0) (v := 42) (by decide +kernel))
theorem dX1_comes_1 : decode cX1_comes 1 = .ok (.iload_n 2, 1) := dc_28 (byA eNcX1_comes (p := 1) (v := 28) (by decide +kernel))
theorem dX1_comes_2 : decode cX1_comes 2 = .ok (.iload_n 3, 1) := dc_29 (byA eNcX1_comes (p := 2) (v := 29) (by decide +kernel))
theorem dX1_comes_3 : decode cX1_comes 3 = .ok (.invokevirtual 72, 3) := dc_182 (byA eNcX1_comes (p := 3) (v := 182) (by decide +kernel)) (byA eNcX1_comes (p := 4) (v := 0) (by decide +kernel)) (byA eNcX1_comes (p := 5) (v := 72) (by decide +kernel)) rfl
theorem dX1_comes_6 : decode cX1_comes 6 = .ok (.istore 4, 2) := dc_54 (byA eNcX1_comes (p := 6) (v := 54) (by decide +kernel)) (byA eNcX1_comes (p := 7) (v := 4) (by decide +kernel))
theorem dX1_comes_8 : decode cX1_comes 8 = .ok (.iload 4, 2) := dc_21 (byA eNcX1_comes (p := 8) (v := 21) (by decide +kernel)) (byA eNcX1_comes (p := 9) (v := 4) (by decide +kernel))
theorem dX1_comes_10 : decode cX1_comes 10 = .ok (.iconst (-1), 1) := dc_2 (byA eNcX1_comes (p := 10) (v := 2) (by decide +kernel))
theorem dX1_comes_11 : decode cX1_comes 11 = .ok (.if_icmp .ne 7, 3) := dc_160 (byA eNcX1_comes (p := 11) (v := 160) (by decide +kernel)) (byA eNcX1_comes (p := 12) (v := 0) (by decide +kernel)) (byA eNcX1_comes (p := 13) (v := 7) (by decide +kernel)) (by decide +kernel)
theorem dX1_comes_14 : decode cX1_comes 14 = .ok (.iconst (-1), 1) := dc_2 (byA eNcX1_comes (p := 14) (v := 2) (by decide +kernel))
theorem dX1_comes_15 : decode cX1_comes 15 = .ok (.goto 12, 3) := dc_167 (byA eNcX1_comes (p := 15) (v := 167) (by decide +kernel)) (byA eNcX1_comes (p := 16) (v := 0) (by decide +kernel)) (byA eNcX1_comes (p := 17) (v := 12) (by decide +kernel)) (by decide +kernel)
theorem dX1_comes_18 : decode cX1_comes 18 = .ok (.iload_n 1, 1) := dc_27 (byA eNcX1_comes (p := 18) (v := 27) (by decide +kernel))
theorem dX1_comes_19 : decode cX1_comes 19 = .ok (.iload 4, 2) := dc_21 (byA eNcX1_comes (p := 19) (v := 21) (by decide +kernel)) (byA eNcX1_comes (p := 20) (v := 4) (by decide +kernel))
theorem dX1_comes_21 : decode cX1_comes 21 = .ok (.aload_n 0, 1) := dc_42 (byA eNcX1_comes (p := 21) (v := 42) (by decide +kernel))
theorem dX1_comes_22 : decode cX1_comes 22 = .ok (.getfield 47, 3) := dc_180 (byA eNcX1_comes (p := 22) (v := 180) (by decide +kernel)) (byA eNcX1_comes (p := 23) (v := 0) (by decide +kernel)) (byA eNcX1_comes (p := 24) (v := 47) (by decide +kernel)) rfl
theorem dX1_comes_25 : decode cX1_comes 25 = .ok (.imul, 1) := dc_104 (byA eNcX1_comes (p := 25) (v := 104) (by decide +kernel))
theorem dX1_comes_26 : decode cX1_comes 26 = .ok (.iadd, 1) := dc_96 (byA eNcX1_comes (p := 26) (v := 96) (by decide +kernel))
theorem dX1_comes_27 : decode cX1_comes 27 = .ok (.ireturn, 1) := dc_172 (byA eNcX1_comes (p := 27) (v := 172) (by decide +kernel))
def X1_comes (l0 : Nat) (l1 : Int) (l2 : Int) (l3 : Int) (μ : Mm) : Rs := bd (X1_stepsBetween l0 l2 l3 μ) fun v1 μ2 => if v1 = (-1) then (some ((-1), μ2)) else (some (iA l1 (iM v1 (μ2 l0 6)), μ2))
set_option maxHeartbeats 4000000 in
set_option maxRecDepth 100000 in
theorem kX1_comes (d : Nat) (hd : 2 ≤ d) {l0 : Nat} {l1 : Int} {l2 : Int} {l3 : Int} (hk0 : kD l0 = (11, 7)) {μ : Mm} {r : Int} {μ' : Mm} (h : X1_comes l0 l1 l2 l3 μ = some (r, μ')) : CC d mX1_comes [vR l0, vI l1, vI l2, vI l3] μ r μ' := by
  unfold X1_comes at h
  refine V_enter (by decide) (Nat.le_of_ble_eq_true rfl) ?_
  show VV d mX1_comes 0 [some (vR l0), some (vI l1), some (vI l2), some (vI l3), none] [] μ r μ'
  refine V_aload_n (q := 1) dX1_comes_0 rfl rfl rfl ?_
  refine V_iload_n (q := 2) dX1_comes_1 rfl rfl rfl ?_
  refine V_iload_n (q := 3) dX1_comes_2 rfl rfl rfl ?_
  obtain ⟨v1, μ2, hc3, h⟩ := bd_i h
  refine V_cV1 (q := 6) (v := vI v1) (kX1_stepsBetween (d - 1) (by omega) hk0 hc3) (by omega) mv_X1_72 hk0 rfl rfl rfl rfl rfl dX1_comes_3 rfl ?_
  refine V_istore (q := 8) dX1_comes_6 (Nat.le_of_ble_eq_true rfl) trivial rfl ?_
  refine V_iload (q := 10) dX1_comes_8 rfl rfl ?_
  refine V_iconst (q := 11) dX1_comes_10 rfl rfl ?_
  refine V_icmpne (q := 18) (q2 := 14) dX1_comes_11 (by decide) rfl (fun hc4 => ?_) (fun hc4 => ?_)
  · have h := ifF hc4 h
    refine V_iload_n (q := 19) dX1_comes_18 rfl rfl rfl ?_
    refine V_iload (q := 21) dX1_comes_19 rfl rfl ?_
    refine V_aload_n (q := 22) dX1_comes_21 rfl rfl rfl ?_
    refine V_getI (q := 25) fl_X1_47 hk0 rfl rfl dX1_comes_22 rfl ?_
    refine V_imul (q := 26) dX1_comes_25 rfl ?_
    refine V_iadd (q := 27) dX1_comes_26 rfl ?_
    exact V_iret rfl h dX1_comes_27
  · have h := ifT hc4 h
    refine V_iconst (q := 15) dX1_comes_14 rfl rfl ?_
    refine V_goto (q := 27) dX1_comes_15 (by decide) ?_
    exact V_iret rfl h dX1_comes_27
abbrev mX1_wound : Mth := (yX1_wound, cX1_wound, 3, some .int)
set_option maxRecDepth 100000 in
theorem mi_X1_wound : Cond.instanceMethod yX1_wound ∈ tG ∧ Cond.selects yX1_wound.cls yX1_wound yX1_wound ∈ tG ∧ Cond.initialized yX1_wound.cls ∈ tG ∧ Cond.code yX1_wound cX1_wound 3 (some .int) ∈ tG ∧ (yX1_wound.cls ≠ "java/lang/invoke/MethodHandle" ∧ yX1_wound.cls ≠ "java/lang/invoke/VarHandle" ∧ (parseMethodDescriptor yX1_wound.desc).map (fun d => d.parameters.length) = some 2) ∧ 3 ≤ 60 := ⟨(tG_of (tb4 (List.mem_of_getElem? (i := 29) rfl)) (by decide +kernel)), (tG_of (tb4 (List.mem_of_getElem? (i := 30) rfl)) (by decide +kernel)), (tG_of (tb1 (List.mem_of_getElem? (i := 8) rfl)) (by decide +kernel)), (tG_of (tb4 (List.mem_of_getElem? (i := 31) rfl)) (by decide +kernel)), ⟨by decide, by decide, by decide +kernel⟩, by decide⟩
set_option maxRecDepth 100000 in
theorem mv_X1_76 : mV RX1 76 mX1_wound 2 := ⟨(tG_of (tb4 (List.mem_of_getElem? (i := 28) rfl)) (by decide +kernel)), mi_X1_wound⟩
set_option maxRecDepth 100000 in
theorem mv_X5_54 : mV RX5 54 mX1_wound 2 := ⟨(tG_of (tb4 (List.mem_of_getElem? (i := 33) rfl)) (by decide +kernel)), mi_X1_wound⟩
theorem dX1_wound_0 : decode cX1_wound 0 = .ok (.iload_n 1, 1) := dc_27 (byA eNcX1_wound (p := 0) (v := 27) (by decide +kernel))
theorem dX1_wound_1 : decode cX1_wound 1 = .ok (.aload_n 0, 1) := dc_42 (byA eNcX1_wound (p := 1) (v := 42) (by decide +kernel))
theorem dX1_wound_2 : decode cX1_wound 2 = .ok (.getfield 18, 3) := dc_180 (byA eNcX1_wound (p := 2) (v := 180) (by decide +kernel)) (byA eNcX1_wound (p := 3) (v := 0) (by decide +kernel)) (byA eNcX1_wound (p := 4) (v := 18) (by decide +kernel)) rfl
theorem dX1_wound_5 : decode cX1_wound 5 = .ok (.iload_n 2, 1) := dc_28 (byA eNcX1_wound (p := 5) (v := 28) (by decide +kernel))
theorem dX1_wound_6 : decode cX1_wound 6 = .ok (.iaload, 1) := dc_46 (byA eNcX1_wound (p := 6) (v := 46) (by decide +kernel))
theorem dX1_wound_7 : decode cX1_wound 7 = .ok (.iadd, 1) := dc_96 (byA eNcX1_wound (p := 7) (v := 96) (by decide +kernel))
theorem dX1_wound_8 : decode cX1_wound 8 = .ok (.ireturn, 1) := dc_172 (byA eNcX1_wound (p := 8) (v := 172) (by decide +kernel))
def X1_wound (l0 : Nat) (l1 : Int) (l2 : Int) (μ : Mm) : Rs := ldA μ (l0 + 3) l2 fun v1 => some (iA l1 v1, μ)
set_option maxHeartbeats 4000000 in
set_option maxRecDepth 100000 in
theorem kX1_wound (d : Nat) (hd : 1 ≤ d) {l0 : Nat} {l1 : Int} {l2 : Int} (hk0 : kD l0 = (11, 7)) {μ : Mm} {r : Int} {μ' : Mm} (h : X1_wound l0 l1 l2 μ = some (r, μ')) : CC d mX1_wound [vR l0, vI l1, vI l2] μ r μ' := by
  unfold X1_wound at h
  refine V_enter (by decide) (Nat.le_of_ble_eq_true rfl) ?_
  show VV d mX1_wound 0 [some (vR l0), some (vI l1), some (vI l2)] [] μ r μ'
  refine V_iload_n (q := 1) dX1_wound_0 rfl rfl rfl ?_
  refine V_aload_n (q := 2) dX1_wound_1 rfl rfl rfl ?_
  refine V_getO (q := 5) (t := _) fl_X1_18 hk0 rfl rfl rfl dX1_wound_2 rfl ?_
  refine V_iload_n (q := 6) dX1_wound_5 rfl rfl rfl ?_
  obtain ⟨hi2, h⟩ := ldA_i h
  refine V_iaload (q := 7) (kdo_1_3 hk0) hi2 dX1_wound_6 rfl ?_
  refine V_iadd (q := 8) dX1_wound_7 rfl ?_
  exact V_iret rfl h dX1_wound_8
abbrev mX1_dones : Mth := (yX1_dones, cX1_dones, 3, some .int)
set_option maxRecDepth 100000 in
theorem mi_X1_dones : Cond.instanceMethod yX1_dones ∈ tG ∧ Cond.selects yX1_dones.cls yX1_dones yX1_dones ∈ tG ∧ Cond.initialized yX1_dones.cls ∈ tG ∧ Cond.code yX1_dones cX1_dones 3 (some .int) ∈ tG ∧ (yX1_dones.cls ≠ "java/lang/invoke/MethodHandle" ∧ yX1_dones.cls ≠ "java/lang/invoke/VarHandle" ∧ (parseMethodDescriptor yX1_dones.desc).map (fun d => d.parameters.length) = some 2) ∧ 3 ≤ 60 := ⟨(tG_of (tb4 (List.mem_of_getElem? (i := 25) rfl)) (by decide +kernel)), (tG_of (tb4 (List.mem_of_getElem? (i := 26) rfl)) (by decide +kernel)), (tG_of (tb1 (List.mem_of_getElem? (i := 8) rfl)) (by decide +kernel)), (tG_of (tb4 (List.mem_of_getElem? (i := 27) rfl)) (by decide +kernel)), ⟨by decide, by decide, by decide +kernel⟩, by decide⟩
set_option maxRecDepth 100000 in
theorem mv_X5_52 : mV RX5 52 mX1_dones 2 := ⟨(tG_of (tb4 (List.mem_of_getElem? (i := 24) rfl)) (by decide +kernel)), mi_X1_dones⟩
set_option maxRecDepth 100000 in
theorem mv_X6_69 : mV RX6 69 mX1_dones 2 := ⟨(tG_of (tb4 (List.mem_of_getElem? (i := 92) rfl)) (by decide +kernel)), mi_X1_dones⟩
set_option maxRecDepth 100000 in
theorem mv_X8_57 : mV RX8 57 mX1_dones 2 := ⟨(tG_of (tb4 (List.mem_of_getElem? (i := 229) rfl)) (by decide +kernel)), mi_X1_dones⟩
theorem dX1_dones_0 : decode cX1_dones 0 = .ok (.aload_n 0, 1) := dc_42 (byA eNcX1_dones (p := 0) (v := 42) (by decide +kernel))
theorem dX1_dones_1 : decode cX1_dones 1 = .ok (.iload_n 1, 1) := dc_27 (byA eNcX1_dones (p := 1) (v := 27) (by decide +kernel))
theorem dX1_dones_2 : decode cX1_dones 2 = .ok (.iload_n 2, 1) := dc_28 (byA eNcX1_dones (p := 2) (v := 28) (by decide +kernel))
theorem dX1_dones_3 : decode cX1_dones 3 = .ok (.invokevirtual 76, 3) := dc_182 (byA eNcX1_dones (p := 3) (v := 182) (by decide +kernel)) (byA eNcX1_dones (p := 4) (v := 0) (by decide +kernel)) (byA eNcX1_dones (p := 5) (v := 76) (by decide +kernel)) rfl
theorem dX1_dones_6 : decode cX1_dones 6 = .ok (.aload_n 0, 1) := dc_42 (byA eNcX1_dones (p := 6) (v := 42) (by decide +kernel))
theorem dX1_dones_7 : decode cX1_dones 7 = .ok (.getfield 15, 3) := dc_180 (byA eNcX1_dones (p := 7) (v := 180) (by decide +kernel)) (byA eNcX1_dones (p := 8) (v := 0) (by decide +kernel)) (byA eNcX1_dones (p := 9) (v := 15) (by decide +kernel)) rfl
theorem dX1_dones_10 : decode cX1_dones 10 = .ok (.iload_n 2, 1) := dc_28 (byA eNcX1_dones (p := 10) (v := 28) (by decide +kernel))
theorem dX1_dones_11 : decode cX1_dones 11 = .ok (.iaload, 1) := dc_46 (byA eNcX1_dones (p := 11) (v := 46) (by decide +kernel))
theorem dX1_dones_12 : decode cX1_dones 12 = .ok (.invokestatic 79, 3) := dc_184 (byA eNcX1_dones (p := 12) (v := 184) (by decide +kernel)) (byA eNcX1_dones (p := 13) (v := 0) (by decide +kernel)) (byA eNcX1_dones (p := 14) (v := 79) (by decide +kernel)) rfl
theorem dX1_dones_15 : decode cX1_dones 15 = .ok (.ireturn, 1) := dc_172 (byA eNcX1_dones (p := 15) (v := 172) (by decide +kernel))
def X1_dones (l0 : Nat) (l1 : Int) (l2 : Int) (μ : Mm) : Rs := bd (X1_wound l0 l1 l2 μ) fun v1 μ2 => ldA μ2 (l0 + 2) l2 fun v4 => some (mX v1 v4, μ2)
set_option maxHeartbeats 4000000 in
set_option maxRecDepth 100000 in
theorem kX1_dones (d : Nat) (hd : 2 ≤ d) {l0 : Nat} {l1 : Int} {l2 : Int} (hk0 : kD l0 = (11, 7)) {μ : Mm} {r : Int} {μ' : Mm} (h : X1_dones l0 l1 l2 μ = some (r, μ')) : CC d mX1_dones [vR l0, vI l1, vI l2] μ r μ' := by
  unfold X1_dones at h
  refine V_enter (by decide) (Nat.le_of_ble_eq_true rfl) ?_
  show VV d mX1_dones 0 [some (vR l0), some (vI l1), some (vI l2)] [] μ r μ'
  refine V_aload_n (q := 1) dX1_dones_0 rfl rfl rfl ?_
  refine V_iload_n (q := 2) dX1_dones_1 rfl rfl rfl ?_
  refine V_iload_n (q := 3) dX1_dones_2 rfl rfl rfl ?_
  obtain ⟨v1, μ2, hc3, h⟩ := bd_i h
  refine V_cV1 (q := 6) (v := vI v1) (kX1_wound (d - 1) (by omega) hk0 hc3) (by omega) mv_X1_76 hk0 rfl rfl rfl rfl rfl dX1_dones_3 rfl ?_
  refine V_aload_n (q := 7) dX1_dones_6 rfl rfl rfl ?_
  refine V_getO (q := 10) (t := _) fl_X1_15 hk0 rfl rfl rfl dX1_dones_7 rfl ?_
  refine V_iload_n (q := 11) dX1_dones_10 rfl rfl rfl ?_
  obtain ⟨hi5, h⟩ := ldA_i h
  refine V_iaload (q := 12) (kdo_1_2 hk0) hi5 dX1_dones_11 rfl ?_
  refine V_mmax (q := 15) mx_X1_79 (by omega) rfl dX1_dones_12 rfl ?_
  exact V_iret rfl h dX1_dones_15
