abbrev mX11_leastOf : Mth := (yX11_leastOf, cX11_leastOf, 3, some .int)
set_option maxRecDepth 100000 in
theorem mi_X11_leastOf : Cond.instanceMethod yX11_leastOf ∈ tG ∧ Cond.selects yX11_leastOf.cls yX11_leastOf yX11_leastOf ∈ tG ∧ Cond.initialized yX11_leastOf.cls ∈ tG ∧ Cond.code yX11_leastOf cX11_leastOf 3 (some .int) ∈ tG ∧ (yX11_leastOf.cls ≠ "java/lang/invoke/MethodHandle" ∧ yX11_leastOf.cls ≠ "java/lang/invoke/VarHandle" ∧ (parseMethodDescriptor yX11_leastOf.desc).map (fun d => d.parameters.length) = some 2) ∧ 3 ≤ 60 := ⟨(tG_of (tb7 (List.mem_of_getElem? (i := 66) rfl)) (by decide +kernel)), (tG_of (List.mem_of_getElem? (i := 90) (by decide +kernel)) (by decide +kernel)), (tG_of (tb1 (List.mem_of_getElem? (i := 12) rfl)) (by decide +kernel)), (tG_of (tb7 (List.mem_of_getElem? (i := 67) rfl)) (by decide +kernel)), ⟨by decide, by decide, by decide +kernel⟩, by decide⟩
set_option maxRecDepth 100000 in
theorem mv_X11_360 : mV RX11 360 mX11_leastOf 2 := ⟨(tG_of (tb7 (List.mem_of_getElem? (i := 64) rfl)) (by decide +kernel)), mi_X11_leastOf⟩
theorem dX11_leastOf_0 : decode cX11_leastOf 0 = .ok (.aload_n 0, 1) := dc_42 (byA eNcX11_leastOf (p := 0) (v := 42) (by decide +kernel))
theorem dX11_leastOf_1 : decode cX11_leastOf 1 = .ok (.iconst (-1), 1) := dc_2 (byA eNcX11_leastOf (p := 1) (v := 2) (by decide +kernel))
theorem dX11_leastOf_2 : decode cX11_leastOf 2 = .ok (.putfield 347, 3) := dc_181 (byA eNcX11_leastOf (p := 2) (v := 181) (by decide +kernel)) (byA eNcX11_leastOf (p := 3) (v := 1) (by decide +kernel)) (byA eNcX11_leastOf (p := 4) (v := 91) (by decide +kernel)) rfl
theorem dX11_leastOf_5 : decode cX11_leastOf 5 = .ok (.aload_n 0, 1) := dc_42 (byA eNcX11_leastOf (p := 5) (v := 42) (by decide +kernel))
theorem dX11_leastOf_6 : decode cX11_leastOf 6 = .ok (.iconst (-1), 1) := dc_2 (byA eNcX11_leastOf (p := 6) (v := 2) (by decide +kernel))
theorem dX11_leastOf_7 : decode cX11_leastOf 7 = .ok (.putfield 350, 3) := dc_181 (byA eNcX11_leastOf (p := 7) (v := 181) (by decide +kernel)) (byA eNcX11_leastOf (p := 8) (v := 1) (by decide +kernel)) (byA eNcX11_leastOf (p := 9) (v := 94) (by decide +kernel)) rfl
theorem dX11_leastOf_10 : decode cX11_leastOf 10 = .ok (.aload_n 0, 1) := dc_42 (byA eNcX11_leastOf (p := 10) (v := 42) (by decide +kernel))
theorem dX11_leastOf_11 : decode cX11_leastOf 11 = .ok (.iload_n 1, 1) := dc_27 (byA eNcX11_leastOf (p := 11) (v := 27) (by decide +kernel))
theorem dX11_leastOf_12 : decode cX11_leastOf 12 = .ok (.iload_n 2, 1) := dc_28 (byA eNcX11_leastOf (p := 12) (v := 28) (by decide +kernel))
theorem dX11_leastOf_13 : decode cX11_leastOf 13 = .ok (.aload_n 0, 1) := dc_42 (byA eNcX11_leastOf (p := 13) (v := 42) (by decide +kernel))
theorem dX11_leastOf_14 : decode cX11_leastOf 14 = .ok (.getfield 316, 3) := dc_180 (byA eNcX11_leastOf (p := 14) (v := 180) (by decide +kernel)) (byA eNcX11_leastOf (p := 15) (v := 1) (by decide +kernel)) (byA eNcX11_leastOf (p := 16) (v := 60) (by decide +kernel)) rfl
theorem dX11_leastOf_17 : decode cX11_leastOf 17 = .ok (.iconst 0, 1) := dc_3 (byA eNcX11_leastOf (p := 17) (v := 3) (by decide +kernel))
theorem dX11_leastOf_18 : decode cX11_leastOf 18 = .ok (.iconst 0, 1) := dc_3 (byA eNcX11_leastOf (p := 18) (v := 3) (by decide +kernel))
theorem dX11_leastOf_19 : decode cX11_leastOf 19 = .ok (.iconst 0, 1) := dc_3 (byA eNcX11_leastOf (p := 19) (v := 3) (by decide +kernel))
theorem dX11_leastOf_20 : decode cX11_leastOf 20 = .ok (.invokevirtual 353, 3) := dc_182 (byA eNcX11_leastOf (p := 20) (v := 182) (by decide +kernel)) (byA eNcX11_leastOf (p := 21) (v := 1) (by decide +kernel)) (byA eNcX11_leastOf (p := 22) (v := 97) (by decide +kernel)) rfl
theorem dX11_leastOf_23 : decode cX11_leastOf 23 = .ok (.aload_n 0, 1) := dc_42 (byA eNcX11_leastOf (p := 23) (v := 42) (by decide +kernel))
theorem dX11_leastOf_24 : decode cX11_leastOf 24 = .ok (.getfield 350, 3) := dc_180 (byA eNcX11_leastOf (p := 24) (v := 180) (by decide +kernel)) (byA eNcX11_leastOf (p := 25) (v := 1) (by decide +kernel)) (byA eNcX11_leastOf (p := 26) (v := 94) (by decide +kernel)) rfl
theorem dX11_leastOf_27 : decode cX11_leastOf 27 = .ok (.ireturn, 1) := dc_172 (byA eNcX11_leastOf (p := 27) (v := 172) (by decide +kernel))
def X11_leastOf (l1 : Int) (l2 : Int) (μ : Mm) : Rs := sF μ 70 41 (-1) fun μ1 => sF μ1 70 42 (-1) fun μ2 => bd (X11_search RD l1 l2 (μ2 70 37) 0 0 0 μ2) fun v3 μ4 => some (μ4 70 42, μ4)
set_option maxHeartbeats 4000000 in
set_option maxRecDepth 100000 in
theorem kX11_leastOf (d : Nat) (hd : 133 ≤ d) {l1 : Int} {l2 : Int} {μ : Mm} {r : Int} {μ' : Mm} (h : X11_leastOf l1 l2 μ = some (r, μ')) : CC d mX11_leastOf [vR 70, vI l1, vI l2] μ r μ' := by
  unfold X11_leastOf at h
  refine V_enter (by decide) (Nat.le_of_ble_eq_true rfl) ?_
  show VV d mX11_leastOf 0 [some (vR 70), some (vI l1), some (vI l2)] [] μ r μ'
  refine V_aload_n (q := 1) dX11_leastOf_0 rfl rfl rfl ?_
  refine V_iconst (q := 2) dX11_leastOf_1 rfl rfl ?_
  have h := sF_i h
  refine V_putI (q := 5) fl_X11_347 rfl rfl rfl dX11_leastOf_2 rfl ?_
  refine V_aload_n (q := 6) dX11_leastOf_5 rfl rfl rfl ?_
  refine V_iconst (q := 7) dX11_leastOf_6 rfl rfl ?_
  have h := sF_i h
  refine V_putI (q := 10) fl_X11_350 rfl rfl rfl dX11_leastOf_7 rfl ?_
  refine V_aload_n (q := 11) dX11_leastOf_10 rfl rfl rfl ?_
  refine V_iload_n (q := 12) dX11_leastOf_11 rfl rfl rfl ?_
  refine V_iload_n (q := 13) dX11_leastOf_12 rfl rfl rfl ?_
  refine V_aload_n (q := 14) dX11_leastOf_13 rfl rfl rfl ?_
  refine V_getI (q := 17) fl_X11_316 rfl rfl rfl dX11_leastOf_14 rfl ?_
  refine V_iconst (q := 18) dX11_leastOf_17 rfl rfl ?_
  refine V_iconst (q := 19) dX11_leastOf_18 rfl rfl ?_
  refine V_iconst (q := 20) dX11_leastOf_19 rfl rfl ?_
  obtain ⟨v3, μ4, hc5, h⟩ := bd_i h
  refine V_cV0 (q := 23) (kX11_search RD (d - 1) (by unfold RD; omega) hc5) (by omega) mv_X11_353 rfl rfl rfl rfl rfl rfl dX11_leastOf_20 rfl ?_
  refine V_aload_n (q := 24) dX11_leastOf_23 rfl rfl rfl ?_
  refine V_getI (q := 27) fl_X11_350 rfl rfl rfl dX11_leastOf_24 rfl ?_
  exact V_iret rfl h dX11_leastOf_27
abbrev mX11_all : Mth := (yX11_all, cX11_all, 1, some .int)
set_option maxRecDepth 100000 in
theorem mi_X11_all : Cond.instanceMethod yX11_all ∈ tG ∧ Cond.selects yX11_all.cls yX11_all yX11_all ∈ tG ∧ Cond.initialized yX11_all.cls ∈ tG ∧ Cond.code yX11_all cX11_all 1 (some .int) ∈ tG ∧ (yX11_all.cls ≠ "java/lang/invoke/MethodHandle" ∧ yX11_all.cls ≠ "java/lang/invoke/VarHandle" ∧ (parseMethodDescriptor yX11_all.desc).map (fun d => d.parameters.length) = some 0) ∧ 1 ≤ 60 := ⟨(tG_of (tb7 (List.mem_of_getElem? (i := 62) rfl)) (by decide +kernel)), (tG_of (List.mem_of_getElem? (i := 89) (by decide +kernel)) (by decide +kernel)), (tG_of (tb1 (List.mem_of_getElem? (i := 12) rfl)) (by decide +kernel)), (tG_of (tb7 (List.mem_of_getElem? (i := 63) rfl)) (by decide +kernel)), ⟨by decide, by decide, by decide +kernel⟩, by decide⟩
set_option maxRecDepth 100000 in
theorem mv_X11_357 : mV RX11 357 mX11_all 0 := ⟨(tG_of (tb7 (List.mem_of_getElem? (i := 60) rfl)) (by decide +kernel)), mi_X11_all⟩
theorem dX11_all_0 : decode cX11_all 0 = .ok (.iconst 1, 1) := dc_4 (byA eNcX11_all (p := 0) (v := 4) (by decide +kernel))
theorem dX11_all_1 : decode cX11_all 1 = .ok (.aload_n 0, 1) := dc_42 (byA eNcX11_all (p := 1) (v := 42) (by decide +kernel))
theorem dX11_all_2 : decode cX11_all 2 = .ok (.getfield 316, 3) := dc_180 (byA eNcX11_all (p := 2) (v := 180) (by decide +kernel)) (byA eNcX11_all (p := 3) (v := 1) (by decide +kernel)) (byA eNcX11_all (p := 4) (v := 60) (by decide +kernel)) rfl
theorem dX11_all_5 : decode cX11_all 5 = .ok (.ishl, 1) := dc_120 (byA eNcX11_all (p := 5) (v := 120) (by decide +kernel))
theorem dX11_all_6 : decode cX11_all 6 = .ok (.iconst 1, 1) := dc_4 (byA eNcX11_all (p := 6) (v := 4) (by decide +kernel))
theorem dX11_all_7 : decode cX11_all 7 = .ok (.isub, 1) := dc_100 (byA eNcX11_all (p := 7) (v := 100) (by decide +kernel))
theorem dX11_all_8 : decode cX11_all 8 = .ok (.ireturn, 1) := dc_172 (byA eNcX11_all (p := 8) (v := 172) (by decide +kernel))
def X11_all (μ : Mm) : Rs := some (iS (bL 1 (μ 70 37)) 1, μ)
set_option maxHeartbeats 4000000 in
set_option maxRecDepth 100000 in
theorem kX11_all (d : Nat) (hd : 1 ≤ d) {μ : Mm} {r : Int} {μ' : Mm} (h : X11_all μ = some (r, μ')) : CC d mX11_all [vR 70] μ r μ' := by
  unfold X11_all at h
  refine V_enter (by decide) (Nat.le_of_ble_eq_true rfl) ?_
  show VV d mX11_all 0 [some (vR 70)] [] μ r μ'
  refine V_iconst (q := 1) dX11_all_0 rfl rfl ?_
  refine V_aload_n (q := 2) dX11_all_1 rfl rfl rfl ?_
  refine V_getI (q := 5) fl_X11_316 rfl rfl rfl dX11_all_2 rfl ?_
  refine V_ishl (q := 6) dX11_all_5 rfl ?_
  refine V_iconst (q := 7) dX11_all_6 rfl rfl ?_
  refine V_isub (q := 8) dX11_all_7 rfl ?_
  exact V_iret rfl h dX11_all_8
abbrev mX11_best : Mth := (yX11_best, cX11_best, 4, some .int)
set_option maxRecDepth 100000 in
theorem mi_X11_best : Cond.instanceMethod yX11_best ∈ tG ∧ Cond.selects yX11_best.cls yX11_best yX11_best ∈ tG ∧ Cond.initialized yX11_best.cls ∈ tG ∧ Cond.code yX11_best cX11_best 4 (some .int) ∈ tG ∧ (yX11_best.cls ≠ "java/lang/invoke/MethodHandle" ∧ yX11_best.cls ≠ "java/lang/invoke/VarHandle" ∧ (parseMethodDescriptor yX11_best.desc).map (fun d => d.parameters.length) = some 3) ∧ 4 ≤ 60 := ⟨(tG_of (tb7 (List.mem_of_getElem? (i := 57) rfl)) (by decide +kernel)), (tG_of (tb7 (List.mem_of_getElem? (i := 58) rfl)) (by decide +kernel)), (tG_of (tb1 (List.mem_of_getElem? (i := 12) rfl)) (by decide +kernel)), (tG_of (tb7 (List.mem_of_getElem? (i := 59) rfl)) (by decide +kernel)), ⟨by decide, by decide, by decide +kernel⟩, by decide⟩
theorem dX11_best_0 : decode cX11_best 0 = .ok (.aload_n 0, 1) := dc_42 (byA eNcX11_best (p := 0) (v := 42) (by decide +kernel))
theorem dX11_best_1 : decode cX11_best 1 = .ok (.iload_n 1, 1) := dc_27 (byA eNcX11_best (p := 1) (v := 27) (by decide +kernel))
theorem dX11_best_2 : decode cX11_best 2 = .ok (.invokevirtual 335, 3) := dc_182 (byA eNcX11_best (p := 2) (v := 182) (by decide +kernel)) (byA eNcX11_best (p := 3) (v := 1) (by decide +kernel)) (byA eNcX11_best (p := 4) (v := 79) (by decide +kernel)) rfl
theorem dX11_best_5 : decode cX11_best 5 = .ok (.ifCond .eq 21, 3) := dc_153 (byA eNcX11_best (p := 5) (v := 153) (by decide +kernel)) (byA eNcX11_best (p := 6) (v := 0) (by decide +kernel)) (byA eNcX11_best (p := 7) (v := 21) (by decide +kernel)) (by decide +kernel)
theorem dX11_best_8 : decode cX11_best 8 = .ok (.iload_n 2, 1) := dc_28 (byA eNcX11_best (p := 8) (v := 28) (by decide +kernel))
theorem dX11_best_9 : decode cX11_best 9 = .ok (.iconst 0, 1) := dc_3 (byA eNcX11_best (p := 9) (v := 3) (by decide +kernel))
theorem dX11_best_10 : decode cX11_best 10 = .ok (.iconst 2, 1) := dc_5 (byA eNcX11_best (p := 10) (v := 5) (by decide +kernel))
theorem dX11_best_11 : decode cX11_best 11 = .ok (.invokestatic 213, 3) := dc_184 (byA eNcX11_best (p := 11) (v := 184) (by decide +kernel)) (byA eNcX11_best (p := 12) (v := 0) (by decide +kernel)) (byA eNcX11_best (p := 13) (v := 213) (by decide +kernel)) rfl
theorem dX11_best_14 : decode cX11_best 14 = .ok (.ifCond .eq 12, 3) := dc_153 (byA eNcX11_best (p := 14) (v := 153) (by decide +kernel)) (byA eNcX11_best (p := 15) (v := 0) (by decide +kernel)) (byA eNcX11_best (p := 16) (v := 12) (by decide +kernel)) (by decide +kernel)
theorem dX11_best_17 : decode cX11_best 17 = .ok (.iload_n 3, 1) := dc_29 (byA eNcX11_best (p := 17) (v := 29) (by decide +kernel))
theorem dX11_best_18 : decode cX11_best 18 = .ok (.iconst 0, 1) := dc_3 (byA eNcX11_best (p := 18) (v := 3) (by decide +kernel))
theorem dX11_best_19 : decode cX11_best 19 = .ok (.iconst 1, 1) := dc_4 (byA eNcX11_best (p := 19) (v := 4) (by decide +kernel))
theorem dX11_best_20 : decode cX11_best 20 = .ok (.invokestatic 213, 3) := dc_184 (byA eNcX11_best (p := 20) (v := 184) (by decide +kernel)) (byA eNcX11_best (p := 21) (v := 0) (by decide +kernel)) (byA eNcX11_best (p := 22) (v := 213) (by decide +kernel)) rfl
theorem dX11_best_23 : decode cX11_best 23 = .ok (.ifCond .ne 5, 3) := dc_154 (byA eNcX11_best (p := 23) (v := 154) (by decide +kernel)) (byA eNcX11_best (p := 24) (v := 0) (by decide +kernel)) (byA eNcX11_best (p := 25) (v := 5) (by decide +kernel)) (by decide +kernel)
theorem dX11_best_26 : decode cX11_best 26 = .ok (.iconst (-1), 1) := dc_2 (byA eNcX11_best (p := 26) (v := 2) (by decide +kernel))
theorem dX11_best_27 : decode cX11_best 27 = .ok (.ireturn, 1) := dc_172 (byA eNcX11_best (p := 27) (v := 172) (by decide +kernel))
theorem dX11_best_28 : decode cX11_best 28 = .ok (.aload_n 0, 1) := dc_42 (byA eNcX11_best (p := 28) (v := 42) (by decide +kernel))
theorem dX11_best_29 : decode cX11_best 29 = .ok (.iload_n 2, 1) := dc_28 (byA eNcX11_best (p := 29) (v := 28) (by decide +kernel))
theorem dX11_best_30 : decode cX11_best 30 = .ok (.aload_n 0, 1) := dc_42 (byA eNcX11_best (p := 30) (v := 42) (by decide +kernel))
theorem dX11_best_31 : decode cX11_best 31 = .ok (.invokevirtual 357, 3) := dc_182 (byA eNcX11_best (p := 31) (v := 182) (by decide +kernel)) (byA eNcX11_best (p := 32) (v := 1) (by decide +kernel)) (byA eNcX11_best (p := 33) (v := 101) (by decide +kernel)) rfl
theorem dX11_best_34 : decode cX11_best 34 = .ok (.invokevirtual 360, 3) := dc_182 (byA eNcX11_best (p := 34) (v := 182) (by decide +kernel)) (byA eNcX11_best (p := 35) (v := 1) (by decide +kernel)) (byA eNcX11_best (p := 36) (v := 104) (by decide +kernel)) rfl
theorem dX11_best_37 : decode cX11_best 37 = .ok (.pop, 1) := dc_87 (byA eNcX11_best (p := 37) (v := 87) (by decide +kernel))
theorem dX11_best_38 : decode cX11_best 38 = .ok (.iload_n 3, 1) := dc_29 (byA eNcX11_best (p := 38) (v := 29) (by decide +kernel))
theorem dX11_best_39 : decode cX11_best 39 = .ok (.ifCond .ne 10, 3) := dc_154 (byA eNcX11_best (p := 39) (v := 154) (by decide +kernel)) (byA eNcX11_best (p := 40) (v := 0) (by decide +kernel)) (byA eNcX11_best (p := 41) (v := 10) (by decide +kernel)) (by decide +kernel)
theorem dX11_best_42 : decode cX11_best 42 = .ok (.aload_n 0, 1) := dc_42 (byA eNcX11_best (p := 42) (v := 42) (by decide +kernel))
theorem dX11_best_43 : decode cX11_best 43 = .ok (.getfield 347, 3) := dc_180 (byA eNcX11_best (p := 43) (v := 180) (by decide +kernel)) (byA eNcX11_best (p := 44) (v := 1) (by decide +kernel)) (byA eNcX11_best (p := 45) (v := 91) (by decide +kernel)) rfl
theorem dX11_best_46 : decode cX11_best 46 = .ok (.goto 7, 3) := dc_167 (byA eNcX11_best (p := 46) (v := 167) (by decide +kernel)) (byA eNcX11_best (p := 47) (v := 0) (by decide +kernel)) (byA eNcX11_best (p := 48) (v := 7) (by decide +kernel)) (by decide +kernel)
theorem dX11_best_49 : decode cX11_best 49 = .ok (.aload_n 0, 1) := dc_42 (byA eNcX11_best (p := 49) (v := 42) (by decide +kernel))
theorem dX11_best_50 : decode cX11_best 50 = .ok (.getfield 350, 3) := dc_180 (byA eNcX11_best (p := 50) (v := 180) (by decide +kernel)) (byA eNcX11_best (p := 51) (v := 1) (by decide +kernel)) (byA eNcX11_best (p := 52) (v := 94) (by decide +kernel)) rfl
theorem dX11_best_53 : decode cX11_best 53 = .ok (.ireturn, 1) := dc_172 (byA eNcX11_best (p := 53) (v := 172) (by decide +kernel))
def X11_best (l1 : Int) (l2 : Int) (l3 : Int) (μ : Mm) : Rs := bd (X11_isReady l1 μ) fun v1 μ2 => if v1 = 0 then (some ((-1), μ2)) else (bd (X11_in l2 0 2 μ2) fun v5 μ6 => if v5 = 0 then (some ((-1), μ6)) else (bd (X11_in l3 0 1 μ6) fun v9 μ10 => if v9 = 0 then (some ((-1), μ10)) else (bd (X11_all μ10) fun v13 μ14 => bd (X11_leastOf l2 v13 μ14) fun v16 μ17 => if l3 = 0 then (some (μ17 70 41, μ17)) else (some (μ17 70 42, μ17)))))
set_option maxHeartbeats 4000000 in
set_option maxRecDepth 100000 in
theorem kX11_best (d : Nat) (hd : 134 ≤ d) {l1 : Int} {l2 : Int} {l3 : Int} {μ : Mm} {r : Int} {μ' : Mm} (h : X11_best l1 l2 l3 μ = some (r, μ')) : CC d mX11_best [vR 70, vI l1, vI l2, vI l3] μ r μ' := by
  unfold X11_best at h
  refine V_enter (by decide) (Nat.le_of_ble_eq_true rfl) ?_
  show VV d mX11_best 0 [some (vR 70), some (vI l1), some (vI l2), some (vI l3)] [] μ r μ'
  refine V_aload_n (q := 1) dX11_best_0 rfl rfl rfl ?_
  refine V_iload_n (q := 2) dX11_best_1 rfl rfl rfl ?_
  obtain ⟨v1, μ2, hc3, h⟩ := bd_i h
  refine V_cV1 (q := 5) (v := vI v1) (kX11_isReady (d - 1) (by omega) hc3) (by omega) mv_X11_335 rfl rfl rfl rfl rfl rfl dX11_best_2 rfl ?_
  refine V_ifeq (q := 26) (q2 := 8) dX11_best_5 (by decide) rfl (fun hc4 => ?_) (fun hc4 => ?_)
  · have h := ifT hc4 h
    refine V_iconst (q := 27) dX11_best_26 rfl rfl ?_
    exact V_iret rfl h dX11_best_27
  · have h := ifF hc4 h
    refine V_iload_n (q := 9) dX11_best_8 rfl rfl rfl ?_
    refine V_iconst (q := 10) dX11_best_9 rfl rfl ?_
    refine V_iconst (q := 11) dX11_best_10 rfl rfl ?_
    obtain ⟨v5, μ6, hc7, h⟩ := bd_i h
    refine V_cS1 (q := 14) (v := vI v5) (kX11_in (d - 1) (by omega) hc7) (by omega) mv_X11_213 rfl rfl rfl rfl dX11_best_11 rfl ?_
    refine V_ifeq (q := 26) (q2 := 17) dX11_best_14 (by decide) rfl (fun hc8 => ?_) (fun hc8 => ?_)
    · have h := ifT hc8 h
      refine V_iconst (q := 27) dX11_best_26 rfl rfl ?_
      exact V_iret rfl h dX11_best_27
    · have h := ifF hc8 h
      refine V_iload_n (q := 18) dX11_best_17 rfl rfl rfl ?_
      refine V_iconst (q := 19) dX11_best_18 rfl rfl ?_
      refine V_iconst (q := 20) dX11_best_19 rfl rfl ?_
      obtain ⟨v9, μ10, hc11, h⟩ := bd_i h
      refine V_cS1 (q := 23) (v := vI v9) (kX11_in (d - 1) (by omega) hc11) (by omega) mv_X11_213 rfl rfl rfl rfl dX11_best_20 rfl ?_
      refine V_ifne (q := 28) (q2 := 26) dX11_best_23 (by decide) rfl (fun hc12 => ?_) (fun hc12 => ?_)
      · have h := ifF hc12 h
        refine V_aload_n (q := 29) dX11_best_28 rfl rfl rfl ?_
        refine V_iload_n (q := 30) dX11_best_29 rfl rfl rfl ?_
        refine V_aload_n (q := 31) dX11_best_30 rfl rfl rfl ?_
        obtain ⟨v13, μ14, hc15, h⟩ := bd_i h
        refine V_cV1 (q := 34) (v := vI v13) (kX11_all (d - 1) (by omega) hc15) (by omega) mv_X11_357 rfl rfl rfl rfl rfl rfl dX11_best_31 rfl ?_
        obtain ⟨v16, μ17, hc18, h⟩ := bd_i h
        refine V_cV1 (q := 37) (v := vI v16) (kX11_leastOf (d - 1) (by omega) hc18) (by omega) mv_X11_360 rfl rfl rfl rfl rfl rfl dX11_best_34 rfl ?_
        refine V_pop (q := 38) dX11_best_37 trivial rfl ?_
        refine V_iload_n (q := 39) dX11_best_38 rfl rfl rfl ?_
        refine V_ifne (q := 49) (q2 := 42) dX11_best_39 (by decide) rfl (fun hc19 => ?_) (fun hc19 => ?_)
        · have h := ifF hc19 h
          refine V_aload_n (q := 50) dX11_best_49 rfl rfl rfl ?_
          refine V_getI (q := 53) fl_X11_350 rfl rfl rfl dX11_best_50 rfl ?_
          exact V_iret rfl h dX11_best_53
        · have h := ifT hc19 h
          refine V_aload_n (q := 43) dX11_best_42 rfl rfl rfl ?_
          refine V_getI (q := 46) fl_X11_347 rfl rfl rfl dX11_best_43 rfl ?_
          refine V_goto (q := 53) dX11_best_46 (by decide) ?_
          exact V_iret rfl h dX11_best_53
      · have h := ifT hc12 h
        refine V_iconst (q := 27) dX11_best_26 rfl rfl ?_
        exact V_iret rfl h dX11_best_27
abbrev mX11_met : Mth := (yX11_met, cX11_met, 3, some .int)
set_option maxRecDepth 100000 in
theorem mi_X11_met : Cond.instanceMethod yX11_met ∈ tG ∧ Cond.selects yX11_met.cls yX11_met yX11_met ∈ tG ∧ Cond.initialized yX11_met.cls ∈ tG ∧ Cond.code yX11_met cX11_met 3 (some .int) ∈ tG ∧ (yX11_met.cls ≠ "java/lang/invoke/MethodHandle" ∧ yX11_met.cls ≠ "java/lang/invoke/VarHandle" ∧ (parseMethodDescriptor yX11_met.desc).map (fun d => d.parameters.length) = some 2) ∧ 3 ≤ 60 := ⟨(tG_of (tb7 (List.mem_of_getElem? (i := 73) rfl)) (by decide +kernel)), (tG_of (tb7 (List.mem_of_getElem? (i := 74) rfl)) (by decide +kernel)), (tG_of (tb1 (List.mem_of_getElem? (i := 12) rfl)) (by decide +kernel)), (tG_of (tb7 (List.mem_of_getElem? (i := 75) rfl)) (by decide +kernel)), ⟨by decide, by decide, by decide +kernel⟩, by decide⟩
theorem dX11_met_0 : decode cX11_met 0 = .ok (.aload_n 0, 1) := dc_42 (byA eNcX11_met (p := 0) (v := 42) (by decide +kernel))
theorem dX11_met_1 : decode cX11_met 1 = .ok (.iload_n 1, 1) := dc_27 (byA eNcX11_met (p := 1) (v := 27) (by decide +kernel))
theorem dX11_met_2 : decode cX11_met 2 = .ok (.invokevirtual 335, 3) := dc_182 (byA eNcX11_met (p := 2) (v := 182) (by decide +kernel)) (byA eNcX11_met (p := 3) (v := 1) (by decide +kernel)) (byA eNcX11_met (p := 4) (v := 79) (by decide +kernel)) rfl
theorem dX11_met_5 : decode cX11_met 5 = .ok (.ifCond .eq 15, 3) := dc_153 (byA eNcX11_met (p := 5) (v := 153) (by decide +kernel)) (byA eNcX11_met (p := 6) (v := 0) (by decide +kernel)) (byA eNcX11_met (p := 7) (v := 15) (by decide +kernel)) (by decide +kernel)
theorem dX11_met_8 : decode cX11_met 8 = .ok (.iload_n 2, 1) := dc_28 (byA eNcX11_met (p := 8) (v := 28) (by decide +kernel))
theorem dX11_met_9 : decode cX11_met 9 = .ok (.iconst 1, 1) := dc_4 (byA eNcX11_met (p := 9) (v := 4) (by decide +kernel))
theorem dX11_met_10 : decode cX11_met 10 = .ok (.aload_n 0, 1) := dc_42 (byA eNcX11_met (p := 10) (v := 42) (by decide +kernel))
theorem dX11_met_11 : decode cX11_met 11 = .ok (.invokevirtual 357, 3) := dc_182 (byA eNcX11_met (p := 11) (v := 182) (by decide +kernel)) (byA eNcX11_met (p := 12) (v := 1) (by decide +kernel)) (byA eNcX11_met (p := 13) (v := 101) (by decide +kernel)) rfl
theorem dX11_met_14 : decode cX11_met 14 = .ok (.invokestatic 213, 3) := dc_184 (byA eNcX11_met (p := 14) (v := 184) (by decide +kernel)) (byA eNcX11_met (p := 15) (v := 0) (by decide +kernel)) (byA eNcX11_met (p := 16) (v := 213) (by decide +kernel)) rfl
theorem dX11_met_17 : decode cX11_met 17 = .ok (.ifCond .ne 7, 3) := dc_154 (byA eNcX11_met (p := 17) (v := 154) (by decide +kernel)) (byA eNcX11_met (p := 18) (v := 0) (by decide +kernel)) (byA eNcX11_met (p := 19) (v := 7) (by decide +kernel)) (by decide +kernel)
theorem dX11_met_20 : decode cX11_met 20 = .ok (.iconst (-1), 1) := dc_2 (byA eNcX11_met (p := 20) (v := 2) (by decide +kernel))
theorem dX11_met_21 : decode cX11_met 21 = .ok (.goto 17, 3) := dc_167 (byA eNcX11_met (p := 21) (v := 167) (by decide +kernel)) (byA eNcX11_met (p := 22) (v := 0) (by decide +kernel)) (byA eNcX11_met (p := 23) (v := 17) (by decide +kernel)) (by decide +kernel)
theorem dX11_met_24 : decode cX11_met 24 = .ok (.aload_n 0, 1) := dc_42 (byA eNcX11_met (p := 24) (v := 42) (by decide +kernel))
theorem dX11_met_25 : decode cX11_met 25 = .ok (.iconst 2, 1) := dc_5 (byA eNcX11_met (p := 25) (v := 5) (by decide +kernel))
theorem dX11_met_26 : decode cX11_met 26 = .ok (.iload_n 2, 1) := dc_28 (byA eNcX11_met (p := 26) (v := 28) (by decide +kernel))
theorem dX11_met_27 : decode cX11_met 27 = .ok (.invokevirtual 360, 3) := dc_182 (byA eNcX11_met (p := 27) (v := 182) (by decide +kernel)) (byA eNcX11_met (p := 28) (v := 1) (by decide +kernel)) (byA eNcX11_met (p := 29) (v := 104) (by decide +kernel)) rfl
theorem dX11_met_30 : decode cX11_met 30 = .ok (.ifCond .ne 7, 3) := dc_154 (byA eNcX11_met (p := 30) (v := 154) (by decide +kernel)) (byA eNcX11_met (p := 31) (v := 0) (by decide +kernel)) (byA eNcX11_met (p := 32) (v := 7) (by decide +kernel)) (by decide +kernel)
theorem dX11_met_33 : decode cX11_met 33 = .ok (.iconst 1, 1) := dc_4 (byA eNcX11_met (p := 33) (v := 4) (by decide +kernel))
theorem dX11_met_34 : decode cX11_met 34 = .ok (.goto 4, 3) := dc_167 (byA eNcX11_met (p := 34) (v := 167) (by decide +kernel)) (byA eNcX11_met (p := 35) (v := 0) (by decide +kernel)) (byA eNcX11_met (p := 36) (v := 4) (by decide +kernel)) (by decide +kernel)
theorem dX11_met_37 : decode cX11_met 37 = .ok (.iconst 0, 1) := dc_3 (byA eNcX11_met (p := 37) (v := 3) (by decide +kernel))
theorem dX11_met_38 : decode cX11_met 38 = .ok (.ireturn, 1) := dc_172 (byA eNcX11_met (p := 38) (v := 172) (by decide +kernel))
def X11_met (l1 : Int) (l2 : Int) (μ : Mm) : Rs := bd (X11_isReady l1 μ) fun v1 μ2 => if v1 = 0 then (some ((-1), μ2)) else (bd (X11_all μ2) fun v5 μ6 => bd (X11_in l2 1 v5 μ6) fun v8 μ9 => if v8 = 0 then (some ((-1), μ9)) else (bd (X11_leastOf 2 l2 μ9) fun v12 μ13 => if v12 = 0 then (some (1, μ13)) else (some (0, μ13))))
set_option maxHeartbeats 4000000 in
set_option maxRecDepth 100000 in
theorem kX11_met (d : Nat) (hd : 134 ≤ d) {l1 : Int} {l2 : Int} {μ : Mm} {r : Int} {μ' : Mm} (h : X11_met l1 l2 μ = some (r, μ')) : CC d mX11_met [vR 70, vI l1, vI l2] μ r μ' := by
  unfold X11_met at h
  refine V_enter (by decide) (Nat.le_of_ble_eq_true rfl) ?_
  show VV d mX11_met 0 [some (vR 70), some (vI l1), some (vI l2)] [] μ r μ'
  refine V_aload_n (q := 1) dX11_met_0 rfl rfl rfl ?_
  refine V_iload_n (q := 2) dX11_met_1 rfl rfl rfl ?_
  obtain ⟨v1, μ2, hc3, h⟩ := bd_i h
  refine V_cV1 (q := 5) (v := vI v1) (kX11_isReady (d - 1) (by omega) hc3) (by omega) mv_X11_335 rfl rfl rfl rfl rfl rfl dX11_met_2 rfl ?_
  refine V_ifeq (q := 20) (q2 := 8) dX11_met_5 (by decide) rfl (fun hc4 => ?_) (fun hc4 => ?_)
  · have h := ifT hc4 h
    refine V_iconst (q := 21) dX11_met_20 rfl rfl ?_
    refine V_goto (q := 38) dX11_met_21 (by decide) ?_
    exact V_iret rfl h dX11_met_38
  · have h := ifF hc4 h
    refine V_iload_n (q := 9) dX11_met_8 rfl rfl rfl ?_
    refine V_iconst (q := 10) dX11_met_9 rfl rfl ?_
    refine V_aload_n (q := 11) dX11_met_10 rfl rfl rfl ?_
    obtain ⟨v5, μ6, hc7, h⟩ := bd_i h
    refine V_cV1 (q := 14) (v := vI v5) (kX11_all (d - 1) (by omega) hc7) (by omega) mv_X11_357 rfl rfl rfl rfl rfl rfl dX11_met_11 rfl ?_
    obtain ⟨v8, μ9, hc10, h⟩ := bd_i h
    refine V_cS1 (q := 17) (v := vI v8) (kX11_in (d - 1) (by omega) hc10) (by omega) mv_X11_213 rfl rfl rfl rfl dX11_met_14 rfl ?_
    refine V_ifne (q := 24) (q2 := 20) dX11_met_17 (by decide) rfl (fun hc11 => ?_) (fun hc11 => ?_)
    · have h := ifF hc11 h
      refine V_aload_n (q := 25) dX11_met_24 rfl rfl rfl ?_
      refine V_iconst (q := 26) dX11_met_25 rfl rfl ?_
      refine V_iload_n (q := 27) dX11_met_26 rfl rfl rfl ?_
      obtain ⟨v12, μ13, hc14, h⟩ := bd_i h
      refine V_cV1 (q := 30) (v := vI v12) (kX11_leastOf (d - 1) (by omega) hc14) (by omega) mv_X11_360 rfl rfl rfl rfl rfl rfl dX11_met_27 rfl ?_
      refine V_ifne (q := 37) (q2 := 33) dX11_met_30 (by decide) rfl (fun hc15 => ?_) (fun hc15 => ?_)
      · have h := ifF hc15 h
        refine V_iconst (q := 38) dX11_met_37 rfl rfl ?_
        exact V_iret rfl h dX11_met_38
      · have h := ifT hc15 h
        refine V_iconst (q := 34) dX11_met_33 rfl rfl ?_
        refine V_goto (q := 38) dX11_met_34 (by decide) ?_
        exact V_iret rfl h dX11_met_38
    · have h := ifT hc11 h
      refine V_iconst (q := 21) dX11_met_20 rfl rfl ?_
      refine V_goto (q := 38) dX11_met_21 (by decide) ?_
      exact V_iret rfl h dX11_met_38
abbrev mX11_knot : Mth := (yX11_knot, cX11_knot, 4, some .int)
set_option maxRecDepth 100000 in
theorem mi_X11_knot : Cond.instanceMethod yX11_knot ∈ tG ∧ Cond.selects yX11_knot.cls yX11_knot yX11_knot ∈ tG ∧ Cond.initialized yX11_knot.cls ∈ tG ∧ Cond.code yX11_knot cX11_knot 4 (some .int) ∈ tG ∧ (yX11_knot.cls ≠ "java/lang/invoke/MethodHandle" ∧ yX11_knot.cls ≠ "java/lang/invoke/VarHandle" ∧ (parseMethodDescriptor yX11_knot.desc).map (fun d => d.parameters.length) = some 1) ∧ 4 ≤ 60 := ⟨(tG_of (tb7 (List.mem_of_getElem? (i := 77) rfl)) (by decide +kernel)), (tG_of (tb7 (List.mem_of_getElem? (i := 78) rfl)) (by decide +kernel)), (tG_of (tb1 (List.mem_of_getElem? (i := 12) rfl)) (by decide +kernel)), (tG_of (tb7 (List.mem_of_getElem? (i := 79) rfl)) (by decide +kernel)), ⟨by decide, by decide, by decide +kernel⟩, by decide⟩
theorem dX11_knot_0 : decode cX11_knot 0 = .ok (.aload_n 0, 1) := dc_42 (byA eNcX11_knot (p := 0) (v := 42) (by decide +kernel))
theorem dX11_knot_1 : decode cX11_knot 1 = .ok (.iload_n 1, 1) := dc_27 (byA eNcX11_knot (p := 1) (v := 27) (by decide +kernel))
theorem dX11_knot_2 : decode cX11_knot 2 = .ok (.invokevirtual 335, 3) := dc_182 (byA eNcX11_knot (p := 2) (v := 182) (by decide +kernel)) (byA eNcX11_knot (p := 3) (v := 1) (by decide +kernel)) (byA eNcX11_knot (p := 4) (v := 79) (by decide +kernel)) rfl
theorem dX11_knot_5 : decode cX11_knot 5 = .ok (.ifCond .ne 5, 3) := dc_154 (byA eNcX11_knot (p := 5) (v := 154) (by decide +kernel)) (byA eNcX11_knot (p := 6) (v := 0) (by decide +kernel)) (byA eNcX11_knot (p := 7) (v := 5) (by decide +kernel)) (by decide +kernel)
theorem dX11_knot_8 : decode cX11_knot 8 = .ok (.iconst (-1), 1) := dc_2 (byA eNcX11_knot (p := 8) (v := 2) (by decide +kernel))
theorem dX11_knot_9 : decode cX11_knot 9 = .ok (.ireturn, 1) := dc_172 (byA eNcX11_knot (p := 9) (v := 172) (by decide +kernel))
theorem dX11_knot_10 : decode cX11_knot 10 = .ok (.iconst (-1), 1) := dc_2 (byA eNcX11_knot (p := 10) (v := 2) (by decide +kernel))
theorem dX11_knot_11 : decode cX11_knot 11 = .ok (.istore_n 2, 1) := dc_61 (byA eNcX11_knot (p := 11) (v := 61) (by decide +kernel))
theorem dX11_knot_12 : decode cX11_knot 12 = .ok (.iconst 1, 1) := dc_4 (byA eNcX11_knot (p := 12) (v := 4) (by decide +kernel))
theorem dX11_knot_13 : decode cX11_knot 13 = .ok (.istore_n 3, 1) := dc_62 (byA eNcX11_knot (p := 13) (v := 62) (by decide +kernel))
theorem dX11_knot_14 : decode cX11_knot 14 = .ok (.iload_n 3, 1) := dc_29 (byA eNcX11_knot (p := 14) (v := 29) (by decide +kernel))
theorem dX11_knot_15 : decode cX11_knot 15 = .ok (.aload_n 0, 1) := dc_42 (byA eNcX11_knot (p := 15) (v := 42) (by decide +kernel))
theorem dX11_knot_16 : decode cX11_knot 16 = .ok (.invokevirtual 357, 3) := dc_182 (byA eNcX11_knot (p := 16) (v := 182) (by decide +kernel)) (byA eNcX11_knot (p := 17) (v := 1) (by decide +kernel)) (byA eNcX11_knot (p := 18) (v := 101) (by decide +kernel)) rfl
theorem dX11_knot_19 : decode cX11_knot 19 = .ok (.if_icmp .gt 36, 3) := dc_163 (byA eNcX11_knot (p := 19) (v := 163) (by decide +kernel)) (byA eNcX11_knot (p := 20) (v := 0) (by decide +kernel)) (byA eNcX11_knot (p := 21) (v := 36) (by decide +kernel)) (by decide +kernel)
theorem dX11_knot_22 : decode cX11_knot 22 = .ok (.iload_n 2, 1) := dc_28 (byA eNcX11_knot (p := 22) (v := 28) (by decide +kernel))
theorem dX11_knot_23 : decode cX11_knot 23 = .ok (.iconst (-1), 1) := dc_2 (byA eNcX11_knot (p := 23) (v := 2) (by decide +kernel))
theorem dX11_knot_24 : decode cX11_knot 24 = .ok (.if_icmp .eq 14, 3) := dc_159 (byA eNcX11_knot (p := 24) (v := 159) (by decide +kernel)) (byA eNcX11_knot (p := 25) (v := 0) (by decide +kernel)) (byA eNcX11_knot (p := 26) (v := 14) (by decide +kernel)) (by decide +kernel)
theorem dX11_knot_27 : decode cX11_knot 27 = .ok (.iload_n 3, 1) := dc_29 (byA eNcX11_knot (p := 27) (v := 29) (by decide +kernel))
theorem dX11_knot_28 : decode cX11_knot 28 = .ok (.invokestatic 267, 3) := dc_184 (byA eNcX11_knot (p := 28) (v := 184) (by decide +kernel)) (byA eNcX11_knot (p := 29) (v := 1) (by decide +kernel)) (byA eNcX11_knot (p := 30) (v := 11) (by decide +kernel)) rfl
theorem dX11_knot_31 : decode cX11_knot 31 = .ok (.iload_n 2, 1) := dc_28 (byA eNcX11_knot (p := 31) (v := 28) (by decide +kernel))
theorem dX11_knot_32 : decode cX11_knot 32 = .ok (.invokestatic 267, 3) := dc_184 (byA eNcX11_knot (p := 32) (v := 184) (by decide +kernel)) (byA eNcX11_knot (p := 33) (v := 1) (by decide +kernel)) (byA eNcX11_knot (p := 34) (v := 11) (by decide +kernel)) rfl
theorem dX11_knot_35 : decode cX11_knot 35 = .ok (.if_icmp .ge 14, 3) := dc_162 (byA eNcX11_knot (p := 35) (v := 162) (by decide +kernel)) (byA eNcX11_knot (p := 36) (v := 0) (by decide +kernel)) (byA eNcX11_knot (p := 37) (v := 14) (by decide +kernel)) (by decide +kernel)
theorem dX11_knot_38 : decode cX11_knot 38 = .ok (.aload_n 0, 1) := dc_42 (byA eNcX11_knot (p := 38) (v := 42) (by decide +kernel))
theorem dX11_knot_39 : decode cX11_knot 39 = .ok (.iconst 2, 1) := dc_5 (byA eNcX11_knot (p := 39) (v := 5) (by decide +kernel))
theorem dX11_knot_40 : decode cX11_knot 40 = .ok (.iload_n 3, 1) := dc_29 (byA eNcX11_knot (p := 40) (v := 29) (by decide +kernel))
theorem dX11_knot_41 : decode cX11_knot 41 = .ok (.invokevirtual 360, 3) := dc_182 (byA eNcX11_knot (p := 41) (v := 182) (by decide +kernel)) (byA eNcX11_knot (p := 42) (v := 1) (by decide +kernel)) (byA eNcX11_knot (p := 43) (v := 104) (by decide +kernel)) rfl
theorem dX11_knot_44 : decode cX11_knot 44 = .ok (.ifCond .eq 5, 3) := dc_153 (byA eNcX11_knot (p := 44) (v := 153) (by decide +kernel)) (byA eNcX11_knot (p := 45) (v := 0) (by decide +kernel)) (byA eNcX11_knot (p := 46) (v := 5) (by decide +kernel)) (by decide +kernel)
theorem dX11_knot_47 : decode cX11_knot 47 = .ok (.iload_n 3, 1) := dc_29 (byA eNcX11_knot (p := 47) (v := 29) (by decide +kernel))
theorem dX11_knot_48 : decode cX11_knot 48 = .ok (.istore_n 2, 1) := dc_61 (byA eNcX11_knot (p := 48) (v := 61) (by decide +kernel))
theorem dX11_knot_49 : decode cX11_knot 49 = .ok (.iinc 3 1, 3) := dc_132 (byA eNcX11_knot (p := 49) (v := 132) (by decide +kernel)) (byA eNcX11_knot (p := 50) (v := 3) (by decide +kernel)) (byA eNcX11_knot (p := 51) (v := 1) (by decide +kernel)) (by decide +kernel)
theorem dX11_knot_52 : decode cX11_knot 52 = .ok (.goto (-38), 3) := dc_167 (byA eNcX11_knot (p := 52) (v := 167) (by decide +kernel)) (byA eNcX11_knot (p := 53) (v := 255) (by decide +kernel)) (byA eNcX11_knot (p := 54) (v := 218) (by decide +kernel)) (by decide +kernel)
theorem dX11_knot_55 : decode cX11_knot 55 = .ok (.iload_n 2, 1) := dc_28 (byA eNcX11_knot (p := 55) (v := 28) (by decide +kernel))
theorem dX11_knot_56 : decode cX11_knot 56 = .ok (.ireturn, 1) := dc_172 (byA eNcX11_knot (p := 56) (v := 172) (by decide +kernel))
def X11_knot_J38 (k14 : Int → Int → Mm → Rs) (l2 : Int) (l3 : Int) (μ : Mm) : Rs := bd (X11_leastOf 2 l3 μ) fun v10 μ11 => if v10 = 0 then (k14 l2 (iA l3 1) μ11) else (k14 l3 (iA l3 1) μ11)
def X11_knot_L14 : Nat → Int → Int → Mm → Rs
  | 0, _, _, _ => none
  | n + 1, l2, l3, μ => bd (X11_all μ) fun v5 μ6 => if v5 < l3 then (some (l2, μ6)) else (if l2 = (-1) then (X11_knot_J38 (fun w2 w3 μq => X11_knot_L14 n w2 w3 μq) l2 l3 μ6) else (bd (J6_bitCount_0f7a4 l3 μ6) fun v14 μ15 => bd (J6_bitCount_0f7a4 l2 μ15) fun v17 μ18 => if v17 ≤ v14 then (X11_knot_L14 n l2 (iA l3 1) μ18) else (X11_knot_J38 (fun w2 w3 μq => X11_knot_L14 n w2 w3 μq) l2 l3 μ18)))
def X11_knot (l1 : Int) (μ : Mm) : Rs := bd (X11_isReady l1 μ) fun v1 μ2 => if v1 = 0 then (some ((-1), μ2)) else (X11_knot_L14 FU (-1) 1 μ2)
set_option maxHeartbeats 4000000 in
set_option maxRecDepth 100000 in
theorem kX11_knot_J38 (d : Nat) (hd : 134 ≤ d) {k14 : Int → Int → Mm → Rs} {l2 : Int} {l3 : Int} {μ : Mm} {r : Int} {μ' : Mm} (hk_14 : ∀ (v2 v3 : Int) (μ1 : Mm), k14 v2 v3 μ1 = some (r, μ') → VV d mX11_knot 14 [some (vR 70), none, some (vI v2), some (vI v3)] [] μ1 r μ') (h : X11_knot_J38 k14 l2 l3 μ = some (r, μ')) : VV d mX11_knot 38 [some (vR 70), none, some (vI l2), some (vI l3)] [] μ r μ' := by
  unfold X11_knot_J38 at h
  refine V_aload_n (q := 39) dX11_knot_38 rfl rfl rfl ?_
  refine V_iconst (q := 40) dX11_knot_39 rfl rfl ?_
  refine V_iload_n (q := 41) dX11_knot_40 rfl rfl rfl ?_
  obtain ⟨v10, μ11, hc12, h⟩ := bd_i h
  refine V_cV1 (q := 44) (v := vI v10) (kX11_leastOf (d - 1) (by omega) hc12) (by omega) mv_X11_360 rfl rfl rfl rfl rfl rfl dX11_knot_41 rfl ?_
  refine V_ifeq (q := 49) (q2 := 47) dX11_knot_44 (by decide) rfl (fun hc13 => ?_) (fun hc13 => ?_)
  · have h := ifT hc13 h
    refine V_iinc (q := 52) dX11_knot_49 rfl (Nat.le_of_ble_eq_true rfl) trivial rfl ?_
    refine V_goto (q := 14) dX11_knot_52 (by decide) ?_
    exact V_weak (hk_14 _ _ _ h) (sb_s rfl (sb_n (sb_s rfl (sb_s rfl sb_0))))
  · have h := ifF hc13 h
    refine V_iload_n (q := 48) dX11_knot_47 rfl rfl rfl ?_
    refine V_istore_n (q := 49) dX11_knot_48 rfl (Nat.le_of_ble_eq_true rfl) trivial rfl ?_
    refine V_iinc (q := 52) dX11_knot_49 rfl (Nat.le_of_ble_eq_true rfl) trivial rfl ?_
    refine V_goto (q := 14) dX11_knot_52 (by decide) ?_
    exact V_weak (hk_14 _ _ _ h) (sb_s rfl (sb_n (sb_s rfl (sb_s rfl sb_0))))
set_option maxHeartbeats 4000000 in
set_option maxRecDepth 100000 in
theorem kX11_knot_L14 (d : Nat) (hd : 134 ≤ d) {r : Int} {μ' : Mm} : ∀ (n : Nat) {l2 l3 : Int} {μ : Mm}, X11_knot_L14 n l2 l3 μ = some (r, μ') → VV d mX11_knot 14 [some (vR 70), none, some (vI l2), some (vI l3)] [] μ r μ' := by
  intro n
  induction n with
  | zero => intro l2 l3 μ h; rw [X11_knot_L14] at h; cases h
  | succ n ih =>
    intro l2 l3 μ h
    rw [X11_knot_L14] at h
    refine V_iload_n (q := 15) dX11_knot_14 rfl rfl rfl ?_
    refine V_aload_n (q := 16) dX11_knot_15 rfl rfl rfl ?_
    obtain ⟨v5, μ6, hc7, h⟩ := bd_i h
    refine V_cV1 (q := 19) (v := vI v5) (kX11_all (d - 1) (by omega) hc7) (by omega) mv_X11_357 rfl rfl rfl rfl rfl rfl dX11_knot_16 rfl ?_
    refine V_icmpgt (q := 55) (q2 := 22) dX11_knot_19 (by decide) rfl (fun hc8 => ?_) (fun hc8 => ?_)
    · have h := ifT hc8 h
      refine V_iload_n (q := 56) dX11_knot_55 rfl rfl rfl ?_
      exact V_iret rfl h dX11_knot_56
    · have h := ifF hc8 h
      refine V_iload_n (q := 23) dX11_knot_22 rfl rfl rfl ?_
      refine V_iconst (q := 24) dX11_knot_23 rfl rfl ?_
      refine V_icmpeq (q := 38) (q2 := 27) dX11_knot_24 (by decide) rfl (fun hc9 => ?_) (fun hc9 => ?_)
      · have h := ifT hc9 h
        exact V_weak (kX11_knot_J38 d hd (fun _ _ _ h => ih h) h) (sb_s rfl (sb_n (sb_s rfl (sb_s rfl sb_0))))
      · have h := ifF hc9 h
        refine V_iload_n (q := 28) dX11_knot_27 rfl rfl rfl ?_
        obtain ⟨v14, μ15, hc16, h⟩ := bd_i h
        refine V_cS1 (q := 31) (v := vI v14) (kJ6_bitCount_0f7a4 (d - 1) (by omega) hc16) (by omega) mv_X11_267 rfl rfl rfl rfl dX11_knot_28 rfl ?_
        refine V_iload_n (q := 32) dX11_knot_31 rfl rfl rfl ?_
        obtain ⟨v17, μ18, hc19, h⟩ := bd_i h
        refine V_cS1 (q := 35) (v := vI v17) (kJ6_bitCount_0f7a4 (d - 1) (by omega) hc19) (by omega) mv_X11_267 rfl rfl rfl rfl dX11_knot_32 rfl ?_
        refine V_icmpge (q := 49) (q2 := 38) dX11_knot_35 (by decide) rfl (fun hc20 => ?_) (fun hc20 => ?_)
        · have h := ifT hc20 h
          refine V_iinc (q := 52) dX11_knot_49 rfl (Nat.le_of_ble_eq_true rfl) trivial rfl ?_
          refine V_goto (q := 14) dX11_knot_52 (by decide) ?_
          exact V_weak (ih h) (sb_s rfl (sb_n (sb_s rfl (sb_s rfl sb_0))))
        · have h := ifF hc20 h
          exact V_weak (kX11_knot_J38 d hd (fun _ _ _ h => ih h) h) (sb_s rfl (sb_n (sb_s rfl (sb_s rfl sb_0))))
set_option maxHeartbeats 4000000 in
set_option maxRecDepth 100000 in
theorem kX11_knot (d : Nat) (hd : 134 ≤ d) {l1 : Int} {μ : Mm} {r : Int} {μ' : Mm} (h : X11_knot l1 μ = some (r, μ')) : CC d mX11_knot [vR 70, vI l1] μ r μ' := by
  unfold X11_knot at h
  refine V_enter (by decide) (Nat.le_of_ble_eq_true rfl) ?_
  show VV d mX11_knot 0 [some (vR 70), some (vI l1), none, none] [] μ r μ'
  refine V_aload_n (q := 1) dX11_knot_0 rfl rfl rfl ?_
  refine V_iload_n (q := 2) dX11_knot_1 rfl rfl rfl ?_
  obtain ⟨v1, μ2, hc3, h⟩ := bd_i h
  refine V_cV1 (q := 5) (v := vI v1) (kX11_isReady (d - 1) (by omega) hc3) (by omega) mv_X11_335 rfl rfl rfl rfl rfl rfl dX11_knot_2 rfl ?_
  refine V_ifne (q := 10) (q2 := 8) dX11_knot_5 (by decide) rfl (fun hc4 => ?_) (fun hc4 => ?_)
  · have h := ifF hc4 h
    refine V_iconst (q := 11) dX11_knot_10 rfl rfl ?_
    refine V_istore_n (q := 12) dX11_knot_11 rfl (Nat.le_of_ble_eq_true rfl) trivial rfl ?_
    refine V_iconst (q := 13) dX11_knot_12 rfl rfl ?_
    refine V_istore_n (q := 14) dX11_knot_13 rfl (Nat.le_of_ble_eq_true rfl) trivial rfl ?_
    exact V_weak (kX11_knot_L14 d hd  FU h) (sb_s rfl (sb_n (sb_s rfl (sb_s rfl sb_0))))
  · have h := ifT hc4 h
    refine V_iconst (q := 9) dX11_knot_8 rfl rfl ?_
    exact V_iret rfl h dX11_knot_9
abbrev mX11_ageOf : Mth := (yX11_ageOf, cX11_ageOf, 3, some .int)
set_option maxRecDepth 100000 in
theorem mi_X11_ageOf : Cond.instanceMethod yX11_ageOf ∈ tG ∧ Cond.selects yX11_ageOf.cls yX11_ageOf yX11_ageOf ∈ tG ∧ Cond.initialized yX11_ageOf.cls ∈ tG ∧ Cond.code yX11_ageOf cX11_ageOf 3 (some .int) ∈ tG ∧ (yX11_ageOf.cls ≠ "java/lang/invoke/MethodHandle" ∧ yX11_ageOf.cls ≠ "java/lang/invoke/VarHandle" ∧ (parseMethodDescriptor yX11_ageOf.desc).map (fun d => d.parameters.length) = some 1) ∧ 3 ≤ 60 := ⟨(tG_of (tb7 (List.mem_of_getElem? (i := 86) rfl)) (by decide +kernel)), (tG_of (List.mem_of_getElem? (i := 92) (by decide +kernel)) (by decide +kernel)), (tG_of (tb1 (List.mem_of_getElem? (i := 12) rfl)) (by decide +kernel)), (tG_of (tb7 (List.mem_of_getElem? (i := 87) rfl)) (by decide +kernel)), ⟨by decide, by decide, by decide +kernel⟩, by decide⟩
set_option maxRecDepth 100000 in
theorem mv_X11_363 : mV RX11 363 mX11_ageOf 1 := ⟨(tG_of (tb7 (List.mem_of_getElem? (i := 84) rfl)) (by decide +kernel)), mi_X11_ageOf⟩
theorem dX11_ageOf_0 : decode cX11_ageOf 0 = .ok (.bipush 9, 2) := dc_16 (byA eNcX11_ageOf (p := 0) (v := 16) (by decide +kernel)) (byA eNcX11_ageOf (p := 1) (v := 9) (by decide +kernel)) (by decide +kernel)
theorem dX11_ageOf_2 : decode cX11_ageOf 2 = .ok (.istore_n 2, 1) := dc_61 (byA eNcX11_ageOf (p := 2) (v := 61) (by decide +kernel))
theorem dX11_ageOf_3 : decode cX11_ageOf 3 = .ok (.iload_n 2, 1) := dc_28 (byA eNcX11_ageOf (p := 3) (v := 28) (by decide +kernel))
theorem dX11_ageOf_4 : decode cX11_ageOf 4 = .ok (.ifCond .le 34, 3) := dc_158 (byA eNcX11_ageOf (p := 4) (v := 158) (by decide +kernel)) (byA eNcX11_ageOf (p := 5) (v := 0) (by decide +kernel)) (byA eNcX11_ageOf (p := 6) (v := 34) (by decide +kernel)) (by decide +kernel)
theorem dX11_ageOf_7 : decode cX11_ageOf 7 = .ok (.aload_n 0, 1) := dc_42 (byA eNcX11_ageOf (p := 7) (v := 42) (by decide +kernel))
theorem dX11_ageOf_8 : decode cX11_ageOf 8 = .ok (.iload_n 1, 1) := dc_27 (byA eNcX11_ageOf (p := 8) (v := 27) (by decide +kernel))
theorem dX11_ageOf_9 : decode cX11_ageOf 9 = .ok (.aload_n 0, 1) := dc_42 (byA eNcX11_ageOf (p := 9) (v := 42) (by decide +kernel))
theorem dX11_ageOf_10 : decode cX11_ageOf 10 = .ok (.iconst 2, 1) := dc_5 (byA eNcX11_ageOf (p := 10) (v := 5) (by decide +kernel))
theorem dX11_ageOf_11 : decode cX11_ageOf 11 = .ok (.invokevirtual 281, 3) := dc_182 (byA eNcX11_ageOf (p := 11) (v := 182) (by decide +kernel)) (byA eNcX11_ageOf (p := 12) (v := 1) (by decide +kernel)) (byA eNcX11_ageOf (p := 13) (v := 25) (by decide +kernel)) rfl
theorem dX11_ageOf_14 : decode cX11_ageOf 14 = .ok (.iload_n 2, 1) := dc_28 (byA eNcX11_ageOf (p := 14) (v := 28) (by decide +kernel))
theorem dX11_ageOf_15 : decode cX11_ageOf 15 = .ok (.invokevirtual 322, 3) := dc_182 (byA eNcX11_ageOf (p := 15) (v := 182) (by decide +kernel)) (byA eNcX11_ageOf (p := 16) (v := 1) (by decide +kernel)) (byA eNcX11_ageOf (p := 17) (v := 66) (by decide +kernel)) rfl
theorem dX11_ageOf_18 : decode cX11_ageOf 18 = .ok (.aload_n 0, 1) := dc_42 (byA eNcX11_ageOf (p := 18) (v := 42) (by decide +kernel))
theorem dX11_ageOf_19 : decode cX11_ageOf 19 = .ok (.iconst 2, 1) := dc_5 (byA eNcX11_ageOf (p := 19) (v := 5) (by decide +kernel))
theorem dX11_ageOf_20 : decode cX11_ageOf 20 = .ok (.aload_n 0, 1) := dc_42 (byA eNcX11_ageOf (p := 20) (v := 42) (by decide +kernel))
theorem dX11_ageOf_21 : decode cX11_ageOf 21 = .ok (.invokevirtual 357, 3) := dc_182 (byA eNcX11_ageOf (p := 21) (v := 182) (by decide +kernel)) (byA eNcX11_ageOf (p := 22) (v := 1) (by decide +kernel)) (byA eNcX11_ageOf (p := 23) (v := 101) (by decide +kernel)) rfl
theorem dX11_ageOf_24 : decode cX11_ageOf 24 = .ok (.invokevirtual 360, 3) := dc_182 (byA eNcX11_ageOf (p := 24) (v := 182) (by decide +kernel)) (byA eNcX11_ageOf (p := 25) (v := 1) (by decide +kernel)) (byA eNcX11_ageOf (p := 26) (v := 104) (by decide +kernel)) rfl
theorem dX11_ageOf_27 : decode cX11_ageOf 27 = .ok (.ifCond .ne 5, 3) := dc_154 (byA eNcX11_ageOf (p := 27) (v := 154) (by decide +kernel)) (byA eNcX11_ageOf (p := 28) (v := 0) (by decide +kernel)) (byA eNcX11_ageOf (p := 29) (v := 5) (by decide +kernel)) (by decide +kernel)
theorem dX11_ageOf_30 : decode cX11_ageOf 30 = .ok (.iload_n 2, 1) := dc_28 (byA eNcX11_ageOf (p := 30) (v := 28) (by decide +kernel))
theorem dX11_ageOf_31 : decode cX11_ageOf 31 = .ok (.ireturn, 1) := dc_172 (byA eNcX11_ageOf (p := 31) (v := 172) (by decide +kernel))
theorem dX11_ageOf_32 : decode cX11_ageOf 32 = .ok (.iinc 2 (-1), 3) := dc_132 (byA eNcX11_ageOf (p := 32) (v := 132) (by decide +kernel)) (byA eNcX11_ageOf (p := 33) (v := 2) (by decide +kernel)) (byA eNcX11_ageOf (p := 34) (v := 255) (by decide +kernel)) (by decide +kernel)
theorem dX11_ageOf_35 : decode cX11_ageOf 35 = .ok (.goto (-32), 3) := dc_167 (byA eNcX11_ageOf (p := 35) (v := 167) (by decide +kernel)) (byA eNcX11_ageOf (p := 36) (v := 255) (by decide +kernel)) (byA eNcX11_ageOf (p := 37) (v := 224) (by decide +kernel)) (by decide +kernel)
theorem dX11_ageOf_38 : decode cX11_ageOf 38 = .ok (.iconst 0, 1) := dc_3 (byA eNcX11_ageOf (p := 38) (v := 3) (by decide +kernel))
theorem dX11_ageOf_39 : decode cX11_ageOf 39 = .ok (.ireturn, 1) := dc_172 (byA eNcX11_ageOf (p := 39) (v := 172) (by decide +kernel))
def X11_ageOf_L3 (l1 : Int) : Nat → Int → Mm → Rs
  | 0, _, _ => none
  | n + 1, l2, μ => if l2 ≤ 0 then (some (0, μ)) else (bd (X11_placeOf 2 μ) fun v2 μ3 => bd (X11_lay l1 v2 l2 μ3) fun v5 μ6 => bd (X11_all μ6) fun v8 μ9 => bd (X11_leastOf 2 v8 μ9) fun v11 μ12 => if v11 = 0 then (some (l2, μ12)) else (X11_ageOf_L3 l1 n (iA l2 (-1)) μ12))
def X11_ageOf (l1 : Int) (μ : Mm) : Rs := X11_ageOf_L3 l1 FU 9 μ
set_option maxHeartbeats 4000000 in
set_option maxRecDepth 100000 in
theorem kX11_ageOf_L3 (d : Nat) (hd : 134 ≤ d) {l1 : Int} {r : Int} {μ' : Mm} : ∀ (n : Nat) {l2 : Int} {μ : Mm}, X11_ageOf_L3 l1 n l2 μ = some (r, μ') → VV d mX11_ageOf 3 [some (vR 70), some (vI l1), some (vI l2)] [] μ r μ' := by
  intro n
  induction n with
  | zero => intro l2 μ h; rw [X11_ageOf_L3] at h; cases h
  | succ n ih =>
    intro l2 μ h
    rw [X11_ageOf_L3] at h
    refine V_iload_n (q := 4) dX11_ageOf_3 rfl rfl rfl ?_
    refine V_ifle (q := 38) (q2 := 7) dX11_ageOf_4 (by decide) rfl (fun hc1 => ?_) (fun hc1 => ?_)
    · have h := ifT hc1 h
      refine V_iconst (q := 39) dX11_ageOf_38 rfl rfl ?_
      exact V_iret rfl h dX11_ageOf_39
    · have h := ifF hc1 h
      refine V_aload_n (q := 8) dX11_ageOf_7 rfl rfl rfl ?_
      refine V_iload_n (q := 9) dX11_ageOf_8 rfl rfl rfl ?_
      refine V_aload_n (q := 10) dX11_ageOf_9 rfl rfl rfl ?_
      refine V_iconst (q := 11) dX11_ageOf_10 rfl rfl ?_
      obtain ⟨v2, μ3, hc4, h⟩ := bd_i h
      refine V_cV1 (q := 14) (v := vI v2) (kX11_placeOf (d - 1) (by omega) hc4) (by omega) mv_X11_281 rfl rfl rfl rfl rfl rfl dX11_ageOf_11 rfl ?_
      refine V_iload_n (q := 15) dX11_ageOf_14 rfl rfl rfl ?_
      obtain ⟨v5, μ6, hc7, h⟩ := bd_i h
      refine V_cV0 (q := 18) (kX11_lay (d - 1) (by omega) hc7) (by omega) mv_X11_322 rfl rfl rfl rfl rfl rfl dX11_ageOf_15 rfl ?_
      refine V_aload_n (q := 19) dX11_ageOf_18 rfl rfl rfl ?_
      refine V_iconst (q := 20) dX11_ageOf_19 rfl rfl ?_
      refine V_aload_n (q := 21) dX11_ageOf_20 rfl rfl rfl ?_
      obtain ⟨v8, μ9, hc10, h⟩ := bd_i h
      refine V_cV1 (q := 24) (v := vI v8) (kX11_all (d - 1) (by omega) hc10) (by omega) mv_X11_357 rfl rfl rfl rfl rfl rfl dX11_ageOf_21 rfl ?_
      obtain ⟨v11, μ12, hc13, h⟩ := bd_i h
      refine V_cV1 (q := 27) (v := vI v11) (kX11_leastOf (d - 1) (by omega) hc13) (by omega) mv_X11_360 rfl rfl rfl rfl rfl rfl dX11_ageOf_24 rfl ?_
      refine V_ifne (q := 32) (q2 := 30) dX11_ageOf_27 (by decide) rfl (fun hc14 => ?_) (fun hc14 => ?_)
      · have h := ifF hc14 h
        refine V_iinc (q := 35) dX11_ageOf_32 rfl (Nat.le_of_ble_eq_true rfl) trivial rfl ?_
        refine V_goto (q := 3) dX11_ageOf_35 (by decide) ?_
        exact V_weak (ih h) (sb_s rfl (sb_s rfl (sb_s rfl sb_0)))
      · have h := ifT hc14 h
        refine V_iload_n (q := 31) dX11_ageOf_30 rfl rfl rfl ?_
        exact V_iret rfl h dX11_ageOf_31
set_option maxHeartbeats 4000000 in
set_option maxRecDepth 100000 in
theorem kX11_ageOf (d : Nat) (hd : 134 ≤ d) {l1 : Int} {μ : Mm} {r : Int} {μ' : Mm} (h : X11_ageOf l1 μ = some (r, μ')) : CC d mX11_ageOf [vR 70, vI l1] μ r μ' := by
  unfold X11_ageOf at h
  refine V_enter (by decide) (Nat.le_of_ble_eq_true rfl) ?_
  show VV d mX11_ageOf 0 [some (vR 70), some (vI l1), none] [] μ r μ'
  refine V_bipush (q := 2) dX11_ageOf_0 rfl rfl rfl ?_
  refine V_istore_n (q := 3) dX11_ageOf_2 rfl (Nat.le_of_ble_eq_true rfl) trivial rfl ?_
  exact V_weak (kX11_ageOf_L3 d hd  FU h) (sb_s rfl (sb_s rfl (sb_s rfl sb_0)))
abbrev mX11_age : Mth := (yX11_age, cX11_age, 2, some .int)
set_option maxRecDepth 100000 in
theorem mi_X11_age : Cond.instanceMethod yX11_age ∈ tG ∧ Cond.selects yX11_age.cls yX11_age yX11_age ∈ tG ∧ Cond.initialized yX11_age.cls ∈ tG ∧ Cond.code yX11_age cX11_age 2 (some .int) ∈ tG ∧ (yX11_age.cls ≠ "java/lang/invoke/MethodHandle" ∧ yX11_age.cls ≠ "java/lang/invoke/VarHandle" ∧ (parseMethodDescriptor yX11_age.desc).map (fun d => d.parameters.length) = some 1) ∧ 2 ≤ 60 := ⟨(tG_of (tb7 (List.mem_of_getElem? (i := 81) rfl)) (by decide +kernel)), (tG_of (tb7 (List.mem_of_getElem? (i := 82) rfl)) (by decide +kernel)), (tG_of (tb1 (List.mem_of_getElem? (i := 12) rfl)) (by decide +kernel)), (tG_of (tb7 (List.mem_of_getElem? (i := 83) rfl)) (by decide +kernel)), ⟨by decide, by decide, by decide +kernel⟩, by decide⟩
theorem dX11_age_0 : decode cX11_age 0 = .ok (.aload_n 0, 1) := dc_42 (byA eNcX11_age (p := 0) (v := 42) (by decide +kernel))
theorem dX11_age_1 : decode cX11_age 1 = .ok (.iload_n 1, 1) := dc_27 (byA eNcX11_age (p := 1) (v := 27) (by decide +kernel))
theorem dX11_age_2 : decode cX11_age 2 = .ok (.invokevirtual 335, 3) := dc_182 (byA eNcX11_age (p := 2) (v := 182) (by decide +kernel)) (byA eNcX11_age (p := 3) (v := 1) (by decide +kernel)) (byA eNcX11_age (p := 4) (v := 79) (by decide +kernel)) rfl
theorem dX11_age_5 : decode cX11_age 5 = .ok (.ifCond .eq 11, 3) := dc_153 (byA eNcX11_age (p := 5) (v := 153) (by decide +kernel)) (byA eNcX11_age (p := 6) (v := 0) (by decide +kernel)) (byA eNcX11_age (p := 7) (v := 11) (by decide +kernel)) (by decide +kernel)
theorem dX11_age_8 : decode cX11_age 8 = .ok (.aload_n 0, 1) := dc_42 (byA eNcX11_age (p := 8) (v := 42) (by decide +kernel))
theorem dX11_age_9 : decode cX11_age 9 = .ok (.iload_n 1, 1) := dc_27 (byA eNcX11_age (p := 9) (v := 27) (by decide +kernel))
theorem dX11_age_10 : decode cX11_age 10 = .ok (.invokevirtual 363, 3) := dc_182 (byA eNcX11_age (p := 10) (v := 182) (by decide +kernel)) (byA eNcX11_age (p := 11) (v := 1) (by decide +kernel)) (byA eNcX11_age (p := 12) (v := 107) (by decide +kernel)) rfl
theorem dX11_age_13 : decode cX11_age 13 = .ok (.goto 4, 3) := dc_167 (byA eNcX11_age (p := 13) (v := 167) (by decide +kernel)) (byA eNcX11_age (p := 14) (v := 0) (by decide +kernel)) (byA eNcX11_age (p := 15) (v := 4) (by decide +kernel)) (by decide +kernel)
theorem dX11_age_16 : decode cX11_age 16 = .ok (.iconst (-1), 1) := dc_2 (byA eNcX11_age (p := 16) (v := 2) (by decide +kernel))
theorem dX11_age_17 : decode cX11_age 17 = .ok (.ireturn, 1) := dc_172 (byA eNcX11_age (p := 17) (v := 172) (by decide +kernel))
def X11_age (l1 : Int) (μ : Mm) : Rs := bd (X11_isReady l1 μ) fun v1 μ2 => if v1 = 0 then (some ((-1), μ2)) else (bd (X11_ageOf l1 μ2) fun v5 μ6 => some (v5, μ6))
set_option maxHeartbeats 4000000 in
set_option maxRecDepth 100000 in
theorem kX11_age (d : Nat) (hd : 135 ≤ d) {l1 : Int} {μ : Mm} {r : Int} {μ' : Mm} (h : X11_age l1 μ = some (r, μ')) : CC d mX11_age [vR 70, vI l1] μ r μ' := by
  unfold X11_age at h
  refine V_enter (by decide) (Nat.le_of_ble_eq_true rfl) ?_
  show VV d mX11_age 0 [some (vR 70), some (vI l1)] [] μ r μ'
  refine V_aload_n (q := 1) dX11_age_0 rfl rfl rfl ?_
  refine V_iload_n (q := 2) dX11_age_1 rfl rfl rfl ?_
  obtain ⟨v1, μ2, hc3, h⟩ := bd_i h
  refine V_cV1 (q := 5) (v := vI v1) (kX11_isReady (d - 1) (by omega) hc3) (by omega) mv_X11_335 rfl rfl rfl rfl rfl rfl dX11_age_2 rfl ?_
  refine V_ifeq (q := 16) (q2 := 8) dX11_age_5 (by decide) rfl (fun hc4 => ?_) (fun hc4 => ?_)
  · have h := ifT hc4 h
    refine V_iconst (q := 17) dX11_age_16 rfl rfl ?_
    exact V_iret rfl h dX11_age_17
  · have h := ifF hc4 h
    refine V_aload_n (q := 9) dX11_age_8 rfl rfl rfl ?_
    refine V_iload_n (q := 10) dX11_age_9 rfl rfl rfl ?_
    obtain ⟨v5, μ6, hc7, h⟩ := bd_i h
    refine V_cV1 (q := 13) (v := vI v5) (kX11_ageOf (d - 1) (by omega) hc7) (by omega) mv_X11_363 rfl rfl rfl rfl rfl rfl dX11_age_10 rfl ?_
    refine V_goto (q := 17) dX11_age_13 (by decide) ?_
    exact V_iret rfl h dX11_age_17
abbrev mX11_first : Mth := (yX11_first, cX11_first, 5, some .int)
set_option maxRecDepth 100000 in
theorem mi_X11_first : Cond.instanceMethod yX11_first ∈ tG ∧ Cond.selects yX11_first.cls yX11_first yX11_first ∈ tG ∧ Cond.initialized yX11_first.cls ∈ tG ∧ Cond.code yX11_first cX11_first 5 (some .int) ∈ tG ∧ (yX11_first.cls ≠ "java/lang/invoke/MethodHandle" ∧ yX11_first.cls ≠ "java/lang/invoke/VarHandle" ∧ (parseMethodDescriptor yX11_first.desc).map (fun d => d.parameters.length) = some 0) ∧ 5 ≤ 60 := ⟨(tG_of (tb7 (List.mem_of_getElem? (i := 89) rfl)) (by decide +kernel)), (tG_of (tb7 (List.mem_of_getElem? (i := 90) rfl)) (by decide +kernel)), (tG_of (tb1 (List.mem_of_getElem? (i := 12) rfl)) (by decide +kernel)), (tG_of (tb7 (List.mem_of_getElem? (i := 91) rfl)) (by decide +kernel)), ⟨by decide, by decide, by decide +kernel⟩, by decide⟩
theorem dX11_first_0 : decode cX11_first 0 = .ok (.iconst (-1), 1) := dc_2 (byA eNcX11_first (p := 0) (v := 2) (by decide +kernel))
theorem dX11_first_1 : decode cX11_first 1 = .ok (.istore_n 1, 1) := dc_60 (byA eNcX11_first (p := 1) (v := 60) (by decide +kernel))
theorem dX11_first_2 : decode cX11_first 2 = .ok (.iconst 0, 1) := dc_3 (byA eNcX11_first (p := 2) (v := 3) (by decide +kernel))
theorem dX11_first_3 : decode cX11_first 3 = .ok (.istore_n 2, 1) := dc_61 (byA eNcX11_first (p := 3) (v := 61) (by decide +kernel))
theorem dX11_first_4 : decode cX11_first 4 = .ok (.iconst 0, 1) := dc_3 (byA eNcX11_first (p := 4) (v := 3) (by decide +kernel))
theorem dX11_first_5 : decode cX11_first 5 = .ok (.istore_n 3, 1) := dc_62 (byA eNcX11_first (p := 5) (v := 62) (by decide +kernel))
theorem dX11_first_6 : decode cX11_first 6 = .ok (.iload_n 3, 1) := dc_29 (byA eNcX11_first (p := 6) (v := 29) (by decide +kernel))
theorem dX11_first_7 : decode cX11_first 7 = .ok (.aload_n 0, 1) := dc_42 (byA eNcX11_first (p := 7) (v := 42) (by decide +kernel))
theorem dX11_first_8 : decode cX11_first 8 = .ok (.getfield 275, 3) := dc_180 (byA eNcX11_first (p := 8) (v := 180) (by decide +kernel)) (byA eNcX11_first (p := 9) (v := 1) (by decide +kernel)) (byA eNcX11_first (p := 10) (v := 19) (by decide +kernel)) rfl
theorem dX11_first_11 : decode cX11_first 11 = .ok (.if_icmp .ge 45, 3) := dc_162 (byA eNcX11_first (p := 11) (v := 162) (by decide +kernel)) (byA eNcX11_first (p := 12) (v := 0) (by decide +kernel)) (byA eNcX11_first (p := 13) (v := 45) (by decide +kernel)) (by decide +kernel)
theorem dX11_first_14 : decode cX11_first 14 = .ok (.aload_n 0, 1) := dc_42 (byA eNcX11_first (p := 14) (v := 42) (by decide +kernel))
theorem dX11_first_15 : decode cX11_first 15 = .ok (.getfield 252, 3) := dc_180 (byA eNcX11_first (p := 15) (v := 180) (by decide +kernel)) (byA eNcX11_first (p := 16) (v := 0) (by decide +kernel)) (byA eNcX11_first (p := 17) (v := 252) (by decide +kernel)) rfl
theorem dX11_first_18 : decode cX11_first 18 = .ok (.ifCond .le 38, 3) := dc_158 (byA eNcX11_first (p := 18) (v := 158) (by decide +kernel)) (byA eNcX11_first (p := 19) (v := 0) (by decide +kernel)) (byA eNcX11_first (p := 20) (v := 38) (by decide +kernel)) (by decide +kernel)
theorem dX11_first_21 : decode cX11_first 21 = .ok (.aload_n 0, 1) := dc_42 (byA eNcX11_first (p := 21) (v := 42) (by decide +kernel))
theorem dX11_first_22 : decode cX11_first 22 = .ok (.iload_n 3, 1) := dc_29 (byA eNcX11_first (p := 22) (v := 29) (by decide +kernel))
theorem dX11_first_23 : decode cX11_first 23 = .ok (.invokevirtual 335, 3) := dc_182 (byA eNcX11_first (p := 23) (v := 182) (by decide +kernel)) (byA eNcX11_first (p := 24) (v := 1) (by decide +kernel)) (byA eNcX11_first (p := 25) (v := 79) (by decide +kernel)) rfl
theorem dX11_first_26 : decode cX11_first 26 = .ok (.pop, 1) := dc_87 (byA eNcX11_first (p := 26) (v := 87) (by decide +kernel))
theorem dX11_first_27 : decode cX11_first 27 = .ok (.aload_n 0, 1) := dc_42 (byA eNcX11_first (p := 27) (v := 42) (by decide +kernel))
theorem dX11_first_28 : decode cX11_first 28 = .ok (.iload_n 3, 1) := dc_29 (byA eNcX11_first (p := 28) (v := 29) (by decide +kernel))
theorem dX11_first_29 : decode cX11_first 29 = .ok (.invokevirtual 363, 3) := dc_182 (byA eNcX11_first (p := 29) (v := 182) (by decide +kernel)) (byA eNcX11_first (p := 30) (v := 1) (by decide +kernel)) (byA eNcX11_first (p := 31) (v := 107) (by decide +kernel)) rfl
theorem dX11_first_32 : decode cX11_first 32 = .ok (.istore 4, 2) := dc_54 (byA eNcX11_first (p := 32) (v := 54) (by decide +kernel)) (byA eNcX11_first (p := 33) (v := 4) (by decide +kernel))
theorem dX11_first_34 : decode cX11_first 34 = .ok (.iload_n 1, 1) := dc_27 (byA eNcX11_first (p := 34) (v := 27) (by decide +kernel))
theorem dX11_first_35 : decode cX11_first 35 = .ok (.iconst (-1), 1) := dc_2 (byA eNcX11_first (p := 35) (v := 2) (by decide +kernel))
theorem dX11_first_36 : decode cX11_first 36 = .ok (.if_icmp .eq 9, 3) := dc_159 (byA eNcX11_first (p := 36) (v := 159) (by decide +kernel)) (byA eNcX11_first (p := 37) (v := 0) (by decide +kernel)) (byA eNcX11_first (p := 38) (v := 9) (by decide +kernel)) (by decide +kernel)
theorem dX11_first_39 : decode cX11_first 39 = .ok (.iload 4, 2) := dc_21 (byA eNcX11_first (p := 39) (v := 21) (by decide +kernel)) (byA eNcX11_first (p := 40) (v := 4) (by decide +kernel))
theorem dX11_first_41 : decode cX11_first 41 = .ok (.iload_n 2, 1) := dc_28 (byA eNcX11_first (p := 41) (v := 28) (by decide +kernel))
theorem dX11_first_42 : decode cX11_first 42 = .ok (.if_icmp .ge 8, 3) := dc_162 (byA eNcX11_first (p := 42) (v := 162) (by decide +kernel)) (byA eNcX11_first (p := 43) (v := 0) (by decide +kernel)) (byA eNcX11_first (p := 44) (v := 8) (by decide +kernel)) (by decide +kernel)
theorem dX11_first_45 : decode cX11_first 45 = .ok (.iload_n 3, 1) := dc_29 (byA eNcX11_first (p := 45) (v := 29) (by decide +kernel))
theorem dX11_first_46 : decode cX11_first 46 = .ok (.istore_n 1, 1) := dc_60 (byA eNcX11_first (p := 46) (v := 60) (by decide +kernel))
theorem dX11_first_47 : decode cX11_first 47 = .ok (.iload 4, 2) := dc_21 (byA eNcX11_first (p := 47) (v := 21) (by decide +kernel)) (byA eNcX11_first (p := 48) (v := 4) (by decide +kernel))
theorem dX11_first_49 : decode cX11_first 49 = .ok (.istore_n 2, 1) := dc_61 (byA eNcX11_first (p := 49) (v := 61) (by decide +kernel))
theorem dX11_first_50 : decode cX11_first 50 = .ok (.iinc 3 1, 3) := dc_132 (byA eNcX11_first (p := 50) (v := 132) (by decide +kernel)) (byA eNcX11_first (p := 51) (v := 3) (by decide +kernel)) (byA eNcX11_first (p := 52) (v := 1) (by decide +kernel)) (by decide +kernel)
theorem dX11_first_53 : decode cX11_first 53 = .ok (.goto (-47), 3) := dc_167 (byA eNcX11_first (p := 53) (v := 167) (by decide +kernel)) (byA eNcX11_first (p := 54) (v := 255) (by decide +kernel)) (byA eNcX11_first (p := 55) (v := 209) (by decide +kernel)) (by decide +kernel)
theorem dX11_first_56 : decode cX11_first 56 = .ok (.iload_n 1, 1) := dc_27 (byA eNcX11_first (p := 56) (v := 27) (by decide +kernel))
theorem dX11_first_57 : decode cX11_first 57 = .ok (.ireturn, 1) := dc_172 (byA eNcX11_first (p := 57) (v := 172) (by decide +kernel))
def X11_first_L6 : Nat → Int → Int → Int → Mm → Rs
  | 0, _, _, _, _ => none
  | n + 1, l1, l2, l3, μ => if (μ 70 28) ≤ l3 then (some (l1, μ)) else (if (μ 70 23) ≤ 0 then (some (l1, μ)) else (bd (X11_isReady l3 μ) fun v3 μ4 => bd (X11_ageOf l3 μ4) fun v6 μ7 => if l1 = (-1) then (X11_first_L6 n l3 v6 (iA l3 1) μ7) else (if l2 ≤ v6 then (X11_first_L6 n l1 l2 (iA l3 1) μ7) else (X11_first_L6 n l3 v6 (iA l3 1) μ7))))
def X11_first (μ : Mm) : Rs := X11_first_L6 FU (-1) 0 0 μ
set_option maxHeartbeats 4000000 in
set_option maxRecDepth 100000 in
theorem kX11_first_L6 (d : Nat) (hd : 135 ≤ d) {r : Int} {μ' : Mm} : ∀ (n : Nat) {l1 l2 l3 : Int} {μ : Mm}, X11_first_L6 n l1 l2 l3 μ = some (r, μ') → VV d mX11_first 6 [some (vR 70), some (vI l1), some (vI l2), some (vI l3), none] [] μ r μ' := by
  intro n
  induction n with
  | zero => intro l1 l2 l3 μ h; rw [X11_first_L6] at h; cases h
  | succ n ih =>
    intro l1 l2 l3 μ h
    rw [X11_first_L6] at h
    refine V_iload_n (q := 7) dX11_first_6 rfl rfl rfl ?_
    refine V_aload_n (q := 8) dX11_first_7 rfl rfl rfl ?_
    refine V_getI (q := 11) fl_X11_275 rfl rfl rfl dX11_first_8 rfl ?_
    refine V_icmpge (q := 56) (q2 := 14) dX11_first_11 (by decide) rfl (fun hc1 => ?_) (fun hc1 => ?_)
    · have h := ifT hc1 h
      refine V_iload_n (q := 57) dX11_first_56 rfl rfl rfl ?_
      exact V_iret rfl h dX11_first_57
    · have h := ifF hc1 h
      refine V_aload_n (q := 15) dX11_first_14 rfl rfl rfl ?_
      refine V_getI (q := 18) fl_X11_252 rfl rfl rfl dX11_first_15 rfl ?_
      refine V_ifle (q := 56) (q2 := 21) dX11_first_18 (by decide) rfl (fun hc2 => ?_) (fun hc2 => ?_)
      · have h := ifT hc2 h
        refine V_iload_n (q := 57) dX11_first_56 rfl rfl rfl ?_
        exact V_iret rfl h dX11_first_57
      · have h := ifF hc2 h
        refine V_aload_n (q := 22) dX11_first_21 rfl rfl rfl ?_
        refine V_iload_n (q := 23) dX11_first_22 rfl rfl rfl ?_
        obtain ⟨v3, μ4, hc5, h⟩ := bd_i h
        refine V_cV1 (q := 26) (v := vI v3) (kX11_isReady (d - 1) (by omega) hc5) (by omega) mv_X11_335 rfl rfl rfl rfl rfl rfl dX11_first_23 rfl ?_
        refine V_pop (q := 27) dX11_first_26 trivial rfl ?_
        refine V_aload_n (q := 28) dX11_first_27 rfl rfl rfl ?_
        refine V_iload_n (q := 29) dX11_first_28 rfl rfl rfl ?_
        obtain ⟨v6, μ7, hc8, h⟩ := bd_i h
        refine V_cV1 (q := 32) (v := vI v6) (kX11_ageOf (d - 1) (by omega) hc8) (by omega) mv_X11_363 rfl rfl rfl rfl rfl rfl dX11_first_29 rfl ?_
        refine V_istore (q := 34) dX11_first_32 (Nat.le_of_ble_eq_true rfl) trivial rfl ?_
        refine V_iload_n (q := 35) dX11_first_34 rfl rfl rfl ?_
        refine V_iconst (q := 36) dX11_first_35 rfl rfl ?_
        refine V_icmpeq (q := 45) (q2 := 39) dX11_first_36 (by decide) rfl (fun hc9 => ?_) (fun hc9 => ?_)
        · have h := ifT hc9 h
          refine V_iload_n (q := 46) dX11_first_45 rfl rfl rfl ?_
          refine V_istore_n (q := 47) dX11_first_46 rfl (Nat.le_of_ble_eq_true rfl) trivial rfl ?_
          refine V_iload (q := 49) dX11_first_47 rfl rfl ?_
          refine V_istore_n (q := 50) dX11_first_49 rfl (Nat.le_of_ble_eq_true rfl) trivial rfl ?_
          refine V_iinc (q := 53) dX11_first_50 rfl (Nat.le_of_ble_eq_true rfl) trivial rfl ?_
          refine V_goto (q := 6) dX11_first_53 (by decide) ?_
          exact V_weak (ih h) (sb_s rfl (sb_s rfl (sb_s rfl (sb_s rfl (sb_n sb_0)))))
        · have h := ifF hc9 h
          refine V_iload (q := 41) dX11_first_39 rfl rfl ?_
          refine V_iload_n (q := 42) dX11_first_41 rfl rfl rfl ?_
          refine V_icmpge (q := 50) (q2 := 45) dX11_first_42 (by decide) rfl (fun hc10 => ?_) (fun hc10 => ?_)
          · have h := ifT hc10 h
            refine V_iinc (q := 53) dX11_first_50 rfl (Nat.le_of_ble_eq_true rfl) trivial rfl ?_
            refine V_goto (q := 6) dX11_first_53 (by decide) ?_
            exact V_weak (ih h) (sb_s rfl (sb_s rfl (sb_s rfl (sb_s rfl (sb_n sb_0)))))
          · have h := ifF hc10 h
            refine V_iload_n (q := 46) dX11_first_45 rfl rfl rfl ?_
            refine V_istore_n (q := 47) dX11_first_46 rfl (Nat.le_of_ble_eq_true rfl) trivial rfl ?_
            refine V_iload (q := 49) dX11_first_47 rfl rfl ?_
            refine V_istore_n (q := 50) dX11_first_49 rfl (Nat.le_of_ble_eq_true rfl) trivial rfl ?_
            refine V_iinc (q := 53) dX11_first_50 rfl (Nat.le_of_ble_eq_true rfl) trivial rfl ?_
            refine V_goto (q := 6) dX11_first_53 (by decide) ?_
            exact V_weak (ih h) (sb_s rfl (sb_s rfl (sb_s rfl (sb_s rfl (sb_n sb_0)))))
set_option maxHeartbeats 4000000 in
set_option maxRecDepth 100000 in
theorem kX11_first (d : Nat) (hd : 135 ≤ d) {μ : Mm} {r : Int} {μ' : Mm} (h : X11_first μ = some (r, μ')) : CC d mX11_first [vR 70] μ r μ' := by
  unfold X11_first at h
  refine V_enter (by decide) (Nat.le_of_ble_eq_true rfl) ?_
  show VV d mX11_first 0 [some (vR 70), none, none, none, none] [] μ r μ'
  refine V_iconst (q := 1) dX11_first_0 rfl rfl ?_
  refine V_istore_n (q := 2) dX11_first_1 rfl (Nat.le_of_ble_eq_true rfl) trivial rfl ?_
  refine V_iconst (q := 3) dX11_first_2 rfl rfl ?_
  refine V_istore_n (q := 4) dX11_first_3 rfl (Nat.le_of_ble_eq_true rfl) trivial rfl ?_
  refine V_iconst (q := 5) dX11_first_4 rfl rfl ?_
  refine V_istore_n (q := 6) dX11_first_5 rfl (Nat.le_of_ble_eq_true rfl) trivial rfl ?_
  exact V_weak (kX11_first_L6 d hd  FU h) (sb_s rfl (sb_s rfl (sb_s rfl (sb_s rfl (sb_n sb_0)))))
abbrev mX11_leastNow : Mth := (yX11_leastNow, cX11_leastNow, 2, some .int)
set_option maxRecDepth 100000 in
theorem mi_X11_leastNow : Cond.instanceMethod yX11_leastNow ∈ tG ∧ Cond.selects yX11_leastNow.cls yX11_leastNow yX11_leastNow ∈ tG ∧ Cond.initialized yX11_leastNow.cls ∈ tG ∧ Cond.code yX11_leastNow cX11_leastNow 2 (some .int) ∈ tG ∧ (yX11_leastNow.cls ≠ "java/lang/invoke/MethodHandle" ∧ yX11_leastNow.cls ≠ "java/lang/invoke/VarHandle" ∧ (parseMethodDescriptor yX11_leastNow.desc).map (fun d => d.parameters.length) = some 1) ∧ 2 ≤ 60 := ⟨(tG_of (tb7 (List.mem_of_getElem? (i := 98) rfl)) (by decide +kernel)), (tG_of (List.mem_of_getElem? (i := 93) (by decide +kernel)) (by decide +kernel)), (tG_of (tb1 (List.mem_of_getElem? (i := 12) rfl)) (by decide +kernel)), (tG_of (tb7 (List.mem_of_getElem? (i := 99) rfl)) (by decide +kernel)), ⟨by decide, by decide, by decide +kernel⟩, by decide⟩
set_option maxRecDepth 100000 in
theorem mv_X11_366 : mV RX11 366 mX11_leastNow 1 := ⟨(tG_of (tb7 (List.mem_of_getElem? (i := 96) rfl)) (by decide +kernel)), mi_X11_leastNow⟩
theorem dX11_leastNow_0 : decode cX11_leastNow 0 = .ok (.aload_n 0, 1) := dc_42 (byA eNcX11_leastNow (p := 0) (v := 42) (by decide +kernel))
theorem dX11_leastNow_1 : decode cX11_leastNow 1 = .ok (.iload_n 1, 1) := dc_27 (byA eNcX11_leastNow (p := 1) (v := 27) (by decide +kernel))
theorem dX11_leastNow_2 : decode cX11_leastNow 2 = .ok (.invokevirtual 335, 3) := dc_182 (byA eNcX11_leastNow (p := 2) (v := 182) (by decide +kernel)) (byA eNcX11_leastNow (p := 3) (v := 1) (by decide +kernel)) (byA eNcX11_leastNow (p := 4) (v := 79) (by decide +kernel)) rfl
theorem dX11_leastNow_5 : decode cX11_leastNow 5 = .ok (.pop, 1) := dc_87 (byA eNcX11_leastNow (p := 5) (v := 87) (by decide +kernel))
theorem dX11_leastNow_6 : decode cX11_leastNow 6 = .ok (.aload_n 0, 1) := dc_42 (byA eNcX11_leastNow (p := 6) (v := 42) (by decide +kernel))
theorem dX11_leastNow_7 : decode cX11_leastNow 7 = .ok (.iconst 0, 1) := dc_3 (byA eNcX11_leastNow (p := 7) (v := 3) (by decide +kernel))
theorem dX11_leastNow_8 : decode cX11_leastNow 8 = .ok (.aload_n 0, 1) := dc_42 (byA eNcX11_leastNow (p := 8) (v := 42) (by decide +kernel))
theorem dX11_leastNow_9 : decode cX11_leastNow 9 = .ok (.invokevirtual 357, 3) := dc_182 (byA eNcX11_leastNow (p := 9) (v := 182) (by decide +kernel)) (byA eNcX11_leastNow (p := 10) (v := 1) (by decide +kernel)) (byA eNcX11_leastNow (p := 11) (v := 101) (by decide +kernel)) rfl
theorem dX11_leastNow_12 : decode cX11_leastNow 12 = .ok (.invokevirtual 360, 3) := dc_182 (byA eNcX11_leastNow (p := 12) (v := 182) (by decide +kernel)) (byA eNcX11_leastNow (p := 13) (v := 1) (by decide +kernel)) (byA eNcX11_leastNow (p := 14) (v := 104) (by decide +kernel)) rfl
theorem dX11_leastNow_15 : decode cX11_leastNow 15 = .ok (.ireturn, 1) := dc_172 (byA eNcX11_leastNow (p := 15) (v := 172) (by decide +kernel))
def X11_leastNow (l1 : Int) (μ : Mm) : Rs := bd (X11_isReady l1 μ) fun v1 μ2 => bd (X11_all μ2) fun v4 μ5 => bd (X11_leastOf 0 v4 μ5) fun v7 μ8 => some (v7, μ8)
set_option maxHeartbeats 4000000 in
set_option maxRecDepth 100000 in
theorem kX11_leastNow (d : Nat) (hd : 134 ≤ d) {l1 : Int} {μ : Mm} {r : Int} {μ' : Mm} (h : X11_leastNow l1 μ = some (r, μ')) : CC d mX11_leastNow [vR 70, vI l1] μ r μ' := by
  unfold X11_leastNow at h
  refine V_enter (by decide) (Nat.le_of_ble_eq_true rfl) ?_
  show VV d mX11_leastNow 0 [some (vR 70), some (vI l1)] [] μ r μ'
  refine V_aload_n (q := 1) dX11_leastNow_0 rfl rfl rfl ?_
  refine V_iload_n (q := 2) dX11_leastNow_1 rfl rfl rfl ?_
  obtain ⟨v1, μ2, hc3, h⟩ := bd_i h
  refine V_cV1 (q := 5) (v := vI v1) (kX11_isReady (d - 1) (by omega) hc3) (by omega) mv_X11_335 rfl rfl rfl rfl rfl rfl dX11_leastNow_2 rfl ?_
  refine V_pop (q := 6) dX11_leastNow_5 trivial rfl ?_
  refine V_aload_n (q := 7) dX11_leastNow_6 rfl rfl rfl ?_
  refine V_iconst (q := 8) dX11_leastNow_7 rfl rfl ?_
  refine V_aload_n (q := 9) dX11_leastNow_8 rfl rfl rfl ?_
  obtain ⟨v4, μ5, hc6, h⟩ := bd_i h
  refine V_cV1 (q := 12) (v := vI v4) (kX11_all (d - 1) (by omega) hc6) (by omega) mv_X11_357 rfl rfl rfl rfl rfl rfl dX11_leastNow_9 rfl ?_
  obtain ⟨v7, μ8, hc9, h⟩ := bd_i h
  refine V_cV1 (q := 15) (v := vI v7) (kX11_leastOf (d - 1) (by omega) hc9) (by omega) mv_X11_360 rfl rfl rfl rfl rfl rfl dX11_leastNow_12 rfl ?_
  exact V_iret rfl h dX11_leastNow_15
abbrev mX11_post : Mth := (yX11_post, cX11_post, 7, some .int)
set_option maxRecDepth 100000 in
theorem mi_X11_post : Cond.instanceMethod yX11_post ∈ tG ∧ Cond.selects yX11_post.cls yX11_post yX11_post ∈ tG ∧ Cond.initialized yX11_post.cls ∈ tG ∧ Cond.code yX11_post cX11_post 7 (some .int) ∈ tG ∧ (yX11_post.cls ≠ "java/lang/invoke/MethodHandle" ∧ yX11_post.cls ≠ "java/lang/invoke/VarHandle" ∧ (parseMethodDescriptor yX11_post.desc).map (fun d => d.parameters.length) = some 2) ∧ 7 ≤ 60 := ⟨(tG_of (tb7 (List.mem_of_getElem? (i := 93) rfl)) (by decide +kernel)), (tG_of (tb7 (List.mem_of_getElem? (i := 94) rfl)) (by decide +kernel)), (tG_of (tb1 (List.mem_of_getElem? (i := 12) rfl)) (by decide +kernel)), (tG_of (tb7 (List.mem_of_getElem? (i := 95) rfl)) (by decide +kernel)), ⟨by decide, by decide, by decide +kernel⟩, by decide⟩
theorem dX11_post_0 : decode cX11_post 0 = .ok (.aload_n 0, 1) := dc_42 (byA eNcX11_post (p := 0) (v := 42) (by decide +kernel))
theorem dX11_post_1 : decode cX11_post 1 = .ok (.iload_n 1, 1) := dc_27 (byA eNcX11_post (p := 1) (v := 27) (by decide +kernel))
theorem dX11_post_2 : decode cX11_post 2 = .ok (.invokevirtual 335, 3) := dc_182 (byA eNcX11_post (p := 2) (v := 182) (by decide +kernel)) (byA eNcX11_post (p := 3) (v := 1) (by decide +kernel)) (byA eNcX11_post (p := 4) (v := 79) (by decide +kernel)) rfl
theorem dX11_post_5 : decode cX11_post 5 = .ok (.ifCond .eq 12, 3) := dc_153 (byA eNcX11_post (p := 5) (v := 153) (by decide +kernel)) (byA eNcX11_post (p := 6) (v := 0) (by decide +kernel)) (byA eNcX11_post (p := 7) (v := 12) (by decide +kernel)) (by decide +kernel)
theorem dX11_post_8 : decode cX11_post 8 = .ok (.iload_n 2, 1) := dc_28 (byA eNcX11_post (p := 8) (v := 28) (by decide +kernel))
theorem dX11_post_9 : decode cX11_post 9 = .ok (.iconst 0, 1) := dc_3 (byA eNcX11_post (p := 9) (v := 3) (by decide +kernel))
theorem dX11_post_10 : decode cX11_post 10 = .ok (.iconst 1, 1) := dc_4 (byA eNcX11_post (p := 10) (v := 4) (by decide +kernel))
theorem dX11_post_11 : decode cX11_post 11 = .ok (.invokestatic 213, 3) := dc_184 (byA eNcX11_post (p := 11) (v := 184) (by decide +kernel)) (byA eNcX11_post (p := 12) (v := 0) (by decide +kernel)) (byA eNcX11_post (p := 13) (v := 213) (by decide +kernel)) rfl
theorem dX11_post_14 : decode cX11_post 14 = .ok (.ifCond .ne 5, 3) := dc_154 (byA eNcX11_post (p := 14) (v := 154) (by decide +kernel)) (byA eNcX11_post (p := 15) (v := 0) (by decide +kernel)) (byA eNcX11_post (p := 16) (v := 5) (by decide +kernel)) (by decide +kernel)
theorem dX11_post_17 : decode cX11_post 17 = .ok (.iconst (-1), 1) := dc_2 (byA eNcX11_post (p := 17) (v := 2) (by decide +kernel))
theorem dX11_post_18 : decode cX11_post 18 = .ok (.ireturn, 1) := dc_172 (byA eNcX11_post (p := 18) (v := 172) (by decide +kernel))
theorem dX11_post_19 : decode cX11_post 19 = .ok (.iconst (-1), 1) := dc_2 (byA eNcX11_post (p := 19) (v := 2) (by decide +kernel))
theorem dX11_post_20 : decode cX11_post 20 = .ok (.istore_n 3, 1) := dc_62 (byA eNcX11_post (p := 20) (v := 62) (by decide +kernel))
theorem dX11_post_21 : decode cX11_post 21 = .ok (.iconst 0, 1) := dc_3 (byA eNcX11_post (p := 21) (v := 3) (by decide +kernel))
theorem dX11_post_22 : decode cX11_post 22 = .ok (.istore 4, 2) := dc_54 (byA eNcX11_post (p := 22) (v := 54) (by decide +kernel)) (byA eNcX11_post (p := 23) (v := 4) (by decide +kernel))
theorem dX11_post_24 : decode cX11_post 24 = .ok (.iconst 0, 1) := dc_3 (byA eNcX11_post (p := 24) (v := 3) (by decide +kernel))
theorem dX11_post_25 : decode cX11_post 25 = .ok (.istore 5, 2) := dc_54 (byA eNcX11_post (p := 25) (v := 54) (by decide +kernel)) (byA eNcX11_post (p := 26) (v := 5) (by decide +kernel))
theorem dX11_post_27 : decode cX11_post 27 = .ok (.iload 5, 2) := dc_21 (byA eNcX11_post (p := 27) (v := 21) (by decide +kernel)) (byA eNcX11_post (p := 28) (v := 5) (by decide +kernel))
theorem dX11_post_29 : decode cX11_post 29 = .ok (.bipush 60, 2) := dc_16 (byA eNcX11_post (p := 29) (v := 16) (by decide +kernel)) (byA eNcX11_post (p := 30) (v := 60) (by decide +kernel)) (by decide +kernel)
theorem dX11_post_31 : decode cX11_post 31 = .ok (.if_icmp .ge 77, 3) := dc_162 (byA eNcX11_post (p := 31) (v := 162) (by decide +kernel)) (byA eNcX11_post (p := 32) (v := 0) (by decide +kernel)) (byA eNcX11_post (p := 33) (v := 77) (by decide +kernel)) (by decide +kernel)
theorem dX11_post_34 : decode cX11_post 34 = .ok (.aload_n 0, 1) := dc_42 (byA eNcX11_post (p := 34) (v := 42) (by decide +kernel))
theorem dX11_post_35 : decode cX11_post 35 = .ok (.iload 5, 2) := dc_21 (byA eNcX11_post (p := 35) (v := 21) (by decide +kernel)) (byA eNcX11_post (p := 36) (v := 5) (by decide +kernel))
theorem dX11_post_37 : decode cX11_post 37 = .ok (.invokevirtual 258, 3) := dc_182 (byA eNcX11_post (p := 37) (v := 182) (by decide +kernel)) (byA eNcX11_post (p := 38) (v := 1) (by decide +kernel)) (byA eNcX11_post (p := 39) (v := 2) (by decide +kernel)) rfl
theorem dX11_post_40 : decode cX11_post 40 = .ok (.ifCond .eq 62, 3) := dc_153 (byA eNcX11_post (p := 40) (v := 153) (by decide +kernel)) (byA eNcX11_post (p := 41) (v := 0) (by decide +kernel)) (byA eNcX11_post (p := 42) (v := 62) (by decide +kernel)) (by decide +kernel)
theorem dX11_post_43 : decode cX11_post 43 = .ok (.aload_n 0, 1) := dc_42 (byA eNcX11_post (p := 43) (v := 42) (by decide +kernel))
theorem dX11_post_44 : decode cX11_post 44 = .ok (.getfield 43, 3) := dc_180 (byA eNcX11_post (p := 44) (v := 180) (by decide +kernel)) (byA eNcX11_post (p := 45) (v := 0) (by decide +kernel)) (byA eNcX11_post (p := 46) (v := 43) (by decide +kernel)) rfl
theorem dX11_post_47 : decode cX11_post 47 = .ok (.iload 5, 2) := dc_21 (byA eNcX11_post (p := 47) (v := 21) (by decide +kernel)) (byA eNcX11_post (p := 48) (v := 5) (by decide +kernel))
theorem dX11_post_49 : decode cX11_post 49 = .ok (.iaload, 1) := dc_46 (byA eNcX11_post (p := 49) (v := 46) (by decide +kernel))
theorem dX11_post_50 : decode cX11_post 50 = .ok (.iconst 1, 1) := dc_4 (byA eNcX11_post (p := 50) (v := 4) (by decide +kernel))
theorem dX11_post_51 : decode cX11_post 51 = .ok (.if_icmp .ne 51, 3) := dc_160 (byA eNcX11_post (p := 51) (v := 160) (by decide +kernel)) (byA eNcX11_post (p := 52) (v := 0) (by decide +kernel)) (byA eNcX11_post (p := 53) (v := 51) (by decide +kernel)) (by decide +kernel)
theorem dX11_post_54 : decode cX11_post 54 = .ok (.aload_n 0, 1) := dc_42 (byA eNcX11_post (p := 54) (v := 42) (by decide +kernel))
theorem dX11_post_55 : decode cX11_post 55 = .ok (.getfield 43, 3) := dc_180 (byA eNcX11_post (p := 55) (v := 180) (by decide +kernel)) (byA eNcX11_post (p := 56) (v := 0) (by decide +kernel)) (byA eNcX11_post (p := 57) (v := 43) (by decide +kernel)) rfl
theorem dX11_post_58 : decode cX11_post 58 = .ok (.iload 5, 2) := dc_21 (byA eNcX11_post (p := 58) (v := 21) (by decide +kernel)) (byA eNcX11_post (p := 59) (v := 5) (by decide +kernel))
theorem dX11_post_60 : decode cX11_post 60 = .ok (.iconst 0, 1) := dc_3 (byA eNcX11_post (p := 60) (v := 3) (by decide +kernel))
theorem dX11_post_61 : decode cX11_post 61 = .ok (.iastore, 1) := dc_79 (byA eNcX11_post (p := 61) (v := 79) (by decide +kernel))
theorem dX11_post_62 : decode cX11_post 62 = .ok (.aload_n 0, 1) := dc_42 (byA eNcX11_post (p := 62) (v := 42) (by decide +kernel))
theorem dX11_post_63 : decode cX11_post 63 = .ok (.iload_n 1, 1) := dc_27 (byA eNcX11_post (p := 63) (v := 27) (by decide +kernel))
theorem dX11_post_64 : decode cX11_post 64 = .ok (.invokevirtual 366, 3) := dc_182 (byA eNcX11_post (p := 64) (v := 182) (by decide +kernel)) (byA eNcX11_post (p := 65) (v := 1) (by decide +kernel)) (byA eNcX11_post (p := 66) (v := 110) (by decide +kernel)) rfl
theorem dX11_post_67 : decode cX11_post 67 = .ok (.istore 6, 2) := dc_54 (byA eNcX11_post (p := 67) (v := 54) (by decide +kernel)) (byA eNcX11_post (p := 68) (v := 6) (by decide +kernel))
theorem dX11_post_69 : decode cX11_post 69 = .ok (.aload_n 0, 1) := dc_42 (byA eNcX11_post (p := 69) (v := 42) (by decide +kernel))
theorem dX11_post_70 : decode cX11_post 70 = .ok (.getfield 43, 3) := dc_180 (byA eNcX11_post (p := 70) (v := 180) (by decide +kernel)) (byA eNcX11_post (p := 71) (v := 0) (by decide +kernel)) (byA eNcX11_post (p := 72) (v := 43) (by decide +kernel)) rfl
theorem dX11_post_73 : decode cX11_post 73 = .ok (.iload 5, 2) := dc_21 (byA eNcX11_post (p := 73) (v := 21) (by decide +kernel)) (byA eNcX11_post (p := 74) (v := 5) (by decide +kernel))
theorem dX11_post_75 : decode cX11_post 75 = .ok (.iconst 1, 1) := dc_4 (byA eNcX11_post (p := 75) (v := 4) (by decide +kernel))
theorem dX11_post_76 : decode cX11_post 76 = .ok (.iastore, 1) := dc_79 (byA eNcX11_post (p := 76) (v := 79) (by decide +kernel))
theorem dX11_post_77 : decode cX11_post 77 = .ok (.iload 6, 2) := dc_21 (byA eNcX11_post (p := 77) (v := 21) (by decide +kernel)) (byA eNcX11_post (p := 78) (v := 6) (by decide +kernel))
theorem dX11_post_79 : decode cX11_post 79 = .ok (.iconst (-1), 1) := dc_2 (byA eNcX11_post (p := 79) (v := 2) (by decide +kernel))
theorem dX11_post_80 : decode cX11_post 80 = .ok (.if_icmp .eq 22, 3) := dc_159 (byA eNcX11_post (p := 80) (v := 159) (by decide +kernel)) (byA eNcX11_post (p := 81) (v := 0) (by decide +kernel)) (byA eNcX11_post (p := 82) (v := 22) (by decide +kernel)) (by decide +kernel)
theorem dX11_post_83 : decode cX11_post 83 = .ok (.iload_n 3, 1) := dc_29 (byA eNcX11_post (p := 83) (v := 29) (by decide +kernel))
theorem dX11_post_84 : decode cX11_post 84 = .ok (.iconst (-1), 1) := dc_2 (byA eNcX11_post (p := 84) (v := 2) (by decide +kernel))
theorem dX11_post_85 : decode cX11_post 85 = .ok (.if_icmp .eq 10, 3) := dc_159 (byA eNcX11_post (p := 85) (v := 159) (by decide +kernel)) (byA eNcX11_post (p := 86) (v := 0) (by decide +kernel)) (byA eNcX11_post (p := 87) (v := 10) (by decide +kernel)) (by decide +kernel)
theorem dX11_post_88 : decode cX11_post 88 = .ok (.iload 6, 2) := dc_21 (byA eNcX11_post (p := 88) (v := 21) (by decide +kernel)) (byA eNcX11_post (p := 89) (v := 6) (by decide +kernel))
theorem dX11_post_90 : decode cX11_post 90 = .ok (.iload 4, 2) := dc_21 (byA eNcX11_post (p := 90) (v := 21) (by decide +kernel)) (byA eNcX11_post (p := 91) (v := 4) (by decide +kernel))
theorem dX11_post_92 : decode cX11_post 92 = .ok (.if_icmp .ge 10, 3) := dc_162 (byA eNcX11_post (p := 92) (v := 162) (by decide +kernel)) (byA eNcX11_post (p := 93) (v := 0) (by decide +kernel)) (byA eNcX11_post (p := 94) (v := 10) (by decide +kernel)) (by decide +kernel)
theorem dX11_post_95 : decode cX11_post 95 = .ok (.iload 5, 2) := dc_21 (byA eNcX11_post (p := 95) (v := 21) (by decide +kernel)) (byA eNcX11_post (p := 96) (v := 5) (by decide +kernel))
theorem dX11_post_97 : decode cX11_post 97 = .ok (.istore_n 3, 1) := dc_62 (byA eNcX11_post (p := 97) (v := 62) (by decide +kernel))
theorem dX11_post_98 : decode cX11_post 98 = .ok (.iload 6, 2) := dc_21 (byA eNcX11_post (p := 98) (v := 21) (by decide +kernel)) (byA eNcX11_post (p := 99) (v := 6) (by decide +kernel))
theorem dX11_post_100 : decode cX11_post 100 = .ok (.istore 4, 2) := dc_54 (byA eNcX11_post (p := 100) (v := 54) (by decide +kernel)) (byA eNcX11_post (p := 101) (v := 4) (by decide +kernel))
theorem dX11_post_102 : decode cX11_post 102 = .ok (.iinc 5 1, 3) := dc_132 (byA eNcX11_post (p := 102) (v := 132) (by decide +kernel)) (byA eNcX11_post (p := 103) (v := 5) (by decide +kernel)) (byA eNcX11_post (p := 104) (v := 1) (by decide +kernel)) (by decide +kernel)
theorem dX11_post_105 : decode cX11_post 105 = .ok (.goto (-78), 3) := dc_167 (byA eNcX11_post (p := 105) (v := 167) (by decide +kernel)) (byA eNcX11_post (p := 106) (v := 255) (by decide +kernel)) (byA eNcX11_post (p := 107) (v := 178) (by decide +kernel)) (by decide +kernel)
theorem dX11_post_108 : decode cX11_post 108 = .ok (.iload_n 3, 1) := dc_29 (byA eNcX11_post (p := 108) (v := 29) (by decide +kernel))
theorem dX11_post_109 : decode cX11_post 109 = .ok (.iconst (-1), 1) := dc_2 (byA eNcX11_post (p := 109) (v := 2) (by decide +kernel))
theorem dX11_post_110 : decode cX11_post 110 = .ok (.if_icmp .eq 7, 3) := dc_159 (byA eNcX11_post (p := 110) (v := 159) (by decide +kernel)) (byA eNcX11_post (p := 111) (v := 0) (by decide +kernel)) (byA eNcX11_post (p := 112) (v := 7) (by decide +kernel)) (by decide +kernel)
theorem dX11_post_113 : decode cX11_post 113 = .ok (.iload_n 2, 1) := dc_28 (byA eNcX11_post (p := 113) (v := 28) (by decide +kernel))
theorem dX11_post_114 : decode cX11_post 114 = .ok (.ifCond .ne 7, 3) := dc_154 (byA eNcX11_post (p := 114) (v := 154) (by decide +kernel)) (byA eNcX11_post (p := 115) (v := 0) (by decide +kernel)) (byA eNcX11_post (p := 116) (v := 7) (by decide +kernel)) (by decide +kernel)
theorem dX11_post_117 : decode cX11_post 117 = .ok (.iload_n 3, 1) := dc_29 (byA eNcX11_post (p := 117) (v := 29) (by decide +kernel))
theorem dX11_post_118 : decode cX11_post 118 = .ok (.goto 5, 3) := dc_167 (byA eNcX11_post (p := 118) (v := 167) (by decide +kernel)) (byA eNcX11_post (p := 119) (v := 0) (by decide +kernel)) (byA eNcX11_post (p := 120) (v := 5) (by decide +kernel)) (by decide +kernel)
theorem dX11_post_121 : decode cX11_post 121 = .ok (.iload 4, 2) := dc_21 (byA eNcX11_post (p := 121) (v := 21) (by decide +kernel)) (byA eNcX11_post (p := 122) (v := 4) (by decide +kernel))
theorem dX11_post_123 : decode cX11_post 123 = .ok (.ireturn, 1) := dc_172 (byA eNcX11_post (p := 123) (v := 172) (by decide +kernel))
def X11_post_L27 (l1 : Int) (l2 : Int) (k108 : Int → Int → Mm → Rs) : Nat → Int → Int → Int → Mm → Rs
  | 0, _, _, _, _ => none
  | n + 1, l3, l4, l5, μ => if 60 ≤ l5 then (k108 l3 l4 μ) else (bd (X11_isPlace l5 μ) fun v10 μ11 => if v10 = 0 then (X11_post_L27 l1 l2 k108 n l3 l4 (iA l5 1) μ11) else (ldA μ11 82 l5 fun v14 => if v14 = 1 then (stA μ11 82 l5 0 fun μ17 => bd (X11_leastNow l1 μ17) fun v19 μ20 => stA μ20 82 l5 1 fun μ22 => if v19 = (-1) then (X11_post_L27 l1 l2 k108 n l3 l4 (iA l5 1) μ22) else (if l3 = (-1) then (X11_post_L27 l1 l2 k108 n l5 v19 (iA l5 1) μ22) else (if l4 ≤ v19 then (X11_post_L27 l1 l2 k108 n l3 l4 (iA l5 1) μ22) else (X11_post_L27 l1 l2 k108 n l5 v19 (iA l5 1) μ22)))) else (X11_post_L27 l1 l2 k108 n l3 l4 (iA l5 1) μ11)))
def X11_post (l1 : Int) (l2 : Int) (μ : Mm) : Rs := bd (X11_isReady l1 μ) fun v1 μ2 => if v1 = 0 then (some ((-1), μ2)) else (bd (X11_in l2 0 1 μ2) fun v5 μ6 => if v5 = 0 then (some ((-1), μ6)) else (X11_post_L27 l1 l2 (fun v27 v28 μ29 => if v27 = (-1) then (some (v27, μ29)) else (if l2 = 0 then (some (v27, μ29)) else (some (v28, μ29)))) FU (-1) 0 0 μ6))
set_option maxHeartbeats 4000000 in
set_option maxRecDepth 100000 in
theorem kX11_post_L27 (d : Nat) (hd : 135 ≤ d) {l1 : Int} {l2 : Int} {k108 : Int → Int → Mm → Rs} {r : Int} {μ' : Mm} (hk_108 : ∀ (v3 v4 : Int) (μ1 : Mm), k108 v3 v4 μ1 = some (r, μ') → VV d mX11_post 108 [none, none, some (vI l2), some (vI v3), some (vI v4), none, none] [] μ1 r μ') : ∀ (n : Nat) {l3 l4 l5 : Int} {μ : Mm}, X11_post_L27 l1 l2 k108 n l3 l4 l5 μ = some (r, μ') → VV d mX11_post 27 [some (vR 70), some (vI l1), some (vI l2), some (vI l3), some (vI l4), some (vI l5), none] [] μ r μ' := by
  intro n
  induction n with
  | zero => intro l3 l4 l5 μ h; rw [X11_post_L27] at h; cases h
  | succ n ih =>
    intro l3 l4 l5 μ h
    rw [X11_post_L27] at h
    refine V_iload (q := 29) dX11_post_27 rfl rfl ?_
    refine V_bipush (q := 31) dX11_post_29 rfl rfl rfl ?_
    refine V_icmpge (q := 108) (q2 := 34) dX11_post_31 (by decide) rfl (fun hc9 => ?_) (fun hc9 => ?_)
    · have h := ifT hc9 h
      exact V_weak (hk_108 _ _ _ h) (sb_n (sb_n (sb_s rfl (sb_s rfl (sb_s rfl (sb_n (sb_n sb_0)))))))
    · have h := ifF hc9 h
      refine V_aload_n (q := 35) dX11_post_34 rfl rfl rfl ?_
      refine V_iload (q := 37) dX11_post_35 rfl rfl ?_
      obtain ⟨v10, μ11, hc12, h⟩ := bd_i h
      refine V_cV1 (q := 40) (v := vI v10) (kX11_isPlace (d - 1) (by omega) hc12) (by omega) mv_X11_258 rfl rfl rfl rfl rfl rfl dX11_post_37 rfl ?_
      refine V_ifeq (q := 102) (q2 := 43) dX11_post_40 (by decide) rfl (fun hc13 => ?_) (fun hc13 => ?_)
      · have h := ifT hc13 h
        refine V_iinc (q := 105) dX11_post_102 rfl (Nat.le_of_ble_eq_true rfl) trivial rfl ?_
        refine V_goto (q := 27) dX11_post_105 (by decide) ?_
        exact V_weak (ih h) (sb_s rfl (sb_s rfl (sb_s rfl (sb_s rfl (sb_s rfl (sb_s rfl (sb_n sb_0)))))))
      · have h := ifF hc13 h
        refine V_aload_n (q := 44) dX11_post_43 rfl rfl rfl ?_
        refine V_getO (q := 47) (t := 82) fl_X11_43 rfl rfl rfl rfl dX11_post_44 rfl ?_
        refine V_iload (q := 49) dX11_post_47 rfl rfl ?_
        obtain ⟨hi15, h⟩ := ldA_i h
        refine V_iaload (q := 50) rfl hi15 dX11_post_49 rfl ?_
        refine V_iconst (q := 51) dX11_post_50 rfl rfl ?_
        refine V_icmpne (q := 102) (q2 := 54) dX11_post_51 (by decide) rfl (fun hc16 => ?_) (fun hc16 => ?_)
        · have h := ifF hc16 h
          refine V_iinc (q := 105) dX11_post_102 rfl (Nat.le_of_ble_eq_true rfl) trivial rfl ?_
          refine V_goto (q := 27) dX11_post_105 (by decide) ?_
          exact V_weak (ih h) (sb_s rfl (sb_s rfl (sb_s rfl (sb_s rfl (sb_s rfl (sb_s rfl (sb_n sb_0)))))))
        · have h := ifT hc16 h
          refine V_aload_n (q := 55) dX11_post_54 rfl rfl rfl ?_
          refine V_getO (q := 58) (t := 82) fl_X11_43 rfl rfl rfl rfl dX11_post_55 rfl ?_
          refine V_iload (q := 60) dX11_post_58 rfl rfl ?_
          refine V_iconst (q := 61) dX11_post_60 rfl rfl ?_
          obtain ⟨hi18, h⟩ := stA_i h
          refine V_iastore (q := 62) rfl hi18 dX11_post_61 rfl ?_
          refine V_aload_n (q := 63) dX11_post_62 rfl rfl rfl ?_
          refine V_iload_n (q := 64) dX11_post_63 rfl rfl rfl ?_
          obtain ⟨v19, μ20, hc21, h⟩ := bd_i h
          refine V_cV1 (q := 67) (v := vI v19) (kX11_leastNow (d - 1) (by omega) hc21) (by omega) mv_X11_366 rfl rfl rfl rfl rfl rfl dX11_post_64 rfl ?_
          refine V_istore (q := 69) dX11_post_67 (Nat.le_of_ble_eq_true rfl) trivial rfl ?_
          refine V_aload_n (q := 70) dX11_post_69 rfl rfl rfl ?_
          refine V_getO (q := 73) (t := 82) fl_X11_43 rfl rfl rfl rfl dX11_post_70 rfl ?_
          refine V_iload (q := 75) dX11_post_73 rfl rfl ?_
          refine V_iconst (q := 76) dX11_post_75 rfl rfl ?_
          obtain ⟨hi23, h⟩ := stA_i h
          refine V_iastore (q := 77) rfl hi23 dX11_post_76 rfl ?_
          refine V_iload (q := 79) dX11_post_77 rfl rfl ?_
          refine V_iconst (q := 80) dX11_post_79 rfl rfl ?_
          refine V_icmpeq (q := 102) (q2 := 83) dX11_post_80 (by decide) rfl (fun hc24 => ?_) (fun hc24 => ?_)
          · have h := ifT hc24 h
            refine V_iinc (q := 105) dX11_post_102 rfl (Nat.le_of_ble_eq_true rfl) trivial rfl ?_
            refine V_goto (q := 27) dX11_post_105 (by decide) ?_
            exact V_weak (ih h) (sb_s rfl (sb_s rfl (sb_s rfl (sb_s rfl (sb_s rfl (sb_s rfl (sb_n sb_0)))))))
          · have h := ifF hc24 h
            refine V_iload_n (q := 84) dX11_post_83 rfl rfl rfl ?_
            refine V_iconst (q := 85) dX11_post_84 rfl rfl ?_
            refine V_icmpeq (q := 95) (q2 := 88) dX11_post_85 (by decide) rfl (fun hc25 => ?_) (fun hc25 => ?_)
            · have h := ifT hc25 h
              refine V_iload (q := 97) dX11_post_95 rfl rfl ?_
              refine V_istore_n (q := 98) dX11_post_97 rfl (Nat.le_of_ble_eq_true rfl) trivial rfl ?_
              refine V_iload (q := 100) dX11_post_98 rfl rfl ?_
              refine V_istore (q := 102) dX11_post_100 (Nat.le_of_ble_eq_true rfl) trivial rfl ?_
              refine V_iinc (q := 105) dX11_post_102 rfl (Nat.le_of_ble_eq_true rfl) trivial rfl ?_
              refine V_goto (q := 27) dX11_post_105 (by decide) ?_
              exact V_weak (ih h) (sb_s rfl (sb_s rfl (sb_s rfl (sb_s rfl (sb_s rfl (sb_s rfl (sb_n sb_0)))))))
            · have h := ifF hc25 h
              refine V_iload (q := 90) dX11_post_88 rfl rfl ?_
              refine V_iload (q := 92) dX11_post_90 rfl rfl ?_
              refine V_icmpge (q := 102) (q2 := 95) dX11_post_92 (by decide) rfl (fun hc26 => ?_) (fun hc26 => ?_)
              · have h := ifT hc26 h
                refine V_iinc (q := 105) dX11_post_102 rfl (Nat.le_of_ble_eq_true rfl) trivial rfl ?_
                refine V_goto (q := 27) dX11_post_105 (by decide) ?_
                exact V_weak (ih h) (sb_s rfl (sb_s rfl (sb_s rfl (sb_s rfl (sb_s rfl (sb_s rfl (sb_n sb_0)))))))
              · have h := ifF hc26 h
                refine V_iload (q := 97) dX11_post_95 rfl rfl ?_
                refine V_istore_n (q := 98) dX11_post_97 rfl (Nat.le_of_ble_eq_true rfl) trivial rfl ?_
                refine V_iload (q := 100) dX11_post_98 rfl rfl ?_
                refine V_istore (q := 102) dX11_post_100 (Nat.le_of_ble_eq_true rfl) trivial rfl ?_
                refine V_iinc (q := 105) dX11_post_102 rfl (Nat.le_of_ble_eq_true rfl) trivial rfl ?_
                refine V_goto (q := 27) dX11_post_105 (by decide) ?_
                exact V_weak (ih h) (sb_s rfl (sb_s rfl (sb_s rfl (sb_s rfl (sb_s rfl (sb_s rfl (sb_n sb_0)))))))
set_option maxHeartbeats 4000000 in
set_option maxRecDepth 100000 in
theorem kX11_post (d : Nat) (hd : 135 ≤ d) {l1 : Int} {l2 : Int} {μ : Mm} {r : Int} {μ' : Mm} (h : X11_post l1 l2 μ = some (r, μ')) : CC d mX11_post [vR 70, vI l1, vI l2] μ r μ' := by
  unfold X11_post at h
  refine V_enter (by decide) (Nat.le_of_ble_eq_true rfl) ?_
  show VV d mX11_post 0 [some (vR 70), some (vI l1), some (vI l2), none, none, none, none] [] μ r μ'
  refine V_aload_n (q := 1) dX11_post_0 rfl rfl rfl ?_
  refine V_iload_n (q := 2) dX11_post_1 rfl rfl rfl ?_
  obtain ⟨v1, μ2, hc3, h⟩ := bd_i h
  refine V_cV1 (q := 5) (v := vI v1) (kX11_isReady (d - 1) (by omega) hc3) (by omega) mv_X11_335 rfl rfl rfl rfl rfl rfl dX11_post_2 rfl ?_
  refine V_ifeq (q := 17) (q2 := 8) dX11_post_5 (by decide) rfl (fun hc4 => ?_) (fun hc4 => ?_)
  · have h := ifT hc4 h
    refine V_iconst (q := 18) dX11_post_17 rfl rfl ?_
    exact V_iret rfl h dX11_post_18
  · have h := ifF hc4 h
    refine V_iload_n (q := 9) dX11_post_8 rfl rfl rfl ?_
    refine V_iconst (q := 10) dX11_post_9 rfl rfl ?_
    refine V_iconst (q := 11) dX11_post_10 rfl rfl ?_
    obtain ⟨v5, μ6, hc7, h⟩ := bd_i h
    refine V_cS1 (q := 14) (v := vI v5) (kX11_in (d - 1) (by omega) hc7) (by omega) mv_X11_213 rfl rfl rfl rfl dX11_post_11 rfl ?_
    refine V_ifne (q := 19) (q2 := 17) dX11_post_14 (by decide) rfl (fun hc8 => ?_) (fun hc8 => ?_)
    · have h := ifF hc8 h
      refine V_iconst (q := 20) dX11_post_19 rfl rfl ?_
      refine V_istore_n (q := 21) dX11_post_20 rfl (Nat.le_of_ble_eq_true rfl) trivial rfl ?_
      refine V_iconst (q := 22) dX11_post_21 rfl rfl ?_
      refine V_istore (q := 24) dX11_post_22 (Nat.le_of_ble_eq_true rfl) trivial rfl ?_
      refine V_iconst (q := 25) dX11_post_24 rfl rfl ?_
      refine V_istore (q := 27) dX11_post_25 (Nat.le_of_ble_eq_true rfl) trivial rfl ?_
      refine V_weak (kX11_post_L27 d hd (fun v27 v28 μ29 h => ?_) FU h) (sb_s rfl (sb_s rfl (sb_s rfl (sb_s rfl (sb_s rfl (sb_s rfl (sb_n sb_0)))))))
      refine V_iload_n (q := 109) dX11_post_108 rfl rfl rfl ?_
      refine V_iconst (q := 110) dX11_post_109 rfl rfl ?_
      refine V_icmpeq (q := 117) (q2 := 113) dX11_post_110 (by decide) rfl (fun hc30 => ?_) (fun hc30 => ?_)
      · have h := ifT hc30 h
        refine V_iload_n (q := 118) dX11_post_117 rfl rfl rfl ?_
        refine V_goto (q := 123) dX11_post_118 (by decide) ?_
        exact V_iret rfl h dX11_post_123
      · have h := ifF hc30 h
        refine V_iload_n (q := 114) dX11_post_113 rfl rfl rfl ?_
        refine V_ifne (q := 121) (q2 := 117) dX11_post_114 (by decide) rfl (fun hc31 => ?_) (fun hc31 => ?_)
        · have h := ifF hc31 h
          refine V_iload (q := 123) dX11_post_121 rfl rfl ?_
          exact V_iret rfl h dX11_post_123
        · have h := ifT hc31 h
          refine V_iload_n (q := 118) dX11_post_117 rfl rfl rfl ?_
          refine V_goto (q := 123) dX11_post_118 (by decide) ?_
          exact V_iret rfl h dX11_post_123
    · have h := ifT hc8 h
      refine V_iconst (q := 18) dX11_post_17 rfl rfl ?_
      exact V_iret rfl h dX11_post_18
abbrev mX11_rope : Mth := (yX11_rope, cX11_rope, 8, some .int)
set_option maxRecDepth 100000 in
theorem mi_X11_rope : Cond.instanceMethod yX11_rope ∈ tG ∧ Cond.selects yX11_rope.cls yX11_rope yX11_rope ∈ tG ∧ Cond.initialized yX11_rope.cls ∈ tG ∧ Cond.code yX11_rope cX11_rope 8 (some .int) ∈ tG ∧ (yX11_rope.cls ≠ "java/lang/invoke/MethodHandle" ∧ yX11_rope.cls ≠ "java/lang/invoke/VarHandle" ∧ (parseMethodDescriptor yX11_rope.desc).map (fun d => d.parameters.length) = some 2) ∧ 8 ≤ 60 := ⟨(tG_of (tb7 (List.mem_of_getElem? (i := 101) rfl)) (by decide +kernel)), (tG_of (tb7 (List.mem_of_getElem? (i := 102) rfl)) (by decide +kernel)), (tG_of (tb1 (List.mem_of_getElem? (i := 12) rfl)) (by decide +kernel)), (tG_of (tb7 (List.mem_of_getElem? (i := 103) rfl)) (by decide +kernel)), ⟨by decide, by decide, by decide +kernel⟩, by decide⟩
theorem dX11_rope_0 : decode cX11_rope 0 = .ok (.aload_n 0, 1) := dc_42 (byA eNcX11_rope (p := 0) (v := 42) (by decide +kernel))
theorem dX11_rope_1 : decode cX11_rope 1 = .ok (.iload_n 1, 1) := dc_27 (byA eNcX11_rope (p := 1) (v := 27) (by decide +kernel))
theorem dX11_rope_2 : decode cX11_rope 2 = .ok (.invokevirtual 335, 3) := dc_182 (byA eNcX11_rope (p := 2) (v := 182) (by decide +kernel)) (byA eNcX11_rope (p := 3) (v := 1) (by decide +kernel)) (byA eNcX11_rope (p := 4) (v := 79) (by decide +kernel)) rfl
theorem dX11_rope_5 : decode cX11_rope 5 = .ok (.ifCond .eq 12, 3) := dc_153 (byA eNcX11_rope (p := 5) (v := 153) (by decide +kernel)) (byA eNcX11_rope (p := 6) (v := 0) (by decide +kernel)) (byA eNcX11_rope (p := 7) (v := 12) (by decide +kernel)) (by decide +kernel)
theorem dX11_rope_8 : decode cX11_rope 8 = .ok (.iload_n 2, 1) := dc_28 (byA eNcX11_rope (p := 8) (v := 28) (by decide +kernel))
theorem dX11_rope_9 : decode cX11_rope 9 = .ok (.iconst 0, 1) := dc_3 (byA eNcX11_rope (p := 9) (v := 3) (by decide +kernel))
theorem dX11_rope_10 : decode cX11_rope 10 = .ok (.iconst 1, 1) := dc_4 (byA eNcX11_rope (p := 10) (v := 4) (by decide +kernel))
theorem dX11_rope_11 : decode cX11_rope 11 = .ok (.invokestatic 213, 3) := dc_184 (byA eNcX11_rope (p := 11) (v := 184) (by decide +kernel)) (byA eNcX11_rope (p := 12) (v := 0) (by decide +kernel)) (byA eNcX11_rope (p := 13) (v := 213) (by decide +kernel)) rfl
theorem dX11_rope_14 : decode cX11_rope 14 = .ok (.ifCond .ne 5, 3) := dc_154 (byA eNcX11_rope (p := 14) (v := 154) (by decide +kernel)) (byA eNcX11_rope (p := 15) (v := 0) (by decide +kernel)) (byA eNcX11_rope (p := 16) (v := 5) (by decide +kernel)) (by decide +kernel)
theorem dX11_rope_17 : decode cX11_rope 17 = .ok (.iconst (-1), 1) := dc_2 (byA eNcX11_rope (p := 17) (v := 2) (by decide +kernel))
theorem dX11_rope_18 : decode cX11_rope 18 = .ok (.ireturn, 1) := dc_172 (byA eNcX11_rope (p := 18) (v := 172) (by decide +kernel))
theorem dX11_rope_19 : decode cX11_rope 19 = .ok (.iconst (-1), 1) := dc_2 (byA eNcX11_rope (p := 19) (v := 2) (by decide +kernel))
theorem dX11_rope_20 : decode cX11_rope 20 = .ok (.istore_n 3, 1) := dc_62 (byA eNcX11_rope (p := 20) (v := 62) (by decide +kernel))
theorem dX11_rope_21 : decode cX11_rope 21 = .ok (.iconst 0, 1) := dc_3 (byA eNcX11_rope (p := 21) (v := 3) (by decide +kernel))
theorem dX11_rope_22 : decode cX11_rope 22 = .ok (.istore 4, 2) := dc_54 (byA eNcX11_rope (p := 22) (v := 54) (by decide +kernel)) (byA eNcX11_rope (p := 23) (v := 4) (by decide +kernel))
theorem dX11_rope_24 : decode cX11_rope 24 = .ok (.iconst 0, 1) := dc_3 (byA eNcX11_rope (p := 24) (v := 3) (by decide +kernel))
theorem dX11_rope_25 : decode cX11_rope 25 = .ok (.istore 5, 2) := dc_54 (byA eNcX11_rope (p := 25) (v := 54) (by decide +kernel)) (byA eNcX11_rope (p := 26) (v := 5) (by decide +kernel))
theorem dX11_rope_27 : decode cX11_rope 27 = .ok (.iload 5, 2) := dc_21 (byA eNcX11_rope (p := 27) (v := 21) (by decide +kernel)) (byA eNcX11_rope (p := 28) (v := 5) (by decide +kernel))
theorem dX11_rope_29 : decode cX11_rope 29 = .ok (.bipush 8, 2) := dc_16 (byA eNcX11_rope (p := 29) (v := 16) (by decide +kernel)) (byA eNcX11_rope (p := 30) (v := 8) (by decide +kernel)) (by decide +kernel)
theorem dX11_rope_31 : decode cX11_rope 31 = .ok (.if_icmp .ge 81, 3) := dc_162 (byA eNcX11_rope (p := 31) (v := 162) (by decide +kernel)) (byA eNcX11_rope (p := 32) (v := 0) (by decide +kernel)) (byA eNcX11_rope (p := 33) (v := 81) (by decide +kernel)) (by decide +kernel)
theorem dX11_rope_34 : decode cX11_rope 34 = .ok (.aload_n 0, 1) := dc_42 (byA eNcX11_rope (p := 34) (v := 42) (by decide +kernel))
theorem dX11_rope_35 : decode cX11_rope 35 = .ok (.iload 5, 2) := dc_21 (byA eNcX11_rope (p := 35) (v := 21) (by decide +kernel)) (byA eNcX11_rope (p := 36) (v := 5) (by decide +kernel))
theorem dX11_rope_37 : decode cX11_rope 37 = .ok (.invokevirtual 284, 3) := dc_182 (byA eNcX11_rope (p := 37) (v := 182) (by decide +kernel)) (byA eNcX11_rope (p := 38) (v := 1) (by decide +kernel)) (byA eNcX11_rope (p := 39) (v := 28) (by decide +kernel)) rfl
theorem dX11_rope_40 : decode cX11_rope 40 = .ok (.ifCond .eq 66, 3) := dc_153 (byA eNcX11_rope (p := 40) (v := 153) (by decide +kernel)) (byA eNcX11_rope (p := 41) (v := 0) (by decide +kernel)) (byA eNcX11_rope (p := 42) (v := 66) (by decide +kernel)) (by decide +kernel)
theorem dX11_rope_43 : decode cX11_rope 43 = .ok (.aload_n 0, 1) := dc_42 (byA eNcX11_rope (p := 43) (v := 42) (by decide +kernel))
theorem dX11_rope_44 : decode cX11_rope 44 = .ok (.getfield 55, 3) := dc_180 (byA eNcX11_rope (p := 44) (v := 180) (by decide +kernel)) (byA eNcX11_rope (p := 45) (v := 0) (by decide +kernel)) (byA eNcX11_rope (p := 46) (v := 55) (by decide +kernel)) rfl
theorem dX11_rope_47 : decode cX11_rope 47 = .ok (.iload 5, 2) := dc_21 (byA eNcX11_rope (p := 47) (v := 21) (by decide +kernel)) (byA eNcX11_rope (p := 48) (v := 5) (by decide +kernel))
theorem dX11_rope_49 : decode cX11_rope 49 = .ok (.iaload, 1) := dc_46 (byA eNcX11_rope (p := 49) (v := 46) (by decide +kernel))
theorem dX11_rope_50 : decode cX11_rope 50 = .ok (.istore 6, 2) := dc_54 (byA eNcX11_rope (p := 50) (v := 54) (by decide +kernel)) (byA eNcX11_rope (p := 51) (v := 6) (by decide +kernel))
theorem dX11_rope_52 : decode cX11_rope 52 = .ok (.aload_n 0, 1) := dc_42 (byA eNcX11_rope (p := 52) (v := 42) (by decide +kernel))
theorem dX11_rope_53 : decode cX11_rope 53 = .ok (.getfield 55, 3) := dc_180 (byA eNcX11_rope (p := 53) (v := 180) (by decide +kernel)) (byA eNcX11_rope (p := 54) (v := 0) (by decide +kernel)) (byA eNcX11_rope (p := 55) (v := 55) (by decide +kernel)) rfl
theorem dX11_rope_56 : decode cX11_rope 56 = .ok (.iload 5, 2) := dc_21 (byA eNcX11_rope (p := 56) (v := 21) (by decide +kernel)) (byA eNcX11_rope (p := 57) (v := 5) (by decide +kernel))
theorem dX11_rope_58 : decode cX11_rope 58 = .ok (.iload 6, 2) := dc_21 (byA eNcX11_rope (p := 58) (v := 21) (by decide +kernel)) (byA eNcX11_rope (p := 59) (v := 6) (by decide +kernel))
theorem dX11_rope_60 : decode cX11_rope 60 = .ok (.iconst 1, 1) := dc_4 (byA eNcX11_rope (p := 60) (v := 4) (by decide +kernel))
theorem dX11_rope_61 : decode cX11_rope 61 = .ok (.iadd, 1) := dc_96 (byA eNcX11_rope (p := 61) (v := 96) (by decide +kernel))
theorem dX11_rope_62 : decode cX11_rope 62 = .ok (.iconst 2, 1) := dc_5 (byA eNcX11_rope (p := 62) (v := 5) (by decide +kernel))
theorem dX11_rope_63 : decode cX11_rope 63 = .ok (.idiv, 1) := dc_108 (byA eNcX11_rope (p := 63) (v := 108) (by decide +kernel))
theorem dX11_rope_64 : decode cX11_rope 64 = .ok (.iastore, 1) := dc_79 (byA eNcX11_rope (p := 64) (v := 79) (by decide +kernel))
theorem dX11_rope_65 : decode cX11_rope 65 = .ok (.aload_n 0, 1) := dc_42 (byA eNcX11_rope (p := 65) (v := 42) (by decide +kernel))
theorem dX11_rope_66 : decode cX11_rope 66 = .ok (.iload_n 1, 1) := dc_27 (byA eNcX11_rope (p := 66) (v := 27) (by decide +kernel))
theorem dX11_rope_67 : decode cX11_rope 67 = .ok (.invokevirtual 366, 3) := dc_182 (byA eNcX11_rope (p := 67) (v := 182) (by decide +kernel)) (byA eNcX11_rope (p := 68) (v := 1) (by decide +kernel)) (byA eNcX11_rope (p := 69) (v := 110) (by decide +kernel)) rfl
theorem dX11_rope_70 : decode cX11_rope 70 = .ok (.istore 7, 2) := dc_54 (byA eNcX11_rope (p := 70) (v := 54) (by decide +kernel)) (byA eNcX11_rope (p := 71) (v := 7) (by decide +kernel))
theorem dX11_rope_72 : decode cX11_rope 72 = .ok (.aload_n 0, 1) := dc_42 (byA eNcX11_rope (p := 72) (v := 42) (by decide +kernel))
theorem dX11_rope_73 : decode cX11_rope 73 = .ok (.getfield 55, 3) := dc_180 (byA eNcX11_rope (p := 73) (v := 180) (by decide +kernel)) (byA eNcX11_rope (p := 74) (v := 0) (by decide +kernel)) (byA eNcX11_rope (p := 75) (v := 55) (by decide +kernel)) rfl
theorem dX11_rope_76 : decode cX11_rope 76 = .ok (.iload 5, 2) := dc_21 (byA eNcX11_rope (p := 76) (v := 21) (by decide +kernel)) (byA eNcX11_rope (p := 77) (v := 5) (by decide +kernel))
theorem dX11_rope_78 : decode cX11_rope 78 = .ok (.iload 6, 2) := dc_21 (byA eNcX11_rope (p := 78) (v := 21) (by decide +kernel)) (byA eNcX11_rope (p := 79) (v := 6) (by decide +kernel))
theorem dX11_rope_80 : decode cX11_rope 80 = .ok (.iastore, 1) := dc_79 (byA eNcX11_rope (p := 80) (v := 79) (by decide +kernel))
theorem dX11_rope_81 : decode cX11_rope 81 = .ok (.iload 7, 2) := dc_21 (byA eNcX11_rope (p := 81) (v := 21) (by decide +kernel)) (byA eNcX11_rope (p := 82) (v := 7) (by decide +kernel))
theorem dX11_rope_83 : decode cX11_rope 83 = .ok (.iconst (-1), 1) := dc_2 (byA eNcX11_rope (p := 83) (v := 2) (by decide +kernel))
theorem dX11_rope_84 : decode cX11_rope 84 = .ok (.if_icmp .eq 22, 3) := dc_159 (byA eNcX11_rope (p := 84) (v := 159) (by decide +kernel)) (byA eNcX11_rope (p := 85) (v := 0) (by decide +kernel)) (byA eNcX11_rope (p := 86) (v := 22) (by decide +kernel)) (by decide +kernel)
theorem dX11_rope_87 : decode cX11_rope 87 = .ok (.iload_n 3, 1) := dc_29 (byA eNcX11_rope (p := 87) (v := 29) (by decide +kernel))
theorem dX11_rope_88 : decode cX11_rope 88 = .ok (.iconst (-1), 1) := dc_2 (byA eNcX11_rope (p := 88) (v := 2) (by decide +kernel))
theorem dX11_rope_89 : decode cX11_rope 89 = .ok (.if_icmp .eq 10, 3) := dc_159 (byA eNcX11_rope (p := 89) (v := 159) (by decide +kernel)) (byA eNcX11_rope (p := 90) (v := 0) (by decide +kernel)) (byA eNcX11_rope (p := 91) (v := 10) (by decide +kernel)) (by decide +kernel)
theorem dX11_rope_92 : decode cX11_rope 92 = .ok (.iload 7, 2) := dc_21 (byA eNcX11_rope (p := 92) (v := 21) (by decide +kernel)) (byA eNcX11_rope (p := 93) (v := 7) (by decide +kernel))
theorem dX11_rope_94 : decode cX11_rope 94 = .ok (.iload 4, 2) := dc_21 (byA eNcX11_rope (p := 94) (v := 21) (by decide +kernel)) (byA eNcX11_rope (p := 95) (v := 4) (by decide +kernel))
theorem dX11_rope_96 : decode cX11_rope 96 = .ok (.if_icmp .ge 10, 3) := dc_162 (byA eNcX11_rope (p := 96) (v := 162) (by decide +kernel)) (byA eNcX11_rope (p := 97) (v := 0) (by decide +kernel)) (byA eNcX11_rope (p := 98) (v := 10) (by decide +kernel)) (by decide +kernel)
theorem dX11_rope_99 : decode cX11_rope 99 = .ok (.iload 5, 2) := dc_21 (byA eNcX11_rope (p := 99) (v := 21) (by decide +kernel)) (byA eNcX11_rope (p := 100) (v := 5) (by decide +kernel))
theorem dX11_rope_101 : decode cX11_rope 101 = .ok (.istore_n 3, 1) := dc_62 (byA eNcX11_rope (p := 101) (v := 62) (by decide +kernel))
theorem dX11_rope_102 : decode cX11_rope 102 = .ok (.iload 7, 2) := dc_21 (byA eNcX11_rope (p := 102) (v := 21) (by decide +kernel)) (byA eNcX11_rope (p := 103) (v := 7) (by decide +kernel))
theorem dX11_rope_104 : decode cX11_rope 104 = .ok (.istore 4, 2) := dc_54 (byA eNcX11_rope (p := 104) (v := 54) (by decide +kernel)) (byA eNcX11_rope (p := 105) (v := 4) (by decide +kernel))
theorem dX11_rope_106 : decode cX11_rope 106 = .ok (.iinc 5 1, 3) := dc_132 (byA eNcX11_rope (p := 106) (v := 132) (by decide +kernel)) (byA eNcX11_rope (p := 107) (v := 5) (by decide +kernel)) (byA eNcX11_rope (p := 108) (v := 1) (by decide +kernel)) (by decide +kernel)
theorem dX11_rope_109 : decode cX11_rope 109 = .ok (.goto (-82), 3) := dc_167 (byA eNcX11_rope (p := 109) (v := 167) (by decide +kernel)) (byA eNcX11_rope (p := 110) (v := 255) (by decide +kernel)) (byA eNcX11_rope (p := 111) (v := 174) (by decide +kernel)) (by decide +kernel)
theorem dX11_rope_112 : decode cX11_rope 112 = .ok (.iload_n 3, 1) := dc_29 (byA eNcX11_rope (p := 112) (v := 29) (by decide +kernel))
theorem dX11_rope_113 : decode cX11_rope 113 = .ok (.iconst (-1), 1) := dc_2 (byA eNcX11_rope (p := 113) (v := 2) (by decide +kernel))
theorem dX11_rope_114 : decode cX11_rope 114 = .ok (.if_icmp .eq 7, 3) := dc_159 (byA eNcX11_rope (p := 114) (v := 159) (by decide +kernel)) (byA eNcX11_rope (p := 115) (v := 0) (by decide +kernel)) (byA eNcX11_rope (p := 116) (v := 7) (by decide +kernel)) (by decide +kernel)
theorem dX11_rope_117 : decode cX11_rope 117 = .ok (.iload_n 2, 1) := dc_28 (byA eNcX11_rope (p := 117) (v := 28) (by decide +kernel))
theorem dX11_rope_118 : decode cX11_rope 118 = .ok (.ifCond .ne 7, 3) := dc_154 (byA eNcX11_rope (p := 118) (v := 154) (by decide +kernel)) (byA eNcX11_rope (p := 119) (v := 0) (by decide +kernel)) (byA eNcX11_rope (p := 120) (v := 7) (by decide +kernel)) (by decide +kernel)
theorem dX11_rope_121 : decode cX11_rope 121 = .ok (.iload_n 3, 1) := dc_29 (byA eNcX11_rope (p := 121) (v := 29) (by decide +kernel))
theorem dX11_rope_122 : decode cX11_rope 122 = .ok (.goto 5, 3) := dc_167 (byA eNcX11_rope (p := 122) (v := 167) (by decide +kernel)) (byA eNcX11_rope (p := 123) (v := 0) (by decide +kernel)) (byA eNcX11_rope (p := 124) (v := 5) (by decide +kernel)) (by decide +kernel)
theorem dX11_rope_125 : decode cX11_rope 125 = .ok (.iload 4, 2) := dc_21 (byA eNcX11_rope (p := 125) (v := 21) (by decide +kernel)) (byA eNcX11_rope (p := 126) (v := 4) (by decide +kernel))
theorem dX11_rope_127 : decode cX11_rope 127 = .ok (.ireturn, 1) := dc_172 (byA eNcX11_rope (p := 127) (v := 172) (by decide +kernel))
def X11_rope_L27 (l1 : Int) (l2 : Int) (k112 : Int → Int → Mm → Rs) : Nat → Int → Int → Int → Mm → Rs
  | 0, _, _, _, _ => none
  | n + 1, l3, l4, l5, μ => if 8 ≤ l5 then (k112 l3 l4 μ) else (bd (X11_isCrank l5 μ) fun v10 μ11 => if v10 = 0 then (X11_rope_L27 l1 l2 k112 n l3 l4 (iA l5 1) μ11) else (ldA μ11 86 l5 fun v14 => stA μ11 86 l5 (iD (iA v14 1) 2) fun μ16 => bd (X11_leastNow l1 μ16) fun v18 μ19 => stA μ19 86 l5 v14 fun μ21 => if v18 = (-1) then (X11_rope_L27 l1 l2 k112 n l3 l4 (iA l5 1) μ21) else (if l3 = (-1) then (X11_rope_L27 l1 l2 k112 n l5 v18 (iA l5 1) μ21) else (if l4 ≤ v18 then (X11_rope_L27 l1 l2 k112 n l3 l4 (iA l5 1) μ21) else (X11_rope_L27 l1 l2 k112 n l5 v18 (iA l5 1) μ21)))))
def X11_rope (l1 : Int) (l2 : Int) (μ : Mm) : Rs := bd (X11_isReady l1 μ) fun v1 μ2 => if v1 = 0 then (some ((-1), μ2)) else (bd (X11_in l2 0 1 μ2) fun v5 μ6 => if v5 = 0 then (some ((-1), μ6)) else (X11_rope_L27 l1 l2 (fun v26 v27 μ28 => if v26 = (-1) then (some (v26, μ28)) else (if l2 = 0 then (some (v26, μ28)) else (some (v27, μ28)))) FU (-1) 0 0 μ6))
set_option maxHeartbeats 4000000 in
set_option maxRecDepth 100000 in
theorem kX11_rope_L27 (d : Nat) (hd : 135 ≤ d) {l1 : Int} {l2 : Int} {k112 : Int → Int → Mm → Rs} {r : Int} {μ' : Mm} (hk_112 : ∀ (v3 v4 : Int) (μ1 : Mm), k112 v3 v4 μ1 = some (r, μ') → VV d mX11_rope 112 [none, none, some (vI l2), some (vI v3), some (vI v4), none, none, none] [] μ1 r μ') : ∀ (n : Nat) {l3 l4 l5 : Int} {μ : Mm}, X11_rope_L27 l1 l2 k112 n l3 l4 l5 μ = some (r, μ') → VV d mX11_rope 27 [some (vR 70), some (vI l1), some (vI l2), some (vI l3), some (vI l4), some (vI l5), none, none] [] μ r μ' := by
  intro n
  induction n with
  | zero => intro l3 l4 l5 μ h; rw [X11_rope_L27] at h; cases h
  | succ n ih =>
    intro l3 l4 l5 μ h
    rw [X11_rope_L27] at h
    refine V_iload (q := 29) dX11_rope_27 rfl rfl ?_
    refine V_bipush (q := 31) dX11_rope_29 rfl rfl rfl ?_
    refine V_icmpge (q := 112) (q2 := 34) dX11_rope_31 (by decide) rfl (fun hc9 => ?_) (fun hc9 => ?_)
    · have h := ifT hc9 h
      exact V_weak (hk_112 _ _ _ h) (sb_n (sb_n (sb_s rfl (sb_s rfl (sb_s rfl (sb_n (sb_n (sb_n sb_0))))))))
    · have h := ifF hc9 h
      refine V_aload_n (q := 35) dX11_rope_34 rfl rfl rfl ?_
      refine V_iload (q := 37) dX11_rope_35 rfl rfl ?_
      obtain ⟨v10, μ11, hc12, h⟩ := bd_i h
      refine V_cV1 (q := 40) (v := vI v10) (kX11_isCrank (d - 1) (by omega) hc12) (by omega) mv_X11_284 rfl rfl rfl rfl rfl rfl dX11_rope_37 rfl ?_
      refine V_ifeq (q := 106) (q2 := 43) dX11_rope_40 (by decide) rfl (fun hc13 => ?_) (fun hc13 => ?_)
      · have h := ifT hc13 h
        refine V_iinc (q := 109) dX11_rope_106 rfl (Nat.le_of_ble_eq_true rfl) trivial rfl ?_
        refine V_goto (q := 27) dX11_rope_109 (by decide) ?_
        exact V_weak (ih h) (sb_s rfl (sb_s rfl (sb_s rfl (sb_s rfl (sb_s rfl (sb_s rfl (sb_n (sb_n sb_0))))))))
      · have h := ifF hc13 h
        refine V_aload_n (q := 44) dX11_rope_43 rfl rfl rfl ?_
        refine V_getO (q := 47) (t := 86) fl_X11_55 rfl rfl rfl rfl dX11_rope_44 rfl ?_
        refine V_iload (q := 49) dX11_rope_47 rfl rfl ?_
        obtain ⟨hi15, h⟩ := ldA_i h
        refine V_iaload (q := 50) rfl hi15 dX11_rope_49 rfl ?_
        refine V_istore (q := 52) dX11_rope_50 (Nat.le_of_ble_eq_true rfl) trivial rfl ?_
        refine V_aload_n (q := 53) dX11_rope_52 rfl rfl rfl ?_
        refine V_getO (q := 56) (t := 86) fl_X11_55 rfl rfl rfl rfl dX11_rope_53 rfl ?_
        refine V_iload (q := 58) dX11_rope_56 rfl rfl ?_
        refine V_iload (q := 60) dX11_rope_58 rfl rfl ?_
        refine V_iconst (q := 61) dX11_rope_60 rfl rfl ?_
        refine V_iadd (q := 62) dX11_rope_61 rfl ?_
        refine V_iconst (q := 63) dX11_rope_62 rfl rfl ?_
        refine V_idiv (q := 64) dX11_rope_63 (by decide) rfl ?_
        obtain ⟨hi17, h⟩ := stA_i h
        refine V_iastore (q := 65) rfl hi17 dX11_rope_64 rfl ?_
        refine V_aload_n (q := 66) dX11_rope_65 rfl rfl rfl ?_
        refine V_iload_n (q := 67) dX11_rope_66 rfl rfl rfl ?_
        obtain ⟨v18, μ19, hc20, h⟩ := bd_i h
        refine V_cV1 (q := 70) (v := vI v18) (kX11_leastNow (d - 1) (by omega) hc20) (by omega) mv_X11_366 rfl rfl rfl rfl rfl rfl dX11_rope_67 rfl ?_
        refine V_istore (q := 72) dX11_rope_70 (Nat.le_of_ble_eq_true rfl) trivial rfl ?_
        refine V_aload_n (q := 73) dX11_rope_72 rfl rfl rfl ?_
        refine V_getO (q := 76) (t := 86) fl_X11_55 rfl rfl rfl rfl dX11_rope_73 rfl ?_
        refine V_iload (q := 78) dX11_rope_76 rfl rfl ?_
        refine V_iload (q := 80) dX11_rope_78 rfl rfl ?_
        obtain ⟨hi22, h⟩ := stA_i h
        refine V_iastore (q := 81) rfl hi22 dX11_rope_80 rfl ?_
        refine V_iload (q := 83) dX11_rope_81 rfl rfl ?_
        refine V_iconst (q := 84) dX11_rope_83 rfl rfl ?_
        refine V_icmpeq (q := 106) (q2 := 87) dX11_rope_84 (by decide) rfl (fun hc23 => ?_) (fun hc23 => ?_)
        · have h := ifT hc23 h
          refine V_iinc (q := 109) dX11_rope_106 rfl (Nat.le_of_ble_eq_true rfl) trivial rfl ?_
          refine V_goto (q := 27) dX11_rope_109 (by decide) ?_
          exact V_weak (ih h) (sb_s rfl (sb_s rfl (sb_s rfl (sb_s rfl (sb_s rfl (sb_s rfl (sb_n (sb_n sb_0))))))))
        · have h := ifF hc23 h
          refine V_iload_n (q := 88) dX11_rope_87 rfl rfl rfl ?_
          refine V_iconst (q := 89) dX11_rope_88 rfl rfl ?_
          refine V_icmpeq (q := 99) (q2 := 92) dX11_rope_89 (by decide) rfl (fun hc24 => ?_) (fun hc24 => ?_)
          · have h := ifT hc24 h
            refine V_iload (q := 101) dX11_rope_99 rfl rfl ?_
            refine V_istore_n (q := 102) dX11_rope_101 rfl (Nat.le_of_ble_eq_true rfl) trivial rfl ?_
            refine V_iload (q := 104) dX11_rope_102 rfl rfl ?_
            refine V_istore (q := 106) dX11_rope_104 (Nat.le_of_ble_eq_true rfl) trivial rfl ?_
            refine V_iinc (q := 109) dX11_rope_106 rfl (Nat.le_of_ble_eq_true rfl) trivial rfl ?_
            refine V_goto (q := 27) dX11_rope_109 (by decide) ?_
            exact V_weak (ih h) (sb_s rfl (sb_s rfl (sb_s rfl (sb_s rfl (sb_s rfl (sb_s rfl (sb_n (sb_n sb_0))))))))
          · have h := ifF hc24 h
            refine V_iload (q := 94) dX11_rope_92 rfl rfl ?_
            refine V_iload (q := 96) dX11_rope_94 rfl rfl ?_
            refine V_icmpge (q := 106) (q2 := 99) dX11_rope_96 (by decide) rfl (fun hc25 => ?_) (fun hc25 => ?_)
            · have h := ifT hc25 h
              refine V_iinc (q := 109) dX11_rope_106 rfl (Nat.le_of_ble_eq_true rfl) trivial rfl ?_
              refine V_goto (q := 27) dX11_rope_109 (by decide) ?_
              exact V_weak (ih h) (sb_s rfl (sb_s rfl (sb_s rfl (sb_s rfl (sb_s rfl (sb_s rfl (sb_n (sb_n sb_0))))))))
            · have h := ifF hc25 h
              refine V_iload (q := 101) dX11_rope_99 rfl rfl ?_
              refine V_istore_n (q := 102) dX11_rope_101 rfl (Nat.le_of_ble_eq_true rfl) trivial rfl ?_
              refine V_iload (q := 104) dX11_rope_102 rfl rfl ?_
              refine V_istore (q := 106) dX11_rope_104 (Nat.le_of_ble_eq_true rfl) trivial rfl ?_
              refine V_iinc (q := 109) dX11_rope_106 rfl (Nat.le_of_ble_eq_true rfl) trivial rfl ?_
              refine V_goto (q := 27) dX11_rope_109 (by decide) ?_
              exact V_weak (ih h) (sb_s rfl (sb_s rfl (sb_s rfl (sb_s rfl (sb_s rfl (sb_s rfl (sb_n (sb_n sb_0))))))))
set_option maxHeartbeats 4000000 in
set_option maxRecDepth 100000 in
theorem kX11_rope (d : Nat) (hd : 135 ≤ d) {l1 : Int} {l2 : Int} {μ : Mm} {r : Int} {μ' : Mm} (h : X11_rope l1 l2 μ = some (r, μ')) : CC d mX11_rope [vR 70, vI l1, vI l2] μ r μ' := by
  unfold X11_rope at h
  refine V_enter (by decide) (Nat.le_of_ble_eq_true rfl) ?_
  show VV d mX11_rope 0 [some (vR 70), some (vI l1), some (vI l2), none, none, none, none, none] [] μ r μ'
  refine V_aload_n (q := 1) dX11_rope_0 rfl rfl rfl ?_
  refine V_iload_n (q := 2) dX11_rope_1 rfl rfl rfl ?_
  obtain ⟨v1, μ2, hc3, h⟩ := bd_i h
  refine V_cV1 (q := 5) (v := vI v1) (kX11_isReady (d - 1) (by omega) hc3) (by omega) mv_X11_335 rfl rfl rfl rfl rfl rfl dX11_rope_2 rfl ?_
  refine V_ifeq (q := 17) (q2 := 8) dX11_rope_5 (by decide) rfl (fun hc4 => ?_) (fun hc4 => ?_)
  · have h := ifT hc4 h
    refine V_iconst (q := 18) dX11_rope_17 rfl rfl ?_
    exact V_iret rfl h dX11_rope_18
  · have h := ifF hc4 h
    refine V_iload_n (q := 9) dX11_rope_8 rfl rfl rfl ?_
    refine V_iconst (q := 10) dX11_rope_9 rfl rfl ?_
    refine V_iconst (q := 11) dX11_rope_10 rfl rfl ?_
    obtain ⟨v5, μ6, hc7, h⟩ := bd_i h
    refine V_cS1 (q := 14) (v := vI v5) (kX11_in (d - 1) (by omega) hc7) (by omega) mv_X11_213 rfl rfl rfl rfl dX11_rope_11 rfl ?_
    refine V_ifne (q := 19) (q2 := 17) dX11_rope_14 (by decide) rfl (fun hc8 => ?_) (fun hc8 => ?_)
    · have h := ifF hc8 h
      refine V_iconst (q := 20) dX11_rope_19 rfl rfl ?_
      refine V_istore_n (q := 21) dX11_rope_20 rfl (Nat.le_of_ble_eq_true rfl) trivial rfl ?_
      refine V_iconst (q := 22) dX11_rope_21 rfl rfl ?_
      refine V_istore (q := 24) dX11_rope_22 (Nat.le_of_ble_eq_true rfl) trivial rfl ?_
      refine V_iconst (q := 25) dX11_rope_24 rfl rfl ?_
      refine V_istore (q := 27) dX11_rope_25 (Nat.le_of_ble_eq_true rfl) trivial rfl ?_
      refine V_weak (kX11_rope_L27 d hd (fun v26 v27 μ28 h => ?_) FU h) (sb_s rfl (sb_s rfl (sb_s rfl (sb_s rfl (sb_s rfl (sb_s rfl (sb_n (sb_n sb_0))))))))
      refine V_iload_n (q := 113) dX11_rope_112 rfl rfl rfl ?_
      refine V_iconst (q := 114) dX11_rope_113 rfl rfl ?_
      refine V_icmpeq (q := 121) (q2 := 117) dX11_rope_114 (by decide) rfl (fun hc29 => ?_) (fun hc29 => ?_)
      · have h := ifT hc29 h
        refine V_iload_n (q := 122) dX11_rope_121 rfl rfl rfl ?_
        refine V_goto (q := 127) dX11_rope_122 (by decide) ?_
        exact V_iret rfl h dX11_rope_127
      · have h := ifF hc29 h
        refine V_iload_n (q := 118) dX11_rope_117 rfl rfl rfl ?_
        refine V_ifne (q := 125) (q2 := 121) dX11_rope_118 (by decide) rfl (fun hc30 => ?_) (fun hc30 => ?_)
        · have h := ifF hc30 h
          refine V_iload (q := 127) dX11_rope_125 rfl rfl ?_
          exact V_iret rfl h dX11_rope_127
        · have h := ifT hc30 h
          refine V_iload_n (q := 122) dX11_rope_121 rfl rfl rfl ?_
          refine V_goto (q := 127) dX11_rope_122 (by decide) ?_
          exact V_iret rfl h dX11_rope_127
    · have h := ifT hc8 h
      refine V_iconst (q := 18) dX11_rope_17 rfl rfl ?_
      exact V_iret rfl h dX11_rope_18
abbrev mX11_bothNow : Mth := (yX11_bothNow, cX11_bothNow, 5, some .int)
set_option maxRecDepth 100000 in
theorem mi_X11_bothNow : Cond.instanceMethod yX11_bothNow ∈ tG ∧ Cond.selects yX11_bothNow.cls yX11_bothNow yX11_bothNow ∈ tG ∧ Cond.initialized yX11_bothNow.cls ∈ tG ∧ Cond.code yX11_bothNow cX11_bothNow 5 (some .int) ∈ tG ∧ (yX11_bothNow.cls ≠ "java/lang/invoke/MethodHandle" ∧ yX11_bothNow.cls ≠ "java/lang/invoke/VarHandle" ∧ (parseMethodDescriptor yX11_bothNow.desc).map (fun d => d.parameters.length) = some 2) ∧ 5 ≤ 60 := ⟨(tG_of (tb7 (List.mem_of_getElem? (i := 110) rfl)) (by decide +kernel)), (tG_of (List.mem_of_getElem? (i := 94) (by decide +kernel)) (by decide +kernel)), (tG_of (tb1 (List.mem_of_getElem? (i := 12) rfl)) (by decide +kernel)), (tG_of (tb7 (List.mem_of_getElem? (i := 111) rfl)) (by decide +kernel)), ⟨by decide, by decide, by decide +kernel⟩, by decide⟩
set_option maxRecDepth 100000 in
theorem mv_X11_369 : mV RX11 369 mX11_bothNow 2 := ⟨(tG_of (tb7 (List.mem_of_getElem? (i := 108) rfl)) (by decide +kernel)), mi_X11_bothNow⟩
theorem dX11_bothNow_0 : decode cX11_bothNow 0 = .ok (.aload_n 0, 1) := dc_42 (byA eNcX11_bothNow (p := 0) (v := 42) (by decide +kernel))
theorem dX11_bothNow_1 : decode cX11_bothNow 1 = .ok (.iload_n 1, 1) := dc_27 (byA eNcX11_bothNow (p := 1) (v := 27) (by decide +kernel))
theorem dX11_bothNow_2 : decode cX11_bothNow 2 = .ok (.invokevirtual 366, 3) := dc_182 (byA eNcX11_bothNow (p := 2) (v := 182) (by decide +kernel)) (byA eNcX11_bothNow (p := 3) (v := 1) (by decide +kernel)) (byA eNcX11_bothNow (p := 4) (v := 110) (by decide +kernel)) rfl
theorem dX11_bothNow_5 : decode cX11_bothNow 5 = .ok (.istore_n 3, 1) := dc_62 (byA eNcX11_bothNow (p := 5) (v := 62) (by decide +kernel))
theorem dX11_bothNow_6 : decode cX11_bothNow 6 = .ok (.aload_n 0, 1) := dc_42 (byA eNcX11_bothNow (p := 6) (v := 42) (by decide +kernel))
theorem dX11_bothNow_7 : decode cX11_bothNow 7 = .ok (.iload_n 2, 1) := dc_28 (byA eNcX11_bothNow (p := 7) (v := 28) (by decide +kernel))
theorem dX11_bothNow_8 : decode cX11_bothNow 8 = .ok (.invokevirtual 366, 3) := dc_182 (byA eNcX11_bothNow (p := 8) (v := 182) (by decide +kernel)) (byA eNcX11_bothNow (p := 9) (v := 1) (by decide +kernel)) (byA eNcX11_bothNow (p := 10) (v := 110) (by decide +kernel)) rfl
theorem dX11_bothNow_11 : decode cX11_bothNow 11 = .ok (.istore 4, 2) := dc_54 (byA eNcX11_bothNow (p := 11) (v := 54) (by decide +kernel)) (byA eNcX11_bothNow (p := 12) (v := 4) (by decide +kernel))
theorem dX11_bothNow_13 : decode cX11_bothNow 13 = .ok (.iload_n 3, 1) := dc_29 (byA eNcX11_bothNow (p := 13) (v := 29) (by decide +kernel))
theorem dX11_bothNow_14 : decode cX11_bothNow 14 = .ok (.iconst (-1), 1) := dc_2 (byA eNcX11_bothNow (p := 14) (v := 2) (by decide +kernel))
theorem dX11_bothNow_15 : decode cX11_bothNow 15 = .ok (.if_icmp .eq 9, 3) := dc_159 (byA eNcX11_bothNow (p := 15) (v := 159) (by decide +kernel)) (byA eNcX11_bothNow (p := 16) (v := 0) (by decide +kernel)) (byA eNcX11_bothNow (p := 17) (v := 9) (by decide +kernel)) (by decide +kernel)
theorem dX11_bothNow_18 : decode cX11_bothNow 18 = .ok (.iload 4, 2) := dc_21 (byA eNcX11_bothNow (p := 18) (v := 21) (by decide +kernel)) (byA eNcX11_bothNow (p := 19) (v := 4) (by decide +kernel))
theorem dX11_bothNow_20 : decode cX11_bothNow 20 = .ok (.iconst (-1), 1) := dc_2 (byA eNcX11_bothNow (p := 20) (v := 2) (by decide +kernel))
theorem dX11_bothNow_21 : decode cX11_bothNow 21 = .ok (.if_icmp .ne 7, 3) := dc_160 (byA eNcX11_bothNow (p := 21) (v := 160) (by decide +kernel)) (byA eNcX11_bothNow (p := 22) (v := 0) (by decide +kernel)) (byA eNcX11_bothNow (p := 23) (v := 7) (by decide +kernel)) (by decide +kernel)
theorem dX11_bothNow_24 : decode cX11_bothNow 24 = .ok (.iconst (-1), 1) := dc_2 (byA eNcX11_bothNow (p := 24) (v := 2) (by decide +kernel))
theorem dX11_bothNow_25 : decode cX11_bothNow 25 = .ok (.goto 7, 3) := dc_167 (byA eNcX11_bothNow (p := 25) (v := 167) (by decide +kernel)) (byA eNcX11_bothNow (p := 26) (v := 0) (by decide +kernel)) (byA eNcX11_bothNow (p := 27) (v := 7) (by decide +kernel)) (by decide +kernel)
theorem dX11_bothNow_28 : decode cX11_bothNow 28 = .ok (.iload_n 3, 1) := dc_29 (byA eNcX11_bothNow (p := 28) (v := 29) (by decide +kernel))
theorem dX11_bothNow_29 : decode cX11_bothNow 29 = .ok (.iload 4, 2) := dc_21 (byA eNcX11_bothNow (p := 29) (v := 21) (by decide +kernel)) (byA eNcX11_bothNow (p := 30) (v := 4) (by decide +kernel))
theorem dX11_bothNow_31 : decode cX11_bothNow 31 = .ok (.iadd, 1) := dc_96 (byA eNcX11_bothNow (p := 31) (v := 96) (by decide +kernel))
theorem dX11_bothNow_32 : decode cX11_bothNow 32 = .ok (.ireturn, 1) := dc_172 (byA eNcX11_bothNow (p := 32) (v := 172) (by decide +kernel))
def X11_bothNow (l1 : Int) (l2 : Int) (μ : Mm) : Rs := bd (X11_leastNow l1 μ) fun v1 μ2 => bd (X11_leastNow l2 μ2) fun v4 μ5 => if v1 = (-1) then (some ((-1), μ5)) else (if v4 = (-1) then (some ((-1), μ5)) else (some (iA v1 v4, μ5)))
set_option maxHeartbeats 4000000 in
set_option maxRecDepth 100000 in
theorem kX11_bothNow (d : Nat) (hd : 135 ≤ d) {l1 : Int} {l2 : Int} {μ : Mm} {r : Int} {μ' : Mm} (h : X11_bothNow l1 l2 μ = some (r, μ')) : CC d mX11_bothNow [vR 70, vI l1, vI l2] μ r μ' := by
  unfold X11_bothNow at h
  refine V_enter (by decide) (Nat.le_of_ble_eq_true rfl) ?_
  show VV d mX11_bothNow 0 [some (vR 70), some (vI l1), some (vI l2), none, none] [] μ r μ'
  refine V_aload_n (q := 1) dX11_bothNow_0 rfl rfl rfl ?_
  refine V_iload_n (q := 2) dX11_bothNow_1 rfl rfl rfl ?_
  obtain ⟨v1, μ2, hc3, h⟩ := bd_i h
  refine V_cV1 (q := 5) (v := vI v1) (kX11_leastNow (d - 1) (by omega) hc3) (by omega) mv_X11_366 rfl rfl rfl rfl rfl rfl dX11_bothNow_2 rfl ?_
  refine V_istore_n (q := 6) dX11_bothNow_5 rfl (Nat.le_of_ble_eq_true rfl) trivial rfl ?_
  refine V_aload_n (q := 7) dX11_bothNow_6 rfl rfl rfl ?_
  refine V_iload_n (q := 8) dX11_bothNow_7 rfl rfl rfl ?_
  obtain ⟨v4, μ5, hc6, h⟩ := bd_i h
  refine V_cV1 (q := 11) (v := vI v4) (kX11_leastNow (d - 1) (by omega) hc6) (by omega) mv_X11_366 rfl rfl rfl rfl rfl rfl dX11_bothNow_8 rfl ?_
  refine V_istore (q := 13) dX11_bothNow_11 (Nat.le_of_ble_eq_true rfl) trivial rfl ?_
  refine V_iload_n (q := 14) dX11_bothNow_13 rfl rfl rfl ?_
  refine V_iconst (q := 15) dX11_bothNow_14 rfl rfl ?_
  refine V_icmpeq (q := 24) (q2 := 18) dX11_bothNow_15 (by decide) rfl (fun hc7 => ?_) (fun hc7 => ?_)
  · have h := ifT hc7 h
    refine V_iconst (q := 25) dX11_bothNow_24 rfl rfl ?_
    refine V_goto (q := 32) dX11_bothNow_25 (by decide) ?_
    exact V_iret rfl h dX11_bothNow_32
  · have h := ifF hc7 h
    refine V_iload (q := 20) dX11_bothNow_18 rfl rfl ?_
    refine V_iconst (q := 21) dX11_bothNow_20 rfl rfl ?_
    refine V_icmpne (q := 28) (q2 := 24) dX11_bothNow_21 (by decide) rfl (fun hc8 => ?_) (fun hc8 => ?_)
    · have h := ifF hc8 h
      refine V_iload_n (q := 29) dX11_bothNow_28 rfl rfl rfl ?_
      refine V_iload (q := 31) dX11_bothNow_29 rfl rfl ?_
      refine V_iadd (q := 32) dX11_bothNow_31 rfl ?_
      exact V_iret rfl h dX11_bothNow_32
    · have h := ifT hc8 h
      refine V_iconst (q := 25) dX11_bothNow_24 rfl rfl ?_
      refine V_goto (q := 32) dX11_bothNow_25 (by decide) ?_
      exact V_iret rfl h dX11_bothNow_32
abbrev mX11_exchange : Mth := (yX11_exchange, cX11_exchange, 9, some .int)
set_option maxRecDepth 100000 in
theorem mi_X11_exchange : Cond.instanceMethod yX11_exchange ∈ tG ∧ Cond.selects yX11_exchange.cls yX11_exchange yX11_exchange ∈ tG ∧ Cond.initialized yX11_exchange.cls ∈ tG ∧ Cond.code yX11_exchange cX11_exchange 9 (some .int) ∈ tG ∧ (yX11_exchange.cls ≠ "java/lang/invoke/MethodHandle" ∧ yX11_exchange.cls ≠ "java/lang/invoke/VarHandle" ∧ (parseMethodDescriptor yX11_exchange.desc).map (fun d => d.parameters.length) = some 3) ∧ 9 ≤ 60 := ⟨(tG_of (tb7 (List.mem_of_getElem? (i := 105) rfl)) (by decide +kernel)), (tG_of (tb7 (List.mem_of_getElem? (i := 106) rfl)) (by decide +kernel)), (tG_of (tb1 (List.mem_of_getElem? (i := 12) rfl)) (by decide +kernel)), (tG_of (tb7 (List.mem_of_getElem? (i := 107) rfl)) (by decide +kernel)), ⟨by decide, by decide, by decide +kernel⟩, by decide⟩
theorem dX11_exchange_0 : decode cX11_exchange 0 = .ok (.aload_n 0, 1) := dc_42 (byA eNcX11_exchange (p := 0) (v := 42) (by decide +kernel))
theorem dX11_exchange_1 : decode cX11_exchange 1 = .ok (.iload_n 1, 1) := dc_27 (byA eNcX11_exchange (p := 1) (v := 27) (by decide +kernel))
theorem dX11_exchange_2 : decode cX11_exchange 2 = .ok (.invokevirtual 335, 3) := dc_182 (byA eNcX11_exchange (p := 2) (v := 182) (by decide +kernel)) (byA eNcX11_exchange (p := 3) (v := 1) (by decide +kernel)) (byA eNcX11_exchange (p := 4) (v := 79) (by decide +kernel)) rfl
theorem dX11_exchange_5 : decode cX11_exchange 5 = .ok (.ifCond .eq 25, 3) := dc_153 (byA eNcX11_exchange (p := 5) (v := 153) (by decide +kernel)) (byA eNcX11_exchange (p := 6) (v := 0) (by decide +kernel)) (byA eNcX11_exchange (p := 7) (v := 25) (by decide +kernel)) (by decide +kernel)
theorem dX11_exchange_8 : decode cX11_exchange 8 = .ok (.aload_n 0, 1) := dc_42 (byA eNcX11_exchange (p := 8) (v := 42) (by decide +kernel))
theorem dX11_exchange_9 : decode cX11_exchange 9 = .ok (.iload_n 2, 1) := dc_28 (byA eNcX11_exchange (p := 9) (v := 28) (by decide +kernel))
theorem dX11_exchange_10 : decode cX11_exchange 10 = .ok (.invokevirtual 335, 3) := dc_182 (byA eNcX11_exchange (p := 10) (v := 182) (by decide +kernel)) (byA eNcX11_exchange (p := 11) (v := 1) (by decide +kernel)) (byA eNcX11_exchange (p := 12) (v := 79) (by decide +kernel)) rfl
theorem dX11_exchange_13 : decode cX11_exchange 13 = .ok (.ifCond .eq 17, 3) := dc_153 (byA eNcX11_exchange (p := 13) (v := 153) (by decide +kernel)) (byA eNcX11_exchange (p := 14) (v := 0) (by decide +kernel)) (byA eNcX11_exchange (p := 15) (v := 17) (by decide +kernel)) (by decide +kernel)
theorem dX11_exchange_16 : decode cX11_exchange 16 = .ok (.iload_n 1, 1) := dc_27 (byA eNcX11_exchange (p := 16) (v := 27) (by decide +kernel))
theorem dX11_exchange_17 : decode cX11_exchange 17 = .ok (.iload_n 2, 1) := dc_28 (byA eNcX11_exchange (p := 17) (v := 28) (by decide +kernel))
theorem dX11_exchange_18 : decode cX11_exchange 18 = .ok (.if_icmp .eq 12, 3) := dc_159 (byA eNcX11_exchange (p := 18) (v := 159) (by decide +kernel)) (byA eNcX11_exchange (p := 19) (v := 0) (by decide +kernel)) (byA eNcX11_exchange (p := 20) (v := 12) (by decide +kernel)) (by decide +kernel)
theorem dX11_exchange_21 : decode cX11_exchange 21 = .ok (.iload_n 3, 1) := dc_29 (byA eNcX11_exchange (p := 21) (v := 29) (by decide +kernel))
theorem dX11_exchange_22 : decode cX11_exchange 22 = .ok (.iconst 0, 1) := dc_3 (byA eNcX11_exchange (p := 22) (v := 3) (by decide +kernel))
theorem dX11_exchange_23 : decode cX11_exchange 23 = .ok (.iconst 1, 1) := dc_4 (byA eNcX11_exchange (p := 23) (v := 4) (by decide +kernel))
theorem dX11_exchange_24 : decode cX11_exchange 24 = .ok (.invokestatic 213, 3) := dc_184 (byA eNcX11_exchange (p := 24) (v := 184) (by decide +kernel)) (byA eNcX11_exchange (p := 25) (v := 0) (by decide +kernel)) (byA eNcX11_exchange (p := 26) (v := 213) (by decide +kernel)) rfl
theorem dX11_exchange_27 : decode cX11_exchange 27 = .ok (.ifCond .ne 5, 3) := dc_154 (byA eNcX11_exchange (p := 27) (v := 154) (by decide +kernel)) (byA eNcX11_exchange (p := 28) (v := 0) (by decide +kernel)) (byA eNcX11_exchange (p := 29) (v := 5) (by decide +kernel)) (by decide +kernel)
theorem dX11_exchange_30 : decode cX11_exchange 30 = .ok (.iconst (-1), 1) := dc_2 (byA eNcX11_exchange (p := 30) (v := 2) (by decide +kernel))
theorem dX11_exchange_31 : decode cX11_exchange 31 = .ok (.ireturn, 1) := dc_172 (byA eNcX11_exchange (p := 31) (v := 172) (by decide +kernel))
theorem dX11_exchange_32 : decode cX11_exchange 32 = .ok (.iconst 0, 1) := dc_3 (byA eNcX11_exchange (p := 32) (v := 3) (by decide +kernel))
theorem dX11_exchange_33 : decode cX11_exchange 33 = .ok (.istore 4, 2) := dc_54 (byA eNcX11_exchange (p := 33) (v := 54) (by decide +kernel)) (byA eNcX11_exchange (p := 34) (v := 4) (by decide +kernel))
theorem dX11_exchange_35 : decode cX11_exchange 35 = .ok (.aload_n 0, 1) := dc_42 (byA eNcX11_exchange (p := 35) (v := 42) (by decide +kernel))
theorem dX11_exchange_36 : decode cX11_exchange 36 = .ok (.iload_n 1, 1) := dc_27 (byA eNcX11_exchange (p := 36) (v := 27) (by decide +kernel))
theorem dX11_exchange_37 : decode cX11_exchange 37 = .ok (.iload_n 2, 1) := dc_28 (byA eNcX11_exchange (p := 37) (v := 28) (by decide +kernel))
theorem dX11_exchange_38 : decode cX11_exchange 38 = .ok (.invokevirtual 369, 3) := dc_182 (byA eNcX11_exchange (p := 38) (v := 182) (by decide +kernel)) (byA eNcX11_exchange (p := 39) (v := 1) (by decide +kernel)) (byA eNcX11_exchange (p := 40) (v := 113) (by decide +kernel)) rfl
theorem dX11_exchange_41 : decode cX11_exchange 41 = .ok (.istore 5, 2) := dc_54 (byA eNcX11_exchange (p := 41) (v := 54) (by decide +kernel)) (byA eNcX11_exchange (p := 42) (v := 5) (by decide +kernel))
theorem dX11_exchange_43 : decode cX11_exchange 43 = .ok (.iconst 0, 1) := dc_3 (byA eNcX11_exchange (p := 43) (v := 3) (by decide +kernel))
theorem dX11_exchange_44 : decode cX11_exchange 44 = .ok (.istore 6, 2) := dc_54 (byA eNcX11_exchange (p := 44) (v := 54) (by decide +kernel)) (byA eNcX11_exchange (p := 45) (v := 6) (by decide +kernel))
theorem dX11_exchange_46 : decode cX11_exchange 46 = .ok (.iload 6, 2) := dc_21 (byA eNcX11_exchange (p := 46) (v := 21) (by decide +kernel)) (byA eNcX11_exchange (p := 47) (v := 6) (by decide +kernel))
theorem dX11_exchange_48 : decode cX11_exchange 48 = .ok (.bipush 8, 2) := dc_16 (byA eNcX11_exchange (p := 48) (v := 16) (by decide +kernel)) (byA eNcX11_exchange (p := 49) (v := 8) (by decide +kernel)) (by decide +kernel)
theorem dX11_exchange_50 : decode cX11_exchange 50 = .ok (.if_icmp .ge 103, 3) := dc_162 (byA eNcX11_exchange (p := 50) (v := 162) (by decide +kernel)) (byA eNcX11_exchange (p := 51) (v := 0) (by decide +kernel)) (byA eNcX11_exchange (p := 52) (v := 103) (by decide +kernel)) (by decide +kernel)
theorem dX11_exchange_53 : decode cX11_exchange 53 = .ok (.iload 6, 2) := dc_21 (byA eNcX11_exchange (p := 53) (v := 21) (by decide +kernel)) (byA eNcX11_exchange (p := 54) (v := 6) (by decide +kernel))
theorem dX11_exchange_55 : decode cX11_exchange 55 = .ok (.iconst 1, 1) := dc_4 (byA eNcX11_exchange (p := 55) (v := 4) (by decide +kernel))
theorem dX11_exchange_56 : decode cX11_exchange 56 = .ok (.iadd, 1) := dc_96 (byA eNcX11_exchange (p := 56) (v := 96) (by decide +kernel))
theorem dX11_exchange_57 : decode cX11_exchange 57 = .ok (.istore 7, 2) := dc_54 (byA eNcX11_exchange (p := 57) (v := 54) (by decide +kernel)) (byA eNcX11_exchange (p := 58) (v := 7) (by decide +kernel))
theorem dX11_exchange_59 : decode cX11_exchange 59 = .ok (.iload 7, 2) := dc_21 (byA eNcX11_exchange (p := 59) (v := 21) (by decide +kernel)) (byA eNcX11_exchange (p := 60) (v := 7) (by decide +kernel))
theorem dX11_exchange_61 : decode cX11_exchange 61 = .ok (.bipush 8, 2) := dc_16 (byA eNcX11_exchange (p := 61) (v := 16) (by decide +kernel)) (byA eNcX11_exchange (p := 62) (v := 8) (by decide +kernel)) (by decide +kernel)
theorem dX11_exchange_63 : decode cX11_exchange 63 = .ok (.if_icmp .ge 84, 3) := dc_162 (byA eNcX11_exchange (p := 63) (v := 162) (by decide +kernel)) (byA eNcX11_exchange (p := 64) (v := 0) (by decide +kernel)) (byA eNcX11_exchange (p := 65) (v := 84) (by decide +kernel)) (by decide +kernel)
theorem dX11_exchange_66 : decode cX11_exchange 66 = .ok (.aload_n 0, 1) := dc_42 (byA eNcX11_exchange (p := 66) (v := 42) (by decide +kernel))
theorem dX11_exchange_67 : decode cX11_exchange 67 = .ok (.iload 6, 2) := dc_21 (byA eNcX11_exchange (p := 67) (v := 21) (by decide +kernel)) (byA eNcX11_exchange (p := 68) (v := 6) (by decide +kernel))
theorem dX11_exchange_69 : decode cX11_exchange 69 = .ok (.invokevirtual 284, 3) := dc_182 (byA eNcX11_exchange (p := 69) (v := 182) (by decide +kernel)) (byA eNcX11_exchange (p := 70) (v := 1) (by decide +kernel)) (byA eNcX11_exchange (p := 71) (v := 28) (by decide +kernel)) rfl
theorem dX11_exchange_72 : decode cX11_exchange 72 = .ok (.ifCond .eq 69, 3) := dc_153 (byA eNcX11_exchange (p := 72) (v := 153) (by decide +kernel)) (byA eNcX11_exchange (p := 73) (v := 0) (by decide +kernel)) (byA eNcX11_exchange (p := 74) (v := 69) (by decide +kernel)) (by decide +kernel)
theorem dX11_exchange_75 : decode cX11_exchange 75 = .ok (.aload_n 0, 1) := dc_42 (byA eNcX11_exchange (p := 75) (v := 42) (by decide +kernel))
theorem dX11_exchange_76 : decode cX11_exchange 76 = .ok (.iload 7, 2) := dc_21 (byA eNcX11_exchange (p := 76) (v := 21) (by decide +kernel)) (byA eNcX11_exchange (p := 77) (v := 7) (by decide +kernel))
theorem dX11_exchange_78 : decode cX11_exchange 78 = .ok (.invokevirtual 284, 3) := dc_182 (byA eNcX11_exchange (p := 78) (v := 182) (by decide +kernel)) (byA eNcX11_exchange (p := 79) (v := 1) (by decide +kernel)) (byA eNcX11_exchange (p := 80) (v := 28) (by decide +kernel)) rfl
theorem dX11_exchange_81 : decode cX11_exchange 81 = .ok (.ifCond .eq 60, 3) := dc_153 (byA eNcX11_exchange (p := 81) (v := 153) (by decide +kernel)) (byA eNcX11_exchange (p := 82) (v := 0) (by decide +kernel)) (byA eNcX11_exchange (p := 83) (v := 60) (by decide +kernel)) (by decide +kernel)
theorem dX11_exchange_84 : decode cX11_exchange 84 = .ok (.aload_n 0, 1) := dc_42 (byA eNcX11_exchange (p := 84) (v := 42) (by decide +kernel))
theorem dX11_exchange_85 : decode cX11_exchange 85 = .ok (.iload 6, 2) := dc_21 (byA eNcX11_exchange (p := 85) (v := 21) (by decide +kernel)) (byA eNcX11_exchange (p := 86) (v := 6) (by decide +kernel))
theorem dX11_exchange_87 : decode cX11_exchange 87 = .ok (.iload 7, 2) := dc_21 (byA eNcX11_exchange (p := 87) (v := 21) (by decide +kernel)) (byA eNcX11_exchange (p := 88) (v := 7) (by decide +kernel))
theorem dX11_exchange_89 : decode cX11_exchange 89 = .ok (.invokevirtual 313, 3) := dc_182 (byA eNcX11_exchange (p := 89) (v := 182) (by decide +kernel)) (byA eNcX11_exchange (p := 90) (v := 1) (by decide +kernel)) (byA eNcX11_exchange (p := 91) (v := 57) (by decide +kernel)) rfl
theorem dX11_exchange_92 : decode cX11_exchange 92 = .ok (.aload_n 0, 1) := dc_42 (byA eNcX11_exchange (p := 92) (v := 42) (by decide +kernel))
theorem dX11_exchange_93 : decode cX11_exchange 93 = .ok (.iload_n 1, 1) := dc_27 (byA eNcX11_exchange (p := 93) (v := 27) (by decide +kernel))
theorem dX11_exchange_94 : decode cX11_exchange 94 = .ok (.iload_n 2, 1) := dc_28 (byA eNcX11_exchange (p := 94) (v := 28) (by decide +kernel))
theorem dX11_exchange_95 : decode cX11_exchange 95 = .ok (.invokevirtual 369, 3) := dc_182 (byA eNcX11_exchange (p := 95) (v := 182) (by decide +kernel)) (byA eNcX11_exchange (p := 96) (v := 1) (by decide +kernel)) (byA eNcX11_exchange (p := 97) (v := 113) (by decide +kernel)) rfl
theorem dX11_exchange_98 : decode cX11_exchange 98 = .ok (.istore 8, 2) := dc_54 (byA eNcX11_exchange (p := 98) (v := 54) (by decide +kernel)) (byA eNcX11_exchange (p := 99) (v := 8) (by decide +kernel))
theorem dX11_exchange_100 : decode cX11_exchange 100 = .ok (.aload_n 0, 1) := dc_42 (byA eNcX11_exchange (p := 100) (v := 42) (by decide +kernel))
theorem dX11_exchange_101 : decode cX11_exchange 101 = .ok (.iload 6, 2) := dc_21 (byA eNcX11_exchange (p := 101) (v := 21) (by decide +kernel)) (byA eNcX11_exchange (p := 102) (v := 6) (by decide +kernel))
theorem dX11_exchange_103 : decode cX11_exchange 103 = .ok (.iload 7, 2) := dc_21 (byA eNcX11_exchange (p := 103) (v := 21) (by decide +kernel)) (byA eNcX11_exchange (p := 104) (v := 7) (by decide +kernel))
theorem dX11_exchange_105 : decode cX11_exchange 105 = .ok (.invokevirtual 313, 3) := dc_182 (byA eNcX11_exchange (p := 105) (v := 182) (by decide +kernel)) (byA eNcX11_exchange (p := 106) (v := 1) (by decide +kernel)) (byA eNcX11_exchange (p := 107) (v := 57) (by decide +kernel)) rfl
theorem dX11_exchange_108 : decode cX11_exchange 108 = .ok (.iload 8, 2) := dc_21 (byA eNcX11_exchange (p := 108) (v := 21) (by decide +kernel)) (byA eNcX11_exchange (p := 109) (v := 8) (by decide +kernel))
theorem dX11_exchange_110 : decode cX11_exchange 110 = .ok (.iconst (-1), 1) := dc_2 (byA eNcX11_exchange (p := 110) (v := 2) (by decide +kernel))
theorem dX11_exchange_111 : decode cX11_exchange 111 = .ok (.if_icmp .eq 30, 3) := dc_159 (byA eNcX11_exchange (p := 111) (v := 159) (by decide +kernel)) (byA eNcX11_exchange (p := 112) (v := 0) (by decide +kernel)) (byA eNcX11_exchange (p := 113) (v := 30) (by decide +kernel)) (by decide +kernel)
theorem dX11_exchange_114 : decode cX11_exchange 114 = .ok (.iload 5, 2) := dc_21 (byA eNcX11_exchange (p := 114) (v := 21) (by decide +kernel)) (byA eNcX11_exchange (p := 115) (v := 5) (by decide +kernel))
theorem dX11_exchange_116 : decode cX11_exchange 116 = .ok (.iconst (-1), 1) := dc_2 (byA eNcX11_exchange (p := 116) (v := 2) (by decide +kernel))
theorem dX11_exchange_117 : decode cX11_exchange 117 = .ok (.if_icmp .eq 10, 3) := dc_159 (byA eNcX11_exchange (p := 117) (v := 159) (by decide +kernel)) (byA eNcX11_exchange (p := 118) (v := 0) (by decide +kernel)) (byA eNcX11_exchange (p := 119) (v := 10) (by decide +kernel)) (by decide +kernel)
theorem dX11_exchange_120 : decode cX11_exchange 120 = .ok (.iload 8, 2) := dc_21 (byA eNcX11_exchange (p := 120) (v := 21) (by decide +kernel)) (byA eNcX11_exchange (p := 121) (v := 8) (by decide +kernel))
theorem dX11_exchange_122 : decode cX11_exchange 122 = .ok (.iload 5, 2) := dc_21 (byA eNcX11_exchange (p := 122) (v := 21) (by decide +kernel)) (byA eNcX11_exchange (p := 123) (v := 5) (by decide +kernel))
theorem dX11_exchange_124 : decode cX11_exchange 124 = .ok (.if_icmp .ge 17, 3) := dc_162 (byA eNcX11_exchange (p := 124) (v := 162) (by decide +kernel)) (byA eNcX11_exchange (p := 125) (v := 0) (by decide +kernel)) (byA eNcX11_exchange (p := 126) (v := 17) (by decide +kernel)) (by decide +kernel)
theorem dX11_exchange_127 : decode cX11_exchange 127 = .ok (.bipush 10, 2) := dc_16 (byA eNcX11_exchange (p := 127) (v := 16) (by decide +kernel)) (byA eNcX11_exchange (p := 128) (v := 10) (by decide +kernel)) (by decide +kernel)
theorem dX11_exchange_129 : decode cX11_exchange 129 = .ok (.iload 6, 2) := dc_21 (byA eNcX11_exchange (p := 129) (v := 21) (by decide +kernel)) (byA eNcX11_exchange (p := 130) (v := 6) (by decide +kernel))
theorem dX11_exchange_131 : decode cX11_exchange 131 = .ok (.imul, 1) := dc_104 (byA eNcX11_exchange (p := 131) (v := 104) (by decide +kernel))
theorem dX11_exchange_132 : decode cX11_exchange 132 = .ok (.iload 7, 2) := dc_21 (byA eNcX11_exchange (p := 132) (v := 21) (by decide +kernel)) (byA eNcX11_exchange (p := 133) (v := 7) (by decide +kernel))
theorem dX11_exchange_134 : decode cX11_exchange 134 = .ok (.iadd, 1) := dc_96 (byA eNcX11_exchange (p := 134) (v := 96) (by decide +kernel))
theorem dX11_exchange_135 : decode cX11_exchange 135 = .ok (.istore 4, 2) := dc_54 (byA eNcX11_exchange (p := 135) (v := 54) (by decide +kernel)) (byA eNcX11_exchange (p := 136) (v := 4) (by decide +kernel))
theorem dX11_exchange_137 : decode cX11_exchange 137 = .ok (.iload 8, 2) := dc_21 (byA eNcX11_exchange (p := 137) (v := 21) (by decide +kernel)) (byA eNcX11_exchange (p := 138) (v := 8) (by decide +kernel))
theorem dX11_exchange_139 : decode cX11_exchange 139 = .ok (.istore 5, 2) := dc_54 (byA eNcX11_exchange (p := 139) (v := 54) (by decide +kernel)) (byA eNcX11_exchange (p := 140) (v := 5) (by decide +kernel))
theorem dX11_exchange_141 : decode cX11_exchange 141 = .ok (.iinc 7 1, 3) := dc_132 (byA eNcX11_exchange (p := 141) (v := 132) (by decide +kernel)) (byA eNcX11_exchange (p := 142) (v := 7) (by decide +kernel)) (byA eNcX11_exchange (p := 143) (v := 1) (by decide +kernel)) (by decide +kernel)
theorem dX11_exchange_144 : decode cX11_exchange 144 = .ok (.goto (-85), 3) := dc_167 (byA eNcX11_exchange (p := 144) (v := 167) (by decide +kernel)) (byA eNcX11_exchange (p := 145) (v := 255) (by decide +kernel)) (byA eNcX11_exchange (p := 146) (v := 171) (by decide +kernel)) (by decide +kernel)
theorem dX11_exchange_147 : decode cX11_exchange 147 = .ok (.iinc 6 1, 3) := dc_132 (byA eNcX11_exchange (p := 147) (v := 132) (by decide +kernel)) (byA eNcX11_exchange (p := 148) (v := 6) (by decide +kernel)) (byA eNcX11_exchange (p := 149) (v := 1) (by decide +kernel)) (by decide +kernel)
theorem dX11_exchange_150 : decode cX11_exchange 150 = .ok (.goto (-104), 3) := dc_167 (byA eNcX11_exchange (p := 150) (v := 167) (by decide +kernel)) (byA eNcX11_exchange (p := 151) (v := 255) (by decide +kernel)) (byA eNcX11_exchange (p := 152) (v := 152) (by decide +kernel)) (by decide +kernel)
theorem dX11_exchange_153 : decode cX11_exchange 153 = .ok (.iload 5, 2) := dc_21 (byA eNcX11_exchange (p := 153) (v := 21) (by decide +kernel)) (byA eNcX11_exchange (p := 154) (v := 5) (by decide +kernel))
theorem dX11_exchange_155 : decode cX11_exchange 155 = .ok (.iconst (-1), 1) := dc_2 (byA eNcX11_exchange (p := 155) (v := 2) (by decide +kernel))
theorem dX11_exchange_156 : decode cX11_exchange 156 = .ok (.if_icmp .ne 7, 3) := dc_160 (byA eNcX11_exchange (p := 156) (v := 160) (by decide +kernel)) (byA eNcX11_exchange (p := 157) (v := 0) (by decide +kernel)) (byA eNcX11_exchange (p := 158) (v := 7) (by decide +kernel)) (by decide +kernel)
theorem dX11_exchange_159 : decode cX11_exchange 159 = .ok (.iconst (-1), 1) := dc_2 (byA eNcX11_exchange (p := 159) (v := 2) (by decide +kernel))
theorem dX11_exchange_160 : decode cX11_exchange 160 = .ok (.goto 14, 3) := dc_167 (byA eNcX11_exchange (p := 160) (v := 167) (by decide +kernel)) (byA eNcX11_exchange (p := 161) (v := 0) (by decide +kernel)) (byA eNcX11_exchange (p := 162) (v := 14) (by decide +kernel)) (by decide +kernel)
theorem dX11_exchange_163 : decode cX11_exchange 163 = .ok (.iload_n 3, 1) := dc_29 (byA eNcX11_exchange (p := 163) (v := 29) (by decide +kernel))
theorem dX11_exchange_164 : decode cX11_exchange 164 = .ok (.ifCond .ne 8, 3) := dc_154 (byA eNcX11_exchange (p := 164) (v := 154) (by decide +kernel)) (byA eNcX11_exchange (p := 165) (v := 0) (by decide +kernel)) (byA eNcX11_exchange (p := 166) (v := 8) (by decide +kernel)) (by decide +kernel)
theorem dX11_exchange_167 : decode cX11_exchange 167 = .ok (.iload 4, 2) := dc_21 (byA eNcX11_exchange (p := 167) (v := 21) (by decide +kernel)) (byA eNcX11_exchange (p := 168) (v := 4) (by decide +kernel))
theorem dX11_exchange_169 : decode cX11_exchange 169 = .ok (.goto 5, 3) := dc_167 (byA eNcX11_exchange (p := 169) (v := 167) (by decide +kernel)) (byA eNcX11_exchange (p := 170) (v := 0) (by decide +kernel)) (byA eNcX11_exchange (p := 171) (v := 5) (by decide +kernel)) (by decide +kernel)
theorem dX11_exchange_172 : decode cX11_exchange 172 = .ok (.iload 5, 2) := dc_21 (byA eNcX11_exchange (p := 172) (v := 21) (by decide +kernel)) (byA eNcX11_exchange (p := 173) (v := 5) (by decide +kernel))
theorem dX11_exchange_174 : decode cX11_exchange 174 = .ok (.ireturn, 1) := dc_172 (byA eNcX11_exchange (p := 174) (v := 172) (by decide +kernel))
def X11_exchange_J127 (k59 : Int → Int → Int → Mm → Rs) (l1 : Int) (l2 : Int) (l3 : Int) (l6 : Int) (l7 : Int) (l8 : Int) (μ : Mm) : Rs := lt_ (iA (iM 10 l6) l7) fun v38 => k59 v38 l8 (iA l7 1) μ
def X11_exchange_L59 (l1 : Int) (l2 : Int) (l3 : Int) (l6 : Int) (k147 : Int → Int → Mm → Rs) : Nat → Int → Int → Int → Mm → Rs
  | 0, _, _, _, _ => none
  | n + 1, l4, l5, l7, μ => if 8 ≤ l7 then (k147 l4 l5 μ) else (bd (X11_isCrank l6 μ) fun v19 μ20 => if v19 = 0 then (X11_exchange_L59 l1 l2 l3 l6 k147 n l4 l5 (iA l7 1) μ20) else (bd (X11_isCrank l7 μ20) fun v23 μ24 => if v23 = 0 then (X11_exchange_L59 l1 l2 l3 l6 k147 n l4 l5 (iA l7 1) μ24) else (bd (X11_change l6 l7 μ24) fun v27 μ28 => bd (X11_bothNow l1 l2 μ28) fun v30 μ31 => bd (X11_change l6 l7 μ31) fun v33 μ34 => if v30 = (-1) then (X11_exchange_L59 l1 l2 l3 l6 k147 n l4 l5 (iA l7 1) μ34) else (if l5 = (-1) then (X11_exchange_J127 (fun w4 w5 w7 μq => X11_exchange_L59 l1 l2 l3 l6 k147 n w4 w5 w7 μq) l1 l2 l3 l6 l7 v30 μ34) else (if l5 ≤ v30 then (X11_exchange_L59 l1 l2 l3 l6 k147 n l4 l5 (iA l7 1) μ34) else (X11_exchange_J127 (fun w4 w5 w7 μq => X11_exchange_L59 l1 l2 l3 l6 k147 n w4 w5 w7 μq) l1 l2 l3 l6 l7 v30 μ34))))))
def X11_exchange_L46 (l1 : Int) (l2 : Int) (l3 : Int) (k153 : Int → Int → Mm → Rs) : Nat → Int → Int → Int → Mm → Rs
  | 0, _, _, _, _ => none
  | n + 1, l4, l5, l6, μ => if 8 ≤ l6 then (k153 l4 l5 μ) else (X11_exchange_L59 l1 l2 l3 l6 (fun v40 v41 μ42 => X11_exchange_L46 l1 l2 l3 k153 n v40 v41 (iA l6 1) μ42) FU l4 l5 (iA l6 1) μ)
def X11_exchange (l1 : Int) (l2 : Int) (l3 : Int) (μ : Mm) : Rs := bd (X11_isReady l1 μ) fun v1 μ2 => if v1 = 0 then (some ((-1), μ2)) else (bd (X11_isReady l2 μ2) fun v5 μ6 => if v5 = 0 then (some ((-1), μ6)) else (if l1 = l2 then (some ((-1), μ6)) else (bd (X11_in l3 0 1 μ6) fun v10 μ11 => if v10 = 0 then (some ((-1), μ11)) else (bd (X11_bothNow l1 l2 μ11) fun v14 μ15 => X11_exchange_L46 l1 l2 l3 (fun v43 v44 μ45 => if v44 = (-1) then (some ((-1), μ45)) else (if l3 = 0 then (some (v43, μ45)) else (some (v44, μ45)))) FU 0 v14 0 μ15))))
set_option maxHeartbeats 4000000 in
set_option maxRecDepth 100000 in
theorem kX11_exchange_J127 (d : Nat) (hd : 136 ≤ d) {k59 : Int → Int → Int → Mm → Rs} {l1 : Int} {l2 : Int} {l3 : Int} {l6 : Int} {l7 : Int} {l8 : Int} {μ : Mm} {r : Int} {μ' : Mm} (hk_59 : ∀ (v4 v5 v7 : Int) (μ1 : Mm), k59 v4 v5 v7 μ1 = some (r, μ') → VV d mX11_exchange 59 [some (vR 70), some (vI l1), some (vI l2), some (vI l3), some (vI v4), some (vI v5), some (vI l6), some (vI v7), none] [] μ1 r μ') (h : X11_exchange_J127 k59 l1 l2 l3 l6 l7 l8 μ = some (r, μ')) : VV d mX11_exchange 127 [some (vR 70), some (vI l1), some (vI l2), some (vI l3), none, none, some (vI l6), some (vI l7), some (vI l8)] [] μ r μ' := by
  unfold X11_exchange_J127 at h
  refine V_bipush (q := 129) dX11_exchange_127 rfl rfl rfl ?_
  refine V_iload (q := 131) dX11_exchange_129 rfl rfl ?_
  refine V_imul (q := 132) dX11_exchange_131 rfl ?_
  refine V_iload (q := 134) dX11_exchange_132 rfl rfl ?_
  refine V_iadd (q := 135) dX11_exchange_134 rfl ?_
  have h := lt_i h
  refine V_istore (q := 137) dX11_exchange_135 (Nat.le_of_ble_eq_true rfl) trivial rfl ?_
  refine V_iload (q := 139) dX11_exchange_137 rfl rfl ?_
  refine V_istore (q := 141) dX11_exchange_139 (Nat.le_of_ble_eq_true rfl) trivial rfl ?_
  refine V_iinc (q := 144) dX11_exchange_141 rfl (Nat.le_of_ble_eq_true rfl) trivial rfl ?_
  refine V_goto (q := 59) dX11_exchange_144 (by decide) ?_
  exact V_weak (hk_59 _ _ _ _ h) (sb_s rfl (sb_s rfl (sb_s rfl (sb_s rfl (sb_s rfl (sb_s rfl (sb_s rfl (sb_s rfl (sb_n sb_0)))))))))
set_option maxHeartbeats 4000000 in
set_option maxRecDepth 100000 in
theorem kX11_exchange_L59 (d : Nat) (hd : 136 ≤ d) {l1 : Int} {l2 : Int} {l3 : Int} {l6 : Int} {k147 : Int → Int → Mm → Rs} {r : Int} {μ' : Mm} (hk_147 : ∀ (v4 v5 : Int) (μ1 : Mm), k147 v4 v5 μ1 = some (r, μ') → VV d mX11_exchange 147 [some (vR 70), some (vI l1), some (vI l2), some (vI l3), some (vI v4), some (vI v5), some (vI l6), none, none] [] μ1 r μ') : ∀ (n : Nat) {l4 l5 l7 : Int} {μ : Mm}, X11_exchange_L59 l1 l2 l3 l6 k147 n l4 l5 l7 μ = some (r, μ') → VV d mX11_exchange 59 [some (vR 70), some (vI l1), some (vI l2), some (vI l3), some (vI l4), some (vI l5), some (vI l6), some (vI l7), none] [] μ r μ' := by
  intro n
  induction n with
  | zero => intro l4 l5 l7 μ h; rw [X11_exchange_L59] at h; cases h
  | succ n ih =>
    intro l4 l5 l7 μ h
    rw [X11_exchange_L59] at h
    refine V_iload (q := 61) dX11_exchange_59 rfl rfl ?_
    refine V_bipush (q := 63) dX11_exchange_61 rfl rfl rfl ?_
    refine V_icmpge (q := 147) (q2 := 66) dX11_exchange_63 (by decide) rfl (fun hc18 => ?_) (fun hc18 => ?_)
    · have h := ifT hc18 h
      exact V_weak (hk_147 _ _ _ h) (sb_s rfl (sb_s rfl (sb_s rfl (sb_s rfl (sb_s rfl (sb_s rfl (sb_s rfl (sb_n (sb_n sb_0)))))))))
    · have h := ifF hc18 h
      refine V_aload_n (q := 67) dX11_exchange_66 rfl rfl rfl ?_
      refine V_iload (q := 69) dX11_exchange_67 rfl rfl ?_
      obtain ⟨v19, μ20, hc21, h⟩ := bd_i h
      refine V_cV1 (q := 72) (v := vI v19) (kX11_isCrank (d - 1) (by omega) hc21) (by omega) mv_X11_284 rfl rfl rfl rfl rfl rfl dX11_exchange_69 rfl ?_
      refine V_ifeq (q := 141) (q2 := 75) dX11_exchange_72 (by decide) rfl (fun hc22 => ?_) (fun hc22 => ?_)
      · have h := ifT hc22 h
        refine V_iinc (q := 144) dX11_exchange_141 rfl (Nat.le_of_ble_eq_true rfl) trivial rfl ?_
        refine V_goto (q := 59) dX11_exchange_144 (by decide) ?_
        exact V_weak (ih h) (sb_s rfl (sb_s rfl (sb_s rfl (sb_s rfl (sb_s rfl (sb_s rfl (sb_s rfl (sb_s rfl (sb_n sb_0)))))))))
      · have h := ifF hc22 h
        refine V_aload_n (q := 76) dX11_exchange_75 rfl rfl rfl ?_
        refine V_iload (q := 78) dX11_exchange_76 rfl rfl ?_
        obtain ⟨v23, μ24, hc25, h⟩ := bd_i h
        refine V_cV1 (q := 81) (v := vI v23) (kX11_isCrank (d - 1) (by omega) hc25) (by omega) mv_X11_284 rfl rfl rfl rfl rfl rfl dX11_exchange_78 rfl ?_
        refine V_ifeq (q := 141) (q2 := 84) dX11_exchange_81 (by decide) rfl (fun hc26 => ?_) (fun hc26 => ?_)
        · have h := ifT hc26 h
          refine V_iinc (q := 144) dX11_exchange_141 rfl (Nat.le_of_ble_eq_true rfl) trivial rfl ?_
          refine V_goto (q := 59) dX11_exchange_144 (by decide) ?_
          exact V_weak (ih h) (sb_s rfl (sb_s rfl (sb_s rfl (sb_s rfl (sb_s rfl (sb_s rfl (sb_s rfl (sb_s rfl (sb_n sb_0)))))))))
        · have h := ifF hc26 h
          refine V_aload_n (q := 85) dX11_exchange_84 rfl rfl rfl ?_
          refine V_iload (q := 87) dX11_exchange_85 rfl rfl ?_
          refine V_iload (q := 89) dX11_exchange_87 rfl rfl ?_
          obtain ⟨v27, μ28, hc29, h⟩ := bd_i h
          refine V_cV0 (q := 92) (kX11_change (d - 1) (by omega) hc29) (by omega) mv_X11_313 rfl rfl rfl rfl rfl rfl dX11_exchange_89 rfl ?_
          refine V_aload_n (q := 93) dX11_exchange_92 rfl rfl rfl ?_
          refine V_iload_n (q := 94) dX11_exchange_93 rfl rfl rfl ?_
          refine V_iload_n (q := 95) dX11_exchange_94 rfl rfl rfl ?_
          obtain ⟨v30, μ31, hc32, h⟩ := bd_i h
          refine V_cV1 (q := 98) (v := vI v30) (kX11_bothNow (d - 1) (by omega) hc32) (by omega) mv_X11_369 rfl rfl rfl rfl rfl rfl dX11_exchange_95 rfl ?_
          refine V_istore (q := 100) dX11_exchange_98 (Nat.le_of_ble_eq_true rfl) trivial rfl ?_
          refine V_aload_n (q := 101) dX11_exchange_100 rfl rfl rfl ?_
          refine V_iload (q := 103) dX11_exchange_101 rfl rfl ?_
          refine V_iload (q := 105) dX11_exchange_103 rfl rfl ?_
          obtain ⟨v33, μ34, hc35, h⟩ := bd_i h
          refine V_cV0 (q := 108) (kX11_change (d - 1) (by omega) hc35) (by omega) mv_X11_313 rfl rfl rfl rfl rfl rfl dX11_exchange_105 rfl ?_
          refine V_iload (q := 110) dX11_exchange_108 rfl rfl ?_
          refine V_iconst (q := 111) dX11_exchange_110 rfl rfl ?_
          refine V_icmpeq (q := 141) (q2 := 114) dX11_exchange_111 (by decide) rfl (fun hc36 => ?_) (fun hc36 => ?_)
          · have h := ifT hc36 h
            refine V_iinc (q := 144) dX11_exchange_141 rfl (Nat.le_of_ble_eq_true rfl) trivial rfl ?_
            refine V_goto (q := 59) dX11_exchange_144 (by decide) ?_
            exact V_weak (ih h) (sb_s rfl (sb_s rfl (sb_s rfl (sb_s rfl (sb_s rfl (sb_s rfl (sb_s rfl (sb_s rfl (sb_n sb_0)))))))))
          · have h := ifF hc36 h
            refine V_iload (q := 116) dX11_exchange_114 rfl rfl ?_
            refine V_iconst (q := 117) dX11_exchange_116 rfl rfl ?_
            refine V_icmpeq (q := 127) (q2 := 120) dX11_exchange_117 (by decide) rfl (fun hc37 => ?_) (fun hc37 => ?_)
            · have h := ifT hc37 h
              exact V_weak (kX11_exchange_J127 d hd (fun _ _ _ _ h => ih h) h) (sb_s rfl (sb_s rfl (sb_s rfl (sb_s rfl (sb_n (sb_n (sb_s rfl (sb_s rfl (sb_s rfl sb_0)))))))))
            · have h := ifF hc37 h
              refine V_iload (q := 122) dX11_exchange_120 rfl rfl ?_
              refine V_iload (q := 124) dX11_exchange_122 rfl rfl ?_
              refine V_icmpge (q := 141) (q2 := 127) dX11_exchange_124 (by decide) rfl (fun hc39 => ?_) (fun hc39 => ?_)
              · have h := ifT hc39 h
                refine V_iinc (q := 144) dX11_exchange_141 rfl (Nat.le_of_ble_eq_true rfl) trivial rfl ?_
                refine V_goto (q := 59) dX11_exchange_144 (by decide) ?_
                exact V_weak (ih h) (sb_s rfl (sb_s rfl (sb_s rfl (sb_s rfl (sb_s rfl (sb_s rfl (sb_s rfl (sb_s rfl (sb_n sb_0)))))))))
              · have h := ifF hc39 h
                exact V_weak (kX11_exchange_J127 d hd (fun _ _ _ _ h => ih h) h) (sb_s rfl (sb_s rfl (sb_s rfl (sb_s rfl (sb_n (sb_n (sb_s rfl (sb_s rfl (sb_s rfl sb_0)))))))))
set_option maxHeartbeats 4000000 in
set_option maxRecDepth 100000 in
theorem kX11_exchange_L46 (d : Nat) (hd : 136 ≤ d) {l1 : Int} {l2 : Int} {l3 : Int} {k153 : Int → Int → Mm → Rs} {r : Int} {μ' : Mm} (hk_153 : ∀ (v4 v5 : Int) (μ1 : Mm), k153 v4 v5 μ1 = some (r, μ') → VV d mX11_exchange 153 [none, none, none, some (vI l3), some (vI v4), some (vI v5), none, none, none] [] μ1 r μ') : ∀ (n : Nat) {l4 l5 l6 : Int} {μ : Mm}, X11_exchange_L46 l1 l2 l3 k153 n l4 l5 l6 μ = some (r, μ') → VV d mX11_exchange 46 [some (vR 70), some (vI l1), some (vI l2), some (vI l3), some (vI l4), some (vI l5), some (vI l6), none, none] [] μ r μ' := by
  intro n
  induction n with
  | zero => intro l4 l5 l6 μ h; rw [X11_exchange_L46] at h; cases h
  | succ n ih =>
    intro l4 l5 l6 μ h
    rw [X11_exchange_L46] at h
    refine V_iload (q := 48) dX11_exchange_46 rfl rfl ?_
    refine V_bipush (q := 50) dX11_exchange_48 rfl rfl rfl ?_
    refine V_icmpge (q := 153) (q2 := 53) dX11_exchange_50 (by decide) rfl (fun hc17 => ?_) (fun hc17 => ?_)
    · have h := ifT hc17 h
      exact V_weak (hk_153 _ _ _ h) (sb_n (sb_n (sb_n (sb_s rfl (sb_s rfl (sb_s rfl (sb_n (sb_n (sb_n sb_0)))))))))
    · have h := ifF hc17 h
      refine V_iload (q := 55) dX11_exchange_53 rfl rfl ?_
      refine V_iconst (q := 56) dX11_exchange_55 rfl rfl ?_
      refine V_iadd (q := 57) dX11_exchange_56 rfl ?_
      refine V_istore (q := 59) dX11_exchange_57 (Nat.le_of_ble_eq_true rfl) trivial rfl ?_
      refine V_weak (kX11_exchange_L59 d hd (fun v40 v41 μ42 h => ?_) FU h) (sb_s rfl (sb_s rfl (sb_s rfl (sb_s rfl (sb_s rfl (sb_s rfl (sb_s rfl (sb_s rfl (sb_n sb_0)))))))))
      refine V_iinc (q := 150) dX11_exchange_147 rfl (Nat.le_of_ble_eq_true rfl) trivial rfl ?_
      refine V_goto (q := 46) dX11_exchange_150 (by decide) ?_
      exact V_weak (ih h) (sb_s rfl (sb_s rfl (sb_s rfl (sb_s rfl (sb_s rfl (sb_s rfl (sb_s rfl (sb_n (sb_n sb_0)))))))))
set_option maxHeartbeats 4000000 in
set_option maxRecDepth 100000 in
theorem kX11_exchange (d : Nat) (hd : 136 ≤ d) {l1 : Int} {l2 : Int} {l3 : Int} {μ : Mm} {r : Int} {μ' : Mm} (h : X11_exchange l1 l2 l3 μ = some (r, μ')) : CC d mX11_exchange [vR 70, vI l1, vI l2, vI l3] μ r μ' := by
  unfold X11_exchange at h
  refine V_enter (by decide) (Nat.le_of_ble_eq_true rfl) ?_
  show VV d mX11_exchange 0 [some (vR 70), some (vI l1), some (vI l2), some (vI l3), none, none, none, none, none] [] μ r μ'
  refine V_aload_n (q := 1) dX11_exchange_0 rfl rfl rfl ?_
  refine V_iload_n (q := 2) dX11_exchange_1 rfl rfl rfl ?_
  obtain ⟨v1, μ2, hc3, h⟩ := bd_i h
  refine V_cV1 (q := 5) (v := vI v1) (kX11_isReady (d - 1) (by omega) hc3) (by omega) mv_X11_335 rfl rfl rfl rfl rfl rfl dX11_exchange_2 rfl ?_
  refine V_ifeq (q := 30) (q2 := 8) dX11_exchange_5 (by decide) rfl (fun hc4 => ?_) (fun hc4 => ?_)
  · have h := ifT hc4 h
    refine V_iconst (q := 31) dX11_exchange_30 rfl rfl ?_
    exact V_iret rfl h dX11_exchange_31
  · have h := ifF hc4 h
    refine V_aload_n (q := 9) dX11_exchange_8 rfl rfl rfl ?_
    refine V_iload_n (q := 10) dX11_exchange_9 rfl rfl rfl ?_
    obtain ⟨v5, μ6, hc7, h⟩ := bd_i h
    refine V_cV1 (q := 13) (v := vI v5) (kX11_isReady (d - 1) (by omega) hc7) (by omega) mv_X11_335 rfl rfl rfl rfl rfl rfl dX11_exchange_10 rfl ?_
    refine V_ifeq (q := 30) (q2 := 16) dX11_exchange_13 (by decide) rfl (fun hc8 => ?_) (fun hc8 => ?_)
    · have h := ifT hc8 h
      refine V_iconst (q := 31) dX11_exchange_30 rfl rfl ?_
      exact V_iret rfl h dX11_exchange_31
    · have h := ifF hc8 h
      refine V_iload_n (q := 17) dX11_exchange_16 rfl rfl rfl ?_
      refine V_iload_n (q := 18) dX11_exchange_17 rfl rfl rfl ?_
      refine V_icmpeq (q := 30) (q2 := 21) dX11_exchange_18 (by decide) rfl (fun hc9 => ?_) (fun hc9 => ?_)
      · have h := ifT hc9 h
        refine V_iconst (q := 31) dX11_exchange_30 rfl rfl ?_
        exact V_iret rfl h dX11_exchange_31
      · have h := ifF hc9 h
        refine V_iload_n (q := 22) dX11_exchange_21 rfl rfl rfl ?_
        refine V_iconst (q := 23) dX11_exchange_22 rfl rfl ?_
        refine V_iconst (q := 24) dX11_exchange_23 rfl rfl ?_
        obtain ⟨v10, μ11, hc12, h⟩ := bd_i h
        refine V_cS1 (q := 27) (v := vI v10) (kX11_in (d - 1) (by omega) hc12) (by omega) mv_X11_213 rfl rfl rfl rfl dX11_exchange_24 rfl ?_
        refine V_ifne (q := 32) (q2 := 30) dX11_exchange_27 (by decide) rfl (fun hc13 => ?_) (fun hc13 => ?_)
        · have h := ifF hc13 h
          refine V_iconst (q := 33) dX11_exchange_32 rfl rfl ?_
          refine V_istore (q := 35) dX11_exchange_33 (Nat.le_of_ble_eq_true rfl) trivial rfl ?_
          refine V_aload_n (q := 36) dX11_exchange_35 rfl rfl rfl ?_
          refine V_iload_n (q := 37) dX11_exchange_36 rfl rfl rfl ?_
          refine V_iload_n (q := 38) dX11_exchange_37 rfl rfl rfl ?_
          obtain ⟨v14, μ15, hc16, h⟩ := bd_i h
          refine V_cV1 (q := 41) (v := vI v14) (kX11_bothNow (d - 1) (by omega) hc16) (by omega) mv_X11_369 rfl rfl rfl rfl rfl rfl dX11_exchange_38 rfl ?_
          refine V_istore (q := 43) dX11_exchange_41 (Nat.le_of_ble_eq_true rfl) trivial rfl ?_
          refine V_iconst (q := 44) dX11_exchange_43 rfl rfl ?_
          refine V_istore (q := 46) dX11_exchange_44 (Nat.le_of_ble_eq_true rfl) trivial rfl ?_
          refine V_weak (kX11_exchange_L46 d hd (fun v43 v44 μ45 h => ?_) FU h) (sb_s rfl (sb_s rfl (sb_s rfl (sb_s rfl (sb_s rfl (sb_s rfl (sb_s rfl (sb_n (sb_n sb_0)))))))))
          refine V_iload (q := 155) dX11_exchange_153 rfl rfl ?_
          refine V_iconst (q := 156) dX11_exchange_155 rfl rfl ?_
          refine V_icmpne (q := 163) (q2 := 159) dX11_exchange_156 (by decide) rfl (fun hc46 => ?_) (fun hc46 => ?_)
          · have h := ifF hc46 h
            refine V_iload_n (q := 164) dX11_exchange_163 rfl rfl rfl ?_
            refine V_ifne (q := 172) (q2 := 167) dX11_exchange_164 (by decide) rfl (fun hc47 => ?_) (fun hc47 => ?_)
            · have h := ifF hc47 h
              refine V_iload (q := 174) dX11_exchange_172 rfl rfl ?_
              exact V_iret rfl h dX11_exchange_174
            · have h := ifT hc47 h
              refine V_iload (q := 169) dX11_exchange_167 rfl rfl ?_
              refine V_goto (q := 174) dX11_exchange_169 (by decide) ?_
              exact V_iret rfl h dX11_exchange_174
          · have h := ifT hc46 h
            refine V_iconst (q := 160) dX11_exchange_159 rfl rfl ?_
            refine V_goto (q := 174) dX11_exchange_160 (by decide) ?_
            exact V_iret rfl h dX11_exchange_174
        · have h := ifT hc13 h
          refine V_iconst (q := 31) dX11_exchange_30 rfl rfl ?_
          exact V_iret rfl h dX11_exchange_31
