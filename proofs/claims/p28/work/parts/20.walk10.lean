abbrev mX11_atom : Mth := (yX11_atom, cX11_atom, 2, none)
set_option maxRecDepth 100000 in
theorem mi_X11_atom : Cond.instanceMethod yX11_atom ∈ tG ∧ Cond.selects yX11_atom.cls yX11_atom yX11_atom ∈ tG ∧ Cond.initialized yX11_atom.cls ∈ tG ∧ Cond.code yX11_atom cX11_atom 2 (none) ∈ tG ∧ (yX11_atom.cls ≠ "java/lang/invoke/MethodHandle" ∧ yX11_atom.cls ≠ "java/lang/invoke/VarHandle" ∧ (parseMethodDescriptor yX11_atom.desc).map (fun d => d.parameters.length) = some 0) ∧ 2 ≤ 60 := ⟨(tG_of (tb6 (List.mem_of_getElem? (i := 132) rfl)) (by decide +kernel)), (tG_of (List.mem_of_getElem? (i := 65) (by decide +kernel)) (by decide +kernel)), (tG_of (tb1 (List.mem_of_getElem? (i := 12) rfl)) (by decide +kernel)), (tG_of (tb6 (List.mem_of_getElem? (i := 133) rfl)) (by decide +kernel)), ⟨by decide, by decide, by decide +kernel⟩, by decide⟩
set_option maxRecDepth 100000 in
theorem mv_X11_155 : mV RX11 155 mX11_atom 0 := ⟨(tG_of (tb6 (List.mem_of_getElem? (i := 130) rfl)) (by decide +kernel)), mi_X11_atom⟩
abbrev mX11_term : Mth := (yX11_term, cX11_term, 2, none)
set_option maxRecDepth 100000 in
theorem mi_X11_term : Cond.instanceMethod yX11_term ∈ tG ∧ Cond.selects yX11_term.cls yX11_term yX11_term ∈ tG ∧ Cond.initialized yX11_term.cls ∈ tG ∧ Cond.code yX11_term cX11_term 2 (none) ∈ tG ∧ (yX11_term.cls ≠ "java/lang/invoke/MethodHandle" ∧ yX11_term.cls ≠ "java/lang/invoke/VarHandle" ∧ (parseMethodDescriptor yX11_term.desc).map (fun d => d.parameters.length) = some 0) ∧ 2 ≤ 60 := ⟨(tG_of (tb6 (List.mem_of_getElem? (i := 128) rfl)) (by decide +kernel)), (tG_of (List.mem_of_getElem? (i := 64) (by decide +kernel)) (by decide +kernel)), (tG_of (tb1 (List.mem_of_getElem? (i := 12) rfl)) (by decide +kernel)), (tG_of (tb6 (List.mem_of_getElem? (i := 129) rfl)) (by decide +kernel)), ⟨by decide, by decide, by decide +kernel⟩, by decide⟩
set_option maxRecDepth 100000 in
theorem mv_X11_158 : mV RX11 158 mX11_term 0 := ⟨(tG_of (tb6 (List.mem_of_getElem? (i := 126) rfl)) (by decide +kernel)), mi_X11_term⟩
abbrev mX11_sum : Mth := (yX11_sum, cX11_sum, 2, none)
set_option maxRecDepth 100000 in
theorem mi_X11_sum : Cond.instanceMethod yX11_sum ∈ tG ∧ Cond.selects yX11_sum.cls yX11_sum yX11_sum ∈ tG ∧ Cond.initialized yX11_sum.cls ∈ tG ∧ Cond.code yX11_sum cX11_sum 2 (none) ∈ tG ∧ (yX11_sum.cls ≠ "java/lang/invoke/MethodHandle" ∧ yX11_sum.cls ≠ "java/lang/invoke/VarHandle" ∧ (parseMethodDescriptor yX11_sum.desc).map (fun d => d.parameters.length) = some 0) ∧ 2 ≤ 60 := ⟨(tG_of (tb6 (List.mem_of_getElem? (i := 124) rfl)) (by decide +kernel)), (tG_of (List.mem_of_getElem? (i := 63) (by decide +kernel)) (by decide +kernel)), (tG_of (tb1 (List.mem_of_getElem? (i := 12) rfl)) (by decide +kernel)), (tG_of (tb6 (List.mem_of_getElem? (i := 125) rfl)) (by decide +kernel)), ⟨by decide, by decide, by decide +kernel⟩, by decide⟩
set_option maxRecDepth 100000 in
theorem mv_X11_148 : mV RX11 148 mX11_sum 0 := ⟨(tG_of (tb6 (List.mem_of_getElem? (i := 122) rfl)) (by decide +kernel)), mi_X11_sum⟩
theorem dX11_atom_0 : decode cX11_atom 0 = .ok (.aload_n 0, 1) := dc_42 (byA eNcX11_atom (p := 0) (v := 42) (by decide +kernel))
theorem dX11_atom_1 : decode cX11_atom 1 = .ok (.invokevirtual 127, 3) := dc_182 (byA eNcX11_atom (p := 1) (v := 182) (by decide +kernel)) (byA eNcX11_atom (p := 2) (v := 0) (by decide +kernel)) (byA eNcX11_atom (p := 3) (v := 127) (by decide +kernel)) rfl
theorem dX11_atom_4 : decode cX11_atom 4 = .ok (.istore_n 1, 1) := dc_60 (byA eNcX11_atom (p := 4) (v := 60) (by decide +kernel))
theorem dX11_atom_5 : decode cX11_atom 5 = .ok (.iload_n 1, 1) := dc_27 (byA eNcX11_atom (p := 5) (v := 27) (by decide +kernel))
theorem dX11_atom_6 : decode cX11_atom 6 = .ok (.invokestatic 130, 3) := dc_184 (byA eNcX11_atom (p := 6) (v := 184) (by decide +kernel)) (byA eNcX11_atom (p := 7) (v := 0) (by decide +kernel)) (byA eNcX11_atom (p := 8) (v := 130) (by decide +kernel)) rfl
theorem dX11_atom_9 : decode cX11_atom 9 = .ok (.ifCond .eq 15, 3) := dc_153 (byA eNcX11_atom (p := 9) (v := 153) (by decide +kernel)) (byA eNcX11_atom (p := 10) (v := 0) (by decide +kernel)) (byA eNcX11_atom (p := 11) (v := 15) (by decide +kernel)) (by decide +kernel)
theorem dX11_atom_12 : decode cX11_atom 12 = .ok (.aload_n 0, 1) := dc_42 (byA eNcX11_atom (p := 12) (v := 42) (by decide +kernel))
theorem dX11_atom_13 : decode cX11_atom 13 = .ok (.iconst 0, 1) := dc_3 (byA eNcX11_atom (p := 13) (v := 3) (by decide +kernel))
theorem dX11_atom_14 : decode cX11_atom 14 = .ok (.aload_n 0, 1) := dc_42 (byA eNcX11_atom (p := 14) (v := 42) (by decide +kernel))
theorem dX11_atom_15 : decode cX11_atom 15 = .ok (.invokevirtual 134, 3) := dc_182 (byA eNcX11_atom (p := 15) (v := 182) (by decide +kernel)) (byA eNcX11_atom (p := 16) (v := 0) (by decide +kernel)) (byA eNcX11_atom (p := 17) (v := 134) (by decide +kernel)) rfl
theorem dX11_atom_18 : decode cX11_atom 18 = .ok (.invokevirtual 137, 3) := dc_182 (byA eNcX11_atom (p := 18) (v := 182) (by decide +kernel)) (byA eNcX11_atom (p := 19) (v := 0) (by decide +kernel)) (byA eNcX11_atom (p := 20) (v := 137) (by decide +kernel)) rfl
theorem dX11_atom_21 : decode cX11_atom 21 = .ok (.goto 68, 3) := dc_167 (byA eNcX11_atom (p := 21) (v := 167) (by decide +kernel)) (byA eNcX11_atom (p := 22) (v := 0) (by decide +kernel)) (byA eNcX11_atom (p := 23) (v := 68) (by decide +kernel)) (by decide +kernel)
theorem dX11_atom_24 : decode cX11_atom 24 = .ok (.iload_n 1, 1) := dc_27 (byA eNcX11_atom (p := 24) (v := 27) (by decide +kernel))
theorem dX11_atom_25 : decode cX11_atom 25 = .ok (.invokestatic 141, 3) := dc_184 (byA eNcX11_atom (p := 25) (v := 184) (by decide +kernel)) (byA eNcX11_atom (p := 26) (v := 0) (by decide +kernel)) (byA eNcX11_atom (p := 27) (v := 141) (by decide +kernel)) rfl
theorem dX11_atom_28 : decode cX11_atom 28 = .ok (.iconst (-1), 1) := dc_2 (byA eNcX11_atom (p := 28) (v := 2) (by decide +kernel))
theorem dX11_atom_29 : decode cX11_atom 29 = .ok (.if_icmp .eq 25, 3) := dc_159 (byA eNcX11_atom (p := 29) (v := 159) (by decide +kernel)) (byA eNcX11_atom (p := 30) (v := 0) (by decide +kernel)) (byA eNcX11_atom (p := 31) (v := 25) (by decide +kernel)) (by decide +kernel)
theorem dX11_atom_32 : decode cX11_atom 32 = .ok (.aload_n 0, 1) := dc_42 (byA eNcX11_atom (p := 32) (v := 42) (by decide +kernel))
theorem dX11_atom_33 : decode cX11_atom 33 = .ok (.dup, 1) := dc_89 (byA eNcX11_atom (p := 33) (v := 89) (by decide +kernel))
theorem dX11_atom_34 : decode cX11_atom 34 = .ok (.getfield 108, 3) := dc_180 (byA eNcX11_atom (p := 34) (v := 180) (by decide +kernel)) (byA eNcX11_atom (p := 35) (v := 0) (by decide +kernel)) (byA eNcX11_atom (p := 36) (v := 108) (by decide +kernel)) rfl
theorem dX11_atom_37 : decode cX11_atom 37 = .ok (.iconst 1, 1) := dc_4 (byA eNcX11_atom (p := 37) (v := 4) (by decide +kernel))
theorem dX11_atom_38 : decode cX11_atom 38 = .ok (.iadd, 1) := dc_96 (byA eNcX11_atom (p := 38) (v := 96) (by decide +kernel))
theorem dX11_atom_39 : decode cX11_atom 39 = .ok (.putfield 108, 3) := dc_181 (byA eNcX11_atom (p := 39) (v := 181) (by decide +kernel)) (byA eNcX11_atom (p := 40) (v := 0) (by decide +kernel)) (byA eNcX11_atom (p := 41) (v := 108) (by decide +kernel)) rfl
theorem dX11_atom_42 : decode cX11_atom 42 = .ok (.aload_n 0, 1) := dc_42 (byA eNcX11_atom (p := 42) (v := 42) (by decide +kernel))
theorem dX11_atom_43 : decode cX11_atom 43 = .ok (.iconst 1, 1) := dc_4 (byA eNcX11_atom (p := 43) (v := 4) (by decide +kernel))
theorem dX11_atom_44 : decode cX11_atom 44 = .ok (.iload_n 1, 1) := dc_27 (byA eNcX11_atom (p := 44) (v := 27) (by decide +kernel))
theorem dX11_atom_45 : decode cX11_atom 45 = .ok (.invokestatic 141, 3) := dc_184 (byA eNcX11_atom (p := 45) (v := 184) (by decide +kernel)) (byA eNcX11_atom (p := 46) (v := 0) (by decide +kernel)) (byA eNcX11_atom (p := 47) (v := 141) (by decide +kernel)) rfl
theorem dX11_atom_48 : decode cX11_atom 48 = .ok (.invokevirtual 137, 3) := dc_182 (byA eNcX11_atom (p := 48) (v := 182) (by decide +kernel)) (byA eNcX11_atom (p := 49) (v := 0) (by decide +kernel)) (byA eNcX11_atom (p := 50) (v := 137) (by decide +kernel)) rfl
theorem dX11_atom_51 : decode cX11_atom 51 = .ok (.goto 38, 3) := dc_167 (byA eNcX11_atom (p := 51) (v := 167) (by decide +kernel)) (byA eNcX11_atom (p := 52) (v := 0) (by decide +kernel)) (byA eNcX11_atom (p := 53) (v := 38) (by decide +kernel)) (by decide +kernel)
theorem dX11_atom_54 : decode cX11_atom 54 = .ok (.iload_n 1, 1) := dc_27 (byA eNcX11_atom (p := 54) (v := 27) (by decide +kernel))
theorem dX11_atom_55 : decode cX11_atom 55 = .ok (.bipush 91, 2) := dc_16 (byA eNcX11_atom (p := 55) (v := 16) (by decide +kernel)) (byA eNcX11_atom (p := 56) (v := 91) (by decide +kernel)) (by decide +kernel)
theorem dX11_atom_57 : decode cX11_atom 57 = .ok (.if_icmp .ne 28, 3) := dc_160 (byA eNcX11_atom (p := 57) (v := 160) (by decide +kernel)) (byA eNcX11_atom (p := 58) (v := 0) (by decide +kernel)) (byA eNcX11_atom (p := 59) (v := 28) (by decide +kernel)) (by decide +kernel)
theorem dX11_atom_60 : decode cX11_atom 60 = .ok (.aload_n 0, 1) := dc_42 (byA eNcX11_atom (p := 60) (v := 42) (by decide +kernel))
theorem dX11_atom_61 : decode cX11_atom 61 = .ok (.invokevirtual 145, 3) := dc_182 (byA eNcX11_atom (p := 61) (v := 182) (by decide +kernel)) (byA eNcX11_atom (p := 62) (v := 0) (by decide +kernel)) (byA eNcX11_atom (p := 63) (v := 145) (by decide +kernel)) rfl
theorem dX11_atom_64 : decode cX11_atom 64 = .ok (.aload_n 0, 1) := dc_42 (byA eNcX11_atom (p := 64) (v := 42) (by decide +kernel))
theorem dX11_atom_65 : decode cX11_atom 65 = .ok (.getfield 115, 3) := dc_180 (byA eNcX11_atom (p := 65) (v := 180) (by decide +kernel)) (byA eNcX11_atom (p := 66) (v := 0) (by decide +kernel)) (byA eNcX11_atom (p := 67) (v := 115) (by decide +kernel)) rfl
theorem dX11_atom_68 : decode cX11_atom 68 = .ok (.iconst (-1), 1) := dc_2 (byA eNcX11_atom (p := 68) (v := 2) (by decide +kernel))
theorem dX11_atom_69 : decode cX11_atom 69 = .ok (.if_icmp .ne 20, 3) := dc_160 (byA eNcX11_atom (p := 69) (v := 160) (by decide +kernel)) (byA eNcX11_atom (p := 70) (v := 0) (by decide +kernel)) (byA eNcX11_atom (p := 71) (v := 20) (by decide +kernel)) (by decide +kernel)
theorem dX11_atom_72 : decode cX11_atom 72 = .ok (.aload_n 0, 1) := dc_42 (byA eNcX11_atom (p := 72) (v := 42) (by decide +kernel))
theorem dX11_atom_73 : decode cX11_atom 73 = .ok (.invokevirtual 148, 3) := dc_182 (byA eNcX11_atom (p := 73) (v := 182) (by decide +kernel)) (byA eNcX11_atom (p := 74) (v := 0) (by decide +kernel)) (byA eNcX11_atom (p := 75) (v := 148) (by decide +kernel)) rfl
theorem dX11_atom_76 : decode cX11_atom 76 = .ok (.aload_n 0, 1) := dc_42 (byA eNcX11_atom (p := 76) (v := 42) (by decide +kernel))
theorem dX11_atom_77 : decode cX11_atom 77 = .ok (.bipush 93, 2) := dc_16 (byA eNcX11_atom (p := 77) (v := 16) (by decide +kernel)) (byA eNcX11_atom (p := 78) (v := 93) (by decide +kernel)) (by decide +kernel)
theorem dX11_atom_79 : decode cX11_atom 79 = .ok (.invokevirtual 151, 3) := dc_182 (byA eNcX11_atom (p := 79) (v := 182) (by decide +kernel)) (byA eNcX11_atom (p := 80) (v := 0) (by decide +kernel)) (byA eNcX11_atom (p := 81) (v := 151) (by decide +kernel)) rfl
theorem dX11_atom_82 : decode cX11_atom 82 = .ok (.goto 7, 3) := dc_167 (byA eNcX11_atom (p := 82) (v := 167) (by decide +kernel)) (byA eNcX11_atom (p := 83) (v := 0) (by decide +kernel)) (byA eNcX11_atom (p := 84) (v := 7) (by decide +kernel)) (by decide +kernel)
theorem dX11_atom_85 : decode cX11_atom 85 = .ok (.aload_n 0, 1) := dc_42 (byA eNcX11_atom (p := 85) (v := 42) (by decide +kernel))
theorem dX11_atom_86 : decode cX11_atom 86 = .ok (.invokevirtual 124, 3) := dc_182 (byA eNcX11_atom (p := 86) (v := 182) (by decide +kernel)) (byA eNcX11_atom (p := 87) (v := 0) (by decide +kernel)) (byA eNcX11_atom (p := 88) (v := 124) (by decide +kernel)) rfl
theorem dX11_atom_89 : decode cX11_atom 89 = .ok (.return_, 1) := dc_177 (byA eNcX11_atom (p := 89) (v := 177) (by decide +kernel))
def X11_atom_o (rec : Mm → Rs) (μ : Mm) : Rs := bd (X11_look μ) fun v1 μ2 => bd (X11_isDigit v1 μ2) fun v4 μ5 => if v4 = 0 then (bd (X11_letterOf v1 μ5) fun v8 μ9 => if v8 = (-1) then (if v1 = 91 then (bd (X11_opens μ9) fun v16 μ17 => if (μ17 70 4) = (-1) then (bd (rec μ17) fun v20 μ21 => bd (X11_closes 93 μ21) fun v23 μ24 => some (0, μ24)) else (some (0, μ17))) else (bd (X11_bad μ9) fun v13 μ14 => some (0, μ14))) else (sF μ9 70 3 (iA (μ9 70 3) 1) fun μ26 => bd (X11_letterOf v1 μ26) fun v27 μ28 => bd (X11_put 1 v27 μ28) fun v30 μ31 => some (0, μ31))) else (bd (X11_plainNumber μ5) fun v33 μ34 => bd (X11_put 0 v33 μ34) fun v36 μ37 => some (0, μ37))
set_option maxHeartbeats 4000000 in
set_option maxRecDepth 100000 in
theorem kX11_atom (d : Nat) {d0 : Nat} (hd : d0 + 2 ≤ d) {rec : Mm → Rs} (hrec : ∀  {μ1 : Mm} {r1 : Int} {μ2 : Mm}, rec  μ1 = some (r1, μ2) → CC d0 mX11_sum [vR 70] μ1 r1 μ2) (hb : 6 ≤ d) {μ : Mm} {r : Int} {μ' : Mm} (h : X11_atom_o rec μ = some (r, μ')) : CC d mX11_atom [vR 70] μ r μ' := by
  unfold X11_atom_o at h
  refine V_enter (by decide) (Nat.le_of_ble_eq_true rfl) ?_
  show VV d mX11_atom 0 [some (vR 70), none] [] μ r μ'
  refine V_aload_n (q := 1) dX11_atom_0 rfl rfl rfl ?_
  obtain ⟨v1, μ2, hc3, h⟩ := bd_i h
  refine V_cV1 (q := 4) (v := vI v1) (kX11_look (d - 1) (by omega) hc3) (by omega) mv_X11_127 rfl rfl rfl rfl rfl rfl dX11_atom_1 rfl ?_
  refine V_istore_n (q := 5) dX11_atom_4 rfl (Nat.le_of_ble_eq_true rfl) trivial rfl ?_
  refine V_iload_n (q := 6) dX11_atom_5 rfl rfl rfl ?_
  obtain ⟨v4, μ5, hc6, h⟩ := bd_i h
  refine V_cS1 (q := 9) (v := vI v4) (kX11_isDigit (d - 1) (by omega) hc6) (by omega) mv_X11_130 rfl rfl rfl rfl dX11_atom_6 rfl ?_
  refine V_ifeq (q := 24) (q2 := 12) dX11_atom_9 (by decide) rfl (fun hc7 => ?_) (fun hc7 => ?_)
  · have h := ifT hc7 h
    refine V_iload_n (q := 25) dX11_atom_24 rfl rfl rfl ?_
    obtain ⟨v8, μ9, hc10, h⟩ := bd_i h
    refine V_cS1 (q := 28) (v := vI v8) (kX11_letterOf (d - 1) (by omega) hc10) (by omega) mv_X11_141 rfl rfl rfl rfl dX11_atom_25 rfl ?_
    refine V_iconst (q := 29) dX11_atom_28 rfl rfl ?_
    refine V_icmpeq (q := 54) (q2 := 32) dX11_atom_29 (by decide) rfl (fun hc11 => ?_) (fun hc11 => ?_)
    · have h := ifT hc11 h
      refine V_iload_n (q := 55) dX11_atom_54 rfl rfl rfl ?_
      refine V_bipush (q := 57) dX11_atom_55 rfl rfl rfl ?_
      refine V_icmpne (q := 85) (q2 := 60) dX11_atom_57 (by decide) rfl (fun hc12 => ?_) (fun hc12 => ?_)
      · have h := ifF hc12 h
        refine V_aload_n (q := 86) dX11_atom_85 rfl rfl rfl ?_
        obtain ⟨v13, μ14, hc15, h⟩ := bd_i h
        refine V_cV0 (q := 89) (kX11_bad (d - 1) (by omega) hc15) (by omega) mv_X11_124 rfl rfl rfl rfl rfl rfl dX11_atom_86 rfl ?_
        exact V_vret rfl h dX11_atom_89
      · have h := ifT hc12 h
        refine V_aload_n (q := 61) dX11_atom_60 rfl rfl rfl ?_
        obtain ⟨v16, μ17, hc18, h⟩ := bd_i h
        refine V_cV0 (q := 64) (kX11_opens (d - 1) (by omega) hc18) (by omega) mv_X11_145 rfl rfl rfl rfl rfl rfl dX11_atom_61 rfl ?_
        refine V_aload_n (q := 65) dX11_atom_64 rfl rfl rfl ?_
        refine V_getI (q := 68) fl_X11_115 rfl rfl rfl dX11_atom_65 rfl ?_
        refine V_iconst (q := 69) dX11_atom_68 rfl rfl ?_
        refine V_icmpne (q := 89) (q2 := 72) dX11_atom_69 (by decide) rfl (fun hc19 => ?_) (fun hc19 => ?_)
        · have h := ifF hc19 h
          exact V_vret rfl h dX11_atom_89
        · have h := ifT hc19 h
          refine V_aload_n (q := 73) dX11_atom_72 rfl rfl rfl ?_
          obtain ⟨v20, μ21, hc22, h⟩ := bd_i h
          refine V_cV0 (q := 76) (hrec hc22) (by omega) mv_X11_148 rfl rfl rfl rfl rfl rfl dX11_atom_73 rfl ?_
          refine V_aload_n (q := 77) dX11_atom_76 rfl rfl rfl ?_
          refine V_bipush (q := 79) dX11_atom_77 rfl rfl rfl ?_
          obtain ⟨v23, μ24, hc25, h⟩ := bd_i h
          refine V_cV0 (q := 82) (kX11_closes (d - 1) (by omega) hc25) (by omega) mv_X11_151 rfl rfl rfl rfl rfl rfl dX11_atom_79 rfl ?_
          refine V_goto (q := 89) dX11_atom_82 (by decide) ?_
          exact V_vret rfl h dX11_atom_89
    · have h := ifF hc11 h
      refine V_aload_n (q := 33) dX11_atom_32 rfl rfl rfl ?_
      refine V_dup (q := 34) dX11_atom_33 trivial rfl ?_
      refine V_getI (q := 37) fl_X11_108 rfl rfl rfl dX11_atom_34 rfl ?_
      refine V_iconst (q := 38) dX11_atom_37 rfl rfl ?_
      refine V_iadd (q := 39) dX11_atom_38 rfl ?_
      have h := sF_i h
      refine V_putI (q := 42) fl_X11_108 rfl rfl rfl dX11_atom_39 rfl ?_
      refine V_aload_n (q := 43) dX11_atom_42 rfl rfl rfl ?_
      refine V_iconst (q := 44) dX11_atom_43 rfl rfl ?_
      refine V_iload_n (q := 45) dX11_atom_44 rfl rfl rfl ?_
      obtain ⟨v27, μ28, hc29, h⟩ := bd_i h
      refine V_cS1 (q := 48) (v := vI v27) (kX11_letterOf (d - 1) (by omega) hc29) (by omega) mv_X11_141 rfl rfl rfl rfl dX11_atom_45 rfl ?_
      obtain ⟨v30, μ31, hc32, h⟩ := bd_i h
      refine V_cV0 (q := 51) (kX11_put (d - 1) (by omega) hc32) (by omega) mv_X11_137 rfl rfl rfl rfl rfl rfl dX11_atom_48 rfl ?_
      refine V_goto (q := 89) dX11_atom_51 (by decide) ?_
      exact V_vret rfl h dX11_atom_89
  · have h := ifF hc7 h
    refine V_aload_n (q := 13) dX11_atom_12 rfl rfl rfl ?_
    refine V_iconst (q := 14) dX11_atom_13 rfl rfl ?_
    refine V_aload_n (q := 15) dX11_atom_14 rfl rfl rfl ?_
    obtain ⟨v33, μ34, hc35, h⟩ := bd_i h
    refine V_cV1 (q := 18) (v := vI v33) (kX11_plainNumber (d - 1) (by omega) hc35) (by omega) mv_X11_134 rfl rfl rfl rfl rfl rfl dX11_atom_15 rfl ?_
    obtain ⟨v36, μ37, hc38, h⟩ := bd_i h
    refine V_cV0 (q := 21) (kX11_put (d - 1) (by omega) hc38) (by omega) mv_X11_137 rfl rfl rfl rfl rfl rfl dX11_atom_18 rfl ?_
    refine V_goto (q := 89) dX11_atom_21 (by decide) ?_
    exact V_vret rfl h dX11_atom_89
theorem dX11_term_0 : decode cX11_term 0 = .ok (.aload_n 0, 1) := dc_42 (byA eNcX11_term (p := 0) (v := 42) (by decide +kernel))
theorem dX11_term_1 : decode cX11_term 1 = .ok (.invokevirtual 155, 3) := dc_182 (byA eNcX11_term (p := 1) (v := 182) (by decide +kernel)) (byA eNcX11_term (p := 2) (v := 0) (by decide +kernel)) (byA eNcX11_term (p := 3) (v := 155) (by decide +kernel)) rfl
theorem dX11_term_4 : decode cX11_term 4 = .ok (.aload_n 0, 1) := dc_42 (byA eNcX11_term (p := 4) (v := 42) (by decide +kernel))
theorem dX11_term_5 : decode cX11_term 5 = .ok (.getfield 115, 3) := dc_180 (byA eNcX11_term (p := 5) (v := 180) (by decide +kernel)) (byA eNcX11_term (p := 6) (v := 0) (by decide +kernel)) (byA eNcX11_term (p := 7) (v := 115) (by decide +kernel)) rfl
theorem dX11_term_8 : decode cX11_term 8 = .ok (.iconst (-1), 1) := dc_2 (byA eNcX11_term (p := 8) (v := 2) (by decide +kernel))
theorem dX11_term_9 : decode cX11_term 9 = .ok (.if_icmp .ne 10, 3) := dc_160 (byA eNcX11_term (p := 9) (v := 160) (by decide +kernel)) (byA eNcX11_term (p := 10) (v := 0) (by decide +kernel)) (byA eNcX11_term (p := 11) (v := 10) (by decide +kernel)) (by decide +kernel)
theorem dX11_term_12 : decode cX11_term 12 = .ok (.aload_n 0, 1) := dc_42 (byA eNcX11_term (p := 12) (v := 42) (by decide +kernel))
theorem dX11_term_13 : decode cX11_term 13 = .ok (.invokevirtual 127, 3) := dc_182 (byA eNcX11_term (p := 13) (v := 182) (by decide +kernel)) (byA eNcX11_term (p := 14) (v := 0) (by decide +kernel)) (byA eNcX11_term (p := 15) (v := 127) (by decide +kernel)) rfl
theorem dX11_term_16 : decode cX11_term 16 = .ok (.goto 4, 3) := dc_167 (byA eNcX11_term (p := 16) (v := 167) (by decide +kernel)) (byA eNcX11_term (p := 17) (v := 0) (by decide +kernel)) (byA eNcX11_term (p := 18) (v := 4) (by decide +kernel)) (by decide +kernel)
theorem dX11_term_19 : decode cX11_term 19 = .ok (.iconst (-1), 1) := dc_2 (byA eNcX11_term (p := 19) (v := 2) (by decide +kernel))
theorem dX11_term_20 : decode cX11_term 20 = .ok (.istore_n 1, 1) := dc_60 (byA eNcX11_term (p := 20) (v := 60) (by decide +kernel))
theorem dX11_term_21 : decode cX11_term 21 = .ok (.iload_n 1, 1) := dc_27 (byA eNcX11_term (p := 21) (v := 27) (by decide +kernel))
theorem dX11_term_22 : decode cX11_term 22 = .ok (.bipush 42, 2) := dc_16 (byA eNcX11_term (p := 22) (v := 16) (by decide +kernel)) (byA eNcX11_term (p := 23) (v := 42) (by decide +kernel)) (by decide +kernel)
theorem dX11_term_24 : decode cX11_term 24 = .ok (.if_icmp .eq 9, 3) := dc_159 (byA eNcX11_term (p := 24) (v := 159) (by decide +kernel)) (byA eNcX11_term (p := 25) (v := 0) (by decide +kernel)) (byA eNcX11_term (p := 26) (v := 9) (by decide +kernel)) (by decide +kernel)
theorem dX11_term_27 : decode cX11_term 27 = .ok (.iload_n 1, 1) := dc_27 (byA eNcX11_term (p := 27) (v := 27) (by decide +kernel))
theorem dX11_term_28 : decode cX11_term 28 = .ok (.bipush 47, 2) := dc_16 (byA eNcX11_term (p := 28) (v := 16) (by decide +kernel)) (byA eNcX11_term (p := 29) (v := 47) (by decide +kernel)) (by decide +kernel)
theorem dX11_term_30 : decode cX11_term 30 = .ok (.if_icmp .ne 53, 3) := dc_160 (byA eNcX11_term (p := 30) (v := 160) (by decide +kernel)) (byA eNcX11_term (p := 31) (v := 0) (by decide +kernel)) (byA eNcX11_term (p := 32) (v := 53) (by decide +kernel)) (by decide +kernel)
theorem dX11_term_33 : decode cX11_term 33 = .ok (.aload_n 0, 1) := dc_42 (byA eNcX11_term (p := 33) (v := 42) (by decide +kernel))
theorem dX11_term_34 : decode cX11_term 34 = .ok (.dup, 1) := dc_89 (byA eNcX11_term (p := 34) (v := 89) (by decide +kernel))
theorem dX11_term_35 : decode cX11_term 35 = .ok (.getfield 108, 3) := dc_180 (byA eNcX11_term (p := 35) (v := 180) (by decide +kernel)) (byA eNcX11_term (p := 36) (v := 0) (by decide +kernel)) (byA eNcX11_term (p := 37) (v := 108) (by decide +kernel)) rfl
theorem dX11_term_38 : decode cX11_term 38 = .ok (.iconst 1, 1) := dc_4 (byA eNcX11_term (p := 38) (v := 4) (by decide +kernel))
theorem dX11_term_39 : decode cX11_term 39 = .ok (.iadd, 1) := dc_96 (byA eNcX11_term (p := 39) (v := 96) (by decide +kernel))
theorem dX11_term_40 : decode cX11_term 40 = .ok (.putfield 108, 3) := dc_181 (byA eNcX11_term (p := 40) (v := 181) (by decide +kernel)) (byA eNcX11_term (p := 41) (v := 0) (by decide +kernel)) (byA eNcX11_term (p := 42) (v := 108) (by decide +kernel)) rfl
theorem dX11_term_43 : decode cX11_term 43 = .ok (.aload_n 0, 1) := dc_42 (byA eNcX11_term (p := 43) (v := 42) (by decide +kernel))
theorem dX11_term_44 : decode cX11_term 44 = .ok (.invokevirtual 155, 3) := dc_182 (byA eNcX11_term (p := 44) (v := 182) (by decide +kernel)) (byA eNcX11_term (p := 45) (v := 0) (by decide +kernel)) (byA eNcX11_term (p := 46) (v := 155) (by decide +kernel)) rfl
theorem dX11_term_47 : decode cX11_term 47 = .ok (.aload_n 0, 1) := dc_42 (byA eNcX11_term (p := 47) (v := 42) (by decide +kernel))
theorem dX11_term_48 : decode cX11_term 48 = .ok (.iload_n 1, 1) := dc_27 (byA eNcX11_term (p := 48) (v := 27) (by decide +kernel))
theorem dX11_term_49 : decode cX11_term 49 = .ok (.bipush 42, 2) := dc_16 (byA eNcX11_term (p := 49) (v := 16) (by decide +kernel)) (byA eNcX11_term (p := 50) (v := 42) (by decide +kernel)) (by decide +kernel)
theorem dX11_term_51 : decode cX11_term 51 = .ok (.if_icmp .ne 7, 3) := dc_160 (byA eNcX11_term (p := 51) (v := 160) (by decide +kernel)) (byA eNcX11_term (p := 52) (v := 0) (by decide +kernel)) (byA eNcX11_term (p := 53) (v := 7) (by decide +kernel)) (by decide +kernel)
theorem dX11_term_54 : decode cX11_term 54 = .ok (.iconst 4, 1) := dc_7 (byA eNcX11_term (p := 54) (v := 7) (by decide +kernel))
theorem dX11_term_55 : decode cX11_term 55 = .ok (.goto 4, 3) := dc_167 (byA eNcX11_term (p := 55) (v := 167) (by decide +kernel)) (byA eNcX11_term (p := 56) (v := 0) (by decide +kernel)) (byA eNcX11_term (p := 57) (v := 4) (by decide +kernel)) (by decide +kernel)
theorem dX11_term_58 : decode cX11_term 58 = .ok (.iconst 5, 1) := dc_8 (byA eNcX11_term (p := 58) (v := 8) (by decide +kernel))
theorem dX11_term_59 : decode cX11_term 59 = .ok (.iconst 0, 1) := dc_3 (byA eNcX11_term (p := 59) (v := 3) (by decide +kernel))
theorem dX11_term_60 : decode cX11_term 60 = .ok (.invokevirtual 137, 3) := dc_182 (byA eNcX11_term (p := 60) (v := 182) (by decide +kernel)) (byA eNcX11_term (p := 61) (v := 0) (by decide +kernel)) (byA eNcX11_term (p := 62) (v := 137) (by decide +kernel)) rfl
theorem dX11_term_63 : decode cX11_term 63 = .ok (.aload_n 0, 1) := dc_42 (byA eNcX11_term (p := 63) (v := 42) (by decide +kernel))
theorem dX11_term_64 : decode cX11_term 64 = .ok (.getfield 115, 3) := dc_180 (byA eNcX11_term (p := 64) (v := 180) (by decide +kernel)) (byA eNcX11_term (p := 65) (v := 0) (by decide +kernel)) (byA eNcX11_term (p := 66) (v := 115) (by decide +kernel)) rfl
theorem dX11_term_67 : decode cX11_term 67 = .ok (.iconst (-1), 1) := dc_2 (byA eNcX11_term (p := 67) (v := 2) (by decide +kernel))
theorem dX11_term_68 : decode cX11_term 68 = .ok (.if_icmp .ne 10, 3) := dc_160 (byA eNcX11_term (p := 68) (v := 160) (by decide +kernel)) (byA eNcX11_term (p := 69) (v := 0) (by decide +kernel)) (byA eNcX11_term (p := 70) (v := 10) (by decide +kernel)) (by decide +kernel)
theorem dX11_term_71 : decode cX11_term 71 = .ok (.aload_n 0, 1) := dc_42 (byA eNcX11_term (p := 71) (v := 42) (by decide +kernel))
theorem dX11_term_72 : decode cX11_term 72 = .ok (.invokevirtual 127, 3) := dc_182 (byA eNcX11_term (p := 72) (v := 182) (by decide +kernel)) (byA eNcX11_term (p := 73) (v := 0) (by decide +kernel)) (byA eNcX11_term (p := 74) (v := 127) (by decide +kernel)) rfl
theorem dX11_term_75 : decode cX11_term 75 = .ok (.goto 4, 3) := dc_167 (byA eNcX11_term (p := 75) (v := 167) (by decide +kernel)) (byA eNcX11_term (p := 76) (v := 0) (by decide +kernel)) (byA eNcX11_term (p := 77) (v := 4) (by decide +kernel)) (by decide +kernel)
theorem dX11_term_78 : decode cX11_term 78 = .ok (.iconst (-1), 1) := dc_2 (byA eNcX11_term (p := 78) (v := 2) (by decide +kernel))
theorem dX11_term_79 : decode cX11_term 79 = .ok (.istore_n 1, 1) := dc_60 (byA eNcX11_term (p := 79) (v := 60) (by decide +kernel))
theorem dX11_term_80 : decode cX11_term 80 = .ok (.goto (-59), 3) := dc_167 (byA eNcX11_term (p := 80) (v := 167) (by decide +kernel)) (byA eNcX11_term (p := 81) (v := 255) (by decide +kernel)) (byA eNcX11_term (p := 82) (v := 197) (by decide +kernel)) (by decide +kernel)
theorem dX11_term_83 : decode cX11_term 83 = .ok (.return_, 1) := dc_177 (byA eNcX11_term (p := 83) (v := 177) (by decide +kernel))
def X11_term_J59 (rec : Mm → Rs) (k21 : Int → Mm → Rs) (s1 : Int) (μ : Mm) : Rs := bd (X11_put s1 0 μ) fun v11 μ12 => if (μ12 70 4) = (-1) then (bd (X11_look μ12) fun v15 μ16 => k21 v15 μ16) else (k21 (-1) μ12)
def X11_term_J33 (rec : Mm → Rs) (k21 : Int → Mm → Rs) (l1 : Int) (μ : Mm) : Rs := sF μ 70 3 (iA (μ 70 3) 1) fun μ6 => bd (X11_atom_o rec μ6) fun v7 μ8 => if l1 = 42 then (X11_term_J59 rec (fun w1 μq => k21 w1 μq) 4 μ8) else (X11_term_J59 rec (fun w1 μq => k21 w1 μq) 5 μ8)
def X11_term_L21 (rec : Mm → Rs) : Nat → Int → Mm → Rs
  | 0, _, _ => none
  | n + 1, l1, μ => if l1 = 42 then (X11_term_J33 rec (fun w1 μq => X11_term_L21 rec n w1 μq) l1 μ) else (if l1 = 47 then (X11_term_J33 rec (fun w1 μq => X11_term_L21 rec n w1 μq) l1 μ) else (some (0, μ)))
def X11_term_J20 (rec : Mm → Rs) (s0 : Int) (μ : Mm) : Rs := X11_term_L21 rec FU s0 μ
def X11_term_o (rec : Mm → Rs) (μ : Mm) : Rs := bd (X11_atom_o rec μ) fun v1 μ2 => if (μ2 70 4) = (-1) then (bd (X11_look μ2) fun v19 μ20 => X11_term_J20 rec v19 μ20) else (X11_term_J20 rec (-1) μ2)
set_option maxHeartbeats 4000000 in
set_option maxRecDepth 100000 in
theorem kX11_term_J59 (d : Nat) {d0 : Nat} (hd : d0 + 3 ≤ d) {rec : Mm → Rs} (hrec : ∀  {μ1 : Mm} {r1 : Int} {μ2 : Mm}, rec  μ1 = some (r1, μ2) → CC d0 mX11_sum [vR 70] μ1 r1 μ2) (hb : 7 ≤ d) {k21 : Int → Mm → Rs} {s1 : Int} {μ : Mm} {r : Int} {μ' : Mm} (hk_21 : ∀ (v1 : Int) (μ1 : Mm), k21 v1 μ1 = some (r, μ') → VV d mX11_term 21 [some (vR 70), some (vI v1)] [] μ1 r μ') (h : X11_term_J59 rec k21 s1 μ = some (r, μ')) : VV d mX11_term 59 [some (vR 70), none] [vI s1, vR 70] μ r μ' := by
  unfold X11_term_J59 at h
  refine V_iconst (q := 60) dX11_term_59 rfl rfl ?_
  obtain ⟨v11, μ12, hc13, h⟩ := bd_i h
  refine V_cV0 (q := 63) (kX11_put (d - 1) (by omega) hc13) (by omega) mv_X11_137 rfl rfl rfl rfl rfl rfl dX11_term_60 rfl ?_
  refine V_aload_n (q := 64) dX11_term_63 rfl rfl rfl ?_
  refine V_getI (q := 67) fl_X11_115 rfl rfl rfl dX11_term_64 rfl ?_
  refine V_iconst (q := 68) dX11_term_67 rfl rfl ?_
  refine V_icmpne (q := 78) (q2 := 71) dX11_term_68 (by decide) rfl (fun hc14 => ?_) (fun hc14 => ?_)
  · have h := ifF hc14 h
    refine V_iconst (q := 79) dX11_term_78 rfl rfl ?_
    refine V_istore_n (q := 80) dX11_term_79 rfl (Nat.le_of_ble_eq_true rfl) trivial rfl ?_
    refine V_goto (q := 21) dX11_term_80 (by decide) ?_
    exact V_weak (hk_21 _ _ h) (sb_s rfl (sb_s rfl sb_0))
  · have h := ifT hc14 h
    refine V_aload_n (q := 72) dX11_term_71 rfl rfl rfl ?_
    obtain ⟨v15, μ16, hc17, h⟩ := bd_i h
    refine V_cV1 (q := 75) (v := vI v15) (kX11_look (d - 1) (by omega) hc17) (by omega) mv_X11_127 rfl rfl rfl rfl rfl rfl dX11_term_72 rfl ?_
    refine V_goto (q := 79) dX11_term_75 (by decide) ?_
    refine V_istore_n (q := 80) dX11_term_79 rfl (Nat.le_of_ble_eq_true rfl) trivial rfl ?_
    refine V_goto (q := 21) dX11_term_80 (by decide) ?_
    exact V_weak (hk_21 _ _ h) (sb_s rfl (sb_s rfl sb_0))
set_option maxHeartbeats 4000000 in
set_option maxRecDepth 100000 in
theorem kX11_term_J33 (d : Nat) {d0 : Nat} (hd : d0 + 3 ≤ d) {rec : Mm → Rs} (hrec : ∀  {μ1 : Mm} {r1 : Int} {μ2 : Mm}, rec  μ1 = some (r1, μ2) → CC d0 mX11_sum [vR 70] μ1 r1 μ2) (hb : 7 ≤ d) {k21 : Int → Mm → Rs} {l1 : Int} {μ : Mm} {r : Int} {μ' : Mm} (hk_21 : ∀ (v1 : Int) (μ1 : Mm), k21 v1 μ1 = some (r, μ') → VV d mX11_term 21 [some (vR 70), some (vI v1)] [] μ1 r μ') (h : X11_term_J33 rec k21 l1 μ = some (r, μ')) : VV d mX11_term 33 [some (vR 70), some (vI l1)] [] μ r μ' := by
  unfold X11_term_J33 at h
  refine V_aload_n (q := 34) dX11_term_33 rfl rfl rfl ?_
  refine V_dup (q := 35) dX11_term_34 trivial rfl ?_
  refine V_getI (q := 38) fl_X11_108 rfl rfl rfl dX11_term_35 rfl ?_
  refine V_iconst (q := 39) dX11_term_38 rfl rfl ?_
  refine V_iadd (q := 40) dX11_term_39 rfl ?_
  have h := sF_i h
  refine V_putI (q := 43) fl_X11_108 rfl rfl rfl dX11_term_40 rfl ?_
  refine V_aload_n (q := 44) dX11_term_43 rfl rfl rfl ?_
  obtain ⟨v7, μ8, hc9, h⟩ := bd_i h
  refine V_cV0 (q := 47) (kX11_atom (d - 1) (by omega) hrec (by omega) hc9) (by omega) mv_X11_155 rfl rfl rfl rfl rfl rfl dX11_term_44 rfl ?_
  refine V_aload_n (q := 48) dX11_term_47 rfl rfl rfl ?_
  refine V_iload_n (q := 49) dX11_term_48 rfl rfl rfl ?_
  refine V_bipush (q := 51) dX11_term_49 rfl rfl rfl ?_
  refine V_icmpne (q := 58) (q2 := 54) dX11_term_51 (by decide) rfl (fun hc10 => ?_) (fun hc10 => ?_)
  · have h := ifF hc10 h
    refine V_iconst (q := 59) dX11_term_58 rfl rfl ?_
    exact V_weak (kX11_term_J59 d hd hrec hb (fun _ _ h => hk_21 _ _ h) h) (sb_s rfl (sb_n sb_0))
  · have h := ifT hc10 h
    refine V_iconst (q := 55) dX11_term_54 rfl rfl ?_
    refine V_goto (q := 59) dX11_term_55 (by decide) ?_
    exact V_weak (kX11_term_J59 d hd hrec hb (fun _ _ h => hk_21 _ _ h) h) (sb_s rfl (sb_n sb_0))
set_option maxHeartbeats 4000000 in
set_option maxRecDepth 100000 in
theorem kX11_term_L21 (d : Nat) {d0 : Nat} (hd : d0 + 3 ≤ d) {rec : Mm → Rs} (hrec : ∀  {μ1 : Mm} {r1 : Int} {μ2 : Mm}, rec  μ1 = some (r1, μ2) → CC d0 mX11_sum [vR 70] μ1 r1 μ2) (hb : 7 ≤ d) {r : Int} {μ' : Mm} : ∀ (n : Nat) {l1 : Int} {μ : Mm}, X11_term_L21 rec n l1 μ = some (r, μ') → VV d mX11_term 21 [some (vR 70), some (vI l1)] [] μ r μ' := by
  intro n
  induction n with
  | zero => intro l1 μ h; rw [X11_term_L21] at h; cases h
  | succ n ih =>
    intro l1 μ h
    rw [X11_term_L21] at h
    refine V_iload_n (q := 22) dX11_term_21 rfl rfl rfl ?_
    refine V_bipush (q := 24) dX11_term_22 rfl rfl rfl ?_
    refine V_icmpeq (q := 33) (q2 := 27) dX11_term_24 (by decide) rfl (fun hc5 => ?_) (fun hc5 => ?_)
    · have h := ifT hc5 h
      exact V_weak (kX11_term_J33 d hd hrec hb (fun _ _ h => ih h) h) (sb_s rfl (sb_s rfl sb_0))
    · have h := ifF hc5 h
      refine V_iload_n (q := 28) dX11_term_27 rfl rfl rfl ?_
      refine V_bipush (q := 30) dX11_term_28 rfl rfl rfl ?_
      refine V_icmpne (q := 83) (q2 := 33) dX11_term_30 (by decide) rfl (fun hc18 => ?_) (fun hc18 => ?_)
      · have h := ifF hc18 h
        exact V_vret rfl h dX11_term_83
      · have h := ifT hc18 h
        exact V_weak (kX11_term_J33 d hd hrec hb (fun _ _ h => ih h) h) (sb_s rfl (sb_s rfl sb_0))
set_option maxHeartbeats 4000000 in
set_option maxRecDepth 100000 in
theorem kX11_term_J20 (d : Nat) {d0 : Nat} (hd : d0 + 3 ≤ d) {rec : Mm → Rs} (hrec : ∀  {μ1 : Mm} {r1 : Int} {μ2 : Mm}, rec  μ1 = some (r1, μ2) → CC d0 mX11_sum [vR 70] μ1 r1 μ2) (hb : 7 ≤ d) {s0 : Int} {μ : Mm} {r : Int} {μ' : Mm} (h : X11_term_J20 rec s0 μ = some (r, μ')) : VV d mX11_term 20 [some (vR 70), none] [vI s0] μ r μ' := by
  unfold X11_term_J20 at h
  refine V_istore_n (q := 21) dX11_term_20 rfl (Nat.le_of_ble_eq_true rfl) trivial rfl ?_
  exact V_weak (kX11_term_L21 d hd hrec hb  FU h) (sb_s rfl (sb_s rfl sb_0))
set_option maxHeartbeats 4000000 in
set_option maxRecDepth 100000 in
theorem kX11_term (d : Nat) {d0 : Nat} (hd : d0 + 3 ≤ d) {rec : Mm → Rs} (hrec : ∀  {μ1 : Mm} {r1 : Int} {μ2 : Mm}, rec  μ1 = some (r1, μ2) → CC d0 mX11_sum [vR 70] μ1 r1 μ2) (hb : 7 ≤ d) {μ : Mm} {r : Int} {μ' : Mm} (h : X11_term_o rec μ = some (r, μ')) : CC d mX11_term [vR 70] μ r μ' := by
  unfold X11_term_o at h
  refine V_enter (by decide) (Nat.le_of_ble_eq_true rfl) ?_
  show VV d mX11_term 0 [some (vR 70), none] [] μ r μ'
  refine V_aload_n (q := 1) dX11_term_0 rfl rfl rfl ?_
  obtain ⟨v1, μ2, hc3, h⟩ := bd_i h
  refine V_cV0 (q := 4) (kX11_atom (d - 1) (by omega) hrec (by omega) hc3) (by omega) mv_X11_155 rfl rfl rfl rfl rfl rfl dX11_term_1 rfl ?_
  refine V_aload_n (q := 5) dX11_term_4 rfl rfl rfl ?_
  refine V_getI (q := 8) fl_X11_115 rfl rfl rfl dX11_term_5 rfl ?_
  refine V_iconst (q := 9) dX11_term_8 rfl rfl ?_
  refine V_icmpne (q := 19) (q2 := 12) dX11_term_9 (by decide) rfl (fun hc4 => ?_) (fun hc4 => ?_)
  · have h := ifF hc4 h
    refine V_iconst (q := 20) dX11_term_19 rfl rfl ?_
    exact V_weak (kX11_term_J20 d hd hrec hb h) (sb_s rfl (sb_n sb_0))
  · have h := ifT hc4 h
    refine V_aload_n (q := 13) dX11_term_12 rfl rfl rfl ?_
    obtain ⟨v19, μ20, hc21, h⟩ := bd_i h
    refine V_cV1 (q := 16) (v := vI v19) (kX11_look (d - 1) (by omega) hc21) (by omega) mv_X11_127 rfl rfl rfl rfl rfl rfl dX11_term_13 rfl ?_
    refine V_goto (q := 20) dX11_term_16 (by decide) ?_
    exact V_weak (kX11_term_J20 d hd hrec hb h) (sb_s rfl (sb_n sb_0))
theorem dX11_sum_0 : decode cX11_sum 0 = .ok (.aload_n 0, 1) := dc_42 (byA eNcX11_sum (p := 0) (v := 42) (by decide +kernel))
theorem dX11_sum_1 : decode cX11_sum 1 = .ok (.invokevirtual 158, 3) := dc_182 (byA eNcX11_sum (p := 1) (v := 182) (by decide +kernel)) (byA eNcX11_sum (p := 2) (v := 0) (by decide +kernel)) (byA eNcX11_sum (p := 3) (v := 158) (by decide +kernel)) rfl
theorem dX11_sum_4 : decode cX11_sum 4 = .ok (.aload_n 0, 1) := dc_42 (byA eNcX11_sum (p := 4) (v := 42) (by decide +kernel))
theorem dX11_sum_5 : decode cX11_sum 5 = .ok (.getfield 115, 3) := dc_180 (byA eNcX11_sum (p := 5) (v := 180) (by decide +kernel)) (byA eNcX11_sum (p := 6) (v := 0) (by decide +kernel)) (byA eNcX11_sum (p := 7) (v := 115) (by decide +kernel)) rfl
theorem dX11_sum_8 : decode cX11_sum 8 = .ok (.iconst (-1), 1) := dc_2 (byA eNcX11_sum (p := 8) (v := 2) (by decide +kernel))
theorem dX11_sum_9 : decode cX11_sum 9 = .ok (.if_icmp .ne 10, 3) := dc_160 (byA eNcX11_sum (p := 9) (v := 160) (by decide +kernel)) (byA eNcX11_sum (p := 10) (v := 0) (by decide +kernel)) (byA eNcX11_sum (p := 11) (v := 10) (by decide +kernel)) (by decide +kernel)
theorem dX11_sum_12 : decode cX11_sum 12 = .ok (.aload_n 0, 1) := dc_42 (byA eNcX11_sum (p := 12) (v := 42) (by decide +kernel))
theorem dX11_sum_13 : decode cX11_sum 13 = .ok (.invokevirtual 127, 3) := dc_182 (byA eNcX11_sum (p := 13) (v := 182) (by decide +kernel)) (byA eNcX11_sum (p := 14) (v := 0) (by decide +kernel)) (byA eNcX11_sum (p := 15) (v := 127) (by decide +kernel)) rfl
theorem dX11_sum_16 : decode cX11_sum 16 = .ok (.goto 4, 3) := dc_167 (byA eNcX11_sum (p := 16) (v := 167) (by decide +kernel)) (byA eNcX11_sum (p := 17) (v := 0) (by decide +kernel)) (byA eNcX11_sum (p := 18) (v := 4) (by decide +kernel)) (by decide +kernel)
theorem dX11_sum_19 : decode cX11_sum 19 = .ok (.iconst (-1), 1) := dc_2 (byA eNcX11_sum (p := 19) (v := 2) (by decide +kernel))
theorem dX11_sum_20 : decode cX11_sum 20 = .ok (.istore_n 1, 1) := dc_60 (byA eNcX11_sum (p := 20) (v := 60) (by decide +kernel))
theorem dX11_sum_21 : decode cX11_sum 21 = .ok (.iload_n 1, 1) := dc_27 (byA eNcX11_sum (p := 21) (v := 27) (by decide +kernel))
theorem dX11_sum_22 : decode cX11_sum 22 = .ok (.bipush 43, 2) := dc_16 (byA eNcX11_sum (p := 22) (v := 16) (by decide +kernel)) (byA eNcX11_sum (p := 23) (v := 43) (by decide +kernel)) (by decide +kernel)
theorem dX11_sum_24 : decode cX11_sum 24 = .ok (.if_icmp .eq 9, 3) := dc_159 (byA eNcX11_sum (p := 24) (v := 159) (by decide +kernel)) (byA eNcX11_sum (p := 25) (v := 0) (by decide +kernel)) (byA eNcX11_sum (p := 26) (v := 9) (by decide +kernel)) (by decide +kernel)
theorem dX11_sum_27 : decode cX11_sum 27 = .ok (.iload_n 1, 1) := dc_27 (byA eNcX11_sum (p := 27) (v := 27) (by decide +kernel))
theorem dX11_sum_28 : decode cX11_sum 28 = .ok (.bipush 45, 2) := dc_16 (byA eNcX11_sum (p := 28) (v := 16) (by decide +kernel)) (byA eNcX11_sum (p := 29) (v := 45) (by decide +kernel)) (by decide +kernel)
theorem dX11_sum_30 : decode cX11_sum 30 = .ok (.if_icmp .ne 53, 3) := dc_160 (byA eNcX11_sum (p := 30) (v := 160) (by decide +kernel)) (byA eNcX11_sum (p := 31) (v := 0) (by decide +kernel)) (byA eNcX11_sum (p := 32) (v := 53) (by decide +kernel)) (by decide +kernel)
theorem dX11_sum_33 : decode cX11_sum 33 = .ok (.aload_n 0, 1) := dc_42 (byA eNcX11_sum (p := 33) (v := 42) (by decide +kernel))
theorem dX11_sum_34 : decode cX11_sum 34 = .ok (.dup, 1) := dc_89 (byA eNcX11_sum (p := 34) (v := 89) (by decide +kernel))
theorem dX11_sum_35 : decode cX11_sum 35 = .ok (.getfield 108, 3) := dc_180 (byA eNcX11_sum (p := 35) (v := 180) (by decide +kernel)) (byA eNcX11_sum (p := 36) (v := 0) (by decide +kernel)) (byA eNcX11_sum (p := 37) (v := 108) (by decide +kernel)) rfl
theorem dX11_sum_38 : decode cX11_sum 38 = .ok (.iconst 1, 1) := dc_4 (byA eNcX11_sum (p := 38) (v := 4) (by decide +kernel))
theorem dX11_sum_39 : decode cX11_sum 39 = .ok (.iadd, 1) := dc_96 (byA eNcX11_sum (p := 39) (v := 96) (by decide +kernel))
theorem dX11_sum_40 : decode cX11_sum 40 = .ok (.putfield 108, 3) := dc_181 (byA eNcX11_sum (p := 40) (v := 181) (by decide +kernel)) (byA eNcX11_sum (p := 41) (v := 0) (by decide +kernel)) (byA eNcX11_sum (p := 42) (v := 108) (by decide +kernel)) rfl
theorem dX11_sum_43 : decode cX11_sum 43 = .ok (.aload_n 0, 1) := dc_42 (byA eNcX11_sum (p := 43) (v := 42) (by decide +kernel))
theorem dX11_sum_44 : decode cX11_sum 44 = .ok (.invokevirtual 158, 3) := dc_182 (byA eNcX11_sum (p := 44) (v := 182) (by decide +kernel)) (byA eNcX11_sum (p := 45) (v := 0) (by decide +kernel)) (byA eNcX11_sum (p := 46) (v := 158) (by decide +kernel)) rfl
theorem dX11_sum_47 : decode cX11_sum 47 = .ok (.aload_n 0, 1) := dc_42 (byA eNcX11_sum (p := 47) (v := 42) (by decide +kernel))
theorem dX11_sum_48 : decode cX11_sum 48 = .ok (.iload_n 1, 1) := dc_27 (byA eNcX11_sum (p := 48) (v := 27) (by decide +kernel))
theorem dX11_sum_49 : decode cX11_sum 49 = .ok (.bipush 43, 2) := dc_16 (byA eNcX11_sum (p := 49) (v := 16) (by decide +kernel)) (byA eNcX11_sum (p := 50) (v := 43) (by decide +kernel)) (by decide +kernel)
theorem dX11_sum_51 : decode cX11_sum 51 = .ok (.if_icmp .ne 7, 3) := dc_160 (byA eNcX11_sum (p := 51) (v := 160) (by decide +kernel)) (byA eNcX11_sum (p := 52) (v := 0) (by decide +kernel)) (byA eNcX11_sum (p := 53) (v := 7) (by decide +kernel)) (by decide +kernel)
theorem dX11_sum_54 : decode cX11_sum 54 = .ok (.iconst 2, 1) := dc_5 (byA eNcX11_sum (p := 54) (v := 5) (by decide +kernel))
theorem dX11_sum_55 : decode cX11_sum 55 = .ok (.goto 4, 3) := dc_167 (byA eNcX11_sum (p := 55) (v := 167) (by decide +kernel)) (byA eNcX11_sum (p := 56) (v := 0) (by decide +kernel)) (byA eNcX11_sum (p := 57) (v := 4) (by decide +kernel)) (by decide +kernel)
theorem dX11_sum_58 : decode cX11_sum 58 = .ok (.iconst 3, 1) := dc_6 (byA eNcX11_sum (p := 58) (v := 6) (by decide +kernel))
theorem dX11_sum_59 : decode cX11_sum 59 = .ok (.iconst 0, 1) := dc_3 (byA eNcX11_sum (p := 59) (v := 3) (by decide +kernel))
theorem dX11_sum_60 : decode cX11_sum 60 = .ok (.invokevirtual 137, 3) := dc_182 (byA eNcX11_sum (p := 60) (v := 182) (by decide +kernel)) (byA eNcX11_sum (p := 61) (v := 0) (by decide +kernel)) (byA eNcX11_sum (p := 62) (v := 137) (by decide +kernel)) rfl
theorem dX11_sum_63 : decode cX11_sum 63 = .ok (.aload_n 0, 1) := dc_42 (byA eNcX11_sum (p := 63) (v := 42) (by decide +kernel))
theorem dX11_sum_64 : decode cX11_sum 64 = .ok (.getfield 115, 3) := dc_180 (byA eNcX11_sum (p := 64) (v := 180) (by decide +kernel)) (byA eNcX11_sum (p := 65) (v := 0) (by decide +kernel)) (byA eNcX11_sum (p := 66) (v := 115) (by decide +kernel)) rfl
theorem dX11_sum_67 : decode cX11_sum 67 = .ok (.iconst (-1), 1) := dc_2 (byA eNcX11_sum (p := 67) (v := 2) (by decide +kernel))
theorem dX11_sum_68 : decode cX11_sum 68 = .ok (.if_icmp .ne 10, 3) := dc_160 (byA eNcX11_sum (p := 68) (v := 160) (by decide +kernel)) (byA eNcX11_sum (p := 69) (v := 0) (by decide +kernel)) (byA eNcX11_sum (p := 70) (v := 10) (by decide +kernel)) (by decide +kernel)
theorem dX11_sum_71 : decode cX11_sum 71 = .ok (.aload_n 0, 1) := dc_42 (byA eNcX11_sum (p := 71) (v := 42) (by decide +kernel))
theorem dX11_sum_72 : decode cX11_sum 72 = .ok (.invokevirtual 127, 3) := dc_182 (byA eNcX11_sum (p := 72) (v := 182) (by decide +kernel)) (byA eNcX11_sum (p := 73) (v := 0) (by decide +kernel)) (byA eNcX11_sum (p := 74) (v := 127) (by decide +kernel)) rfl
theorem dX11_sum_75 : decode cX11_sum 75 = .ok (.goto 4, 3) := dc_167 (byA eNcX11_sum (p := 75) (v := 167) (by decide +kernel)) (byA eNcX11_sum (p := 76) (v := 0) (by decide +kernel)) (byA eNcX11_sum (p := 77) (v := 4) (by decide +kernel)) (by decide +kernel)
theorem dX11_sum_78 : decode cX11_sum 78 = .ok (.iconst (-1), 1) := dc_2 (byA eNcX11_sum (p := 78) (v := 2) (by decide +kernel))
theorem dX11_sum_79 : decode cX11_sum 79 = .ok (.istore_n 1, 1) := dc_60 (byA eNcX11_sum (p := 79) (v := 60) (by decide +kernel))
theorem dX11_sum_80 : decode cX11_sum 80 = .ok (.goto (-59), 3) := dc_167 (byA eNcX11_sum (p := 80) (v := 167) (by decide +kernel)) (byA eNcX11_sum (p := 81) (v := 255) (by decide +kernel)) (byA eNcX11_sum (p := 82) (v := 197) (by decide +kernel)) (by decide +kernel)
theorem dX11_sum_83 : decode cX11_sum 83 = .ok (.return_, 1) := dc_177 (byA eNcX11_sum (p := 83) (v := 177) (by decide +kernel))
def X11_sum_J59 (rec : Mm → Rs) (k21 : Int → Mm → Rs) (s1 : Int) (μ : Mm) : Rs := bd (X11_put s1 0 μ) fun v11 μ12 => if (μ12 70 4) = (-1) then (bd (X11_look μ12) fun v15 μ16 => k21 v15 μ16) else (k21 (-1) μ12)
def X11_sum_J33 (rec : Mm → Rs) (k21 : Int → Mm → Rs) (l1 : Int) (μ : Mm) : Rs := sF μ 70 3 (iA (μ 70 3) 1) fun μ6 => bd (X11_term_o rec μ6) fun v7 μ8 => if l1 = 43 then (X11_sum_J59 rec (fun w1 μq => k21 w1 μq) 2 μ8) else (X11_sum_J59 rec (fun w1 μq => k21 w1 μq) 3 μ8)
def X11_sum_L21 (rec : Mm → Rs) : Nat → Int → Mm → Rs
  | 0, _, _ => none
  | n + 1, l1, μ => if l1 = 43 then (X11_sum_J33 rec (fun w1 μq => X11_sum_L21 rec n w1 μq) l1 μ) else (if l1 = 45 then (X11_sum_J33 rec (fun w1 μq => X11_sum_L21 rec n w1 μq) l1 μ) else (some (0, μ)))
def X11_sum_J20 (rec : Mm → Rs) (s0 : Int) (μ : Mm) : Rs := X11_sum_L21 rec FU s0 μ
def X11_sum : Nat → Mm → Rs
  | 0, _ => none
  | n + 1, μ => bd (X11_term_o (fun  μq => X11_sum n  μq) μ) fun v1 μ2 => if (μ2 70 4) = (-1) then (bd (X11_look μ2) fun v19 μ20 => X11_sum_J20 (fun  μq => X11_sum n  μq) v19 μ20) else (X11_sum_J20 (fun  μq => X11_sum n  μq) (-1) μ2)
set_option maxHeartbeats 4000000 in
set_option maxRecDepth 100000 in
theorem kX11_sum_J59 (d : Nat) {d0 : Nat} (hd : d0 + 9 ≤ d) (hb : 13 ≤ d) {rec : Mm → Rs} (hrec : ∀  {μ1 : Mm} {r1 : Int} {μ2 : Mm}, rec  μ1 = some (r1, μ2) → CC d0 mX11_sum [vR 70] μ1 r1 μ2) {k21 : Int → Mm → Rs} {s1 : Int} {μ : Mm} {r : Int} {μ' : Mm} (hk_21 : ∀ (v1 : Int) (μ1 : Mm), k21 v1 μ1 = some (r, μ') → VV d mX11_sum 21 [some (vR 70), some (vI v1)] [] μ1 r μ') (h : X11_sum_J59 rec k21 s1 μ = some (r, μ')) : VV d mX11_sum 59 [some (vR 70), none] [vI s1, vR 70] μ r μ' := by
  unfold X11_sum_J59 at h
  refine V_iconst (q := 60) dX11_sum_59 rfl rfl ?_
  obtain ⟨v11, μ12, hc13, h⟩ := bd_i h
  refine V_cV0 (q := 63) (kX11_put (d - 1) (by omega) hc13) (by omega) mv_X11_137 rfl rfl rfl rfl rfl rfl dX11_sum_60 rfl ?_
  refine V_aload_n (q := 64) dX11_sum_63 rfl rfl rfl ?_
  refine V_getI (q := 67) fl_X11_115 rfl rfl rfl dX11_sum_64 rfl ?_
  refine V_iconst (q := 68) dX11_sum_67 rfl rfl ?_
  refine V_icmpne (q := 78) (q2 := 71) dX11_sum_68 (by decide) rfl (fun hc14 => ?_) (fun hc14 => ?_)
  · have h := ifF hc14 h
    refine V_iconst (q := 79) dX11_sum_78 rfl rfl ?_
    refine V_istore_n (q := 80) dX11_sum_79 rfl (Nat.le_of_ble_eq_true rfl) trivial rfl ?_
    refine V_goto (q := 21) dX11_sum_80 (by decide) ?_
    exact V_weak (hk_21 _ _ h) (sb_s rfl (sb_s rfl sb_0))
  · have h := ifT hc14 h
    refine V_aload_n (q := 72) dX11_sum_71 rfl rfl rfl ?_
    obtain ⟨v15, μ16, hc17, h⟩ := bd_i h
    refine V_cV1 (q := 75) (v := vI v15) (kX11_look (d - 1) (by omega) hc17) (by omega) mv_X11_127 rfl rfl rfl rfl rfl rfl dX11_sum_72 rfl ?_
    refine V_goto (q := 79) dX11_sum_75 (by decide) ?_
    refine V_istore_n (q := 80) dX11_sum_79 rfl (Nat.le_of_ble_eq_true rfl) trivial rfl ?_
    refine V_goto (q := 21) dX11_sum_80 (by decide) ?_
    exact V_weak (hk_21 _ _ h) (sb_s rfl (sb_s rfl sb_0))
set_option maxHeartbeats 4000000 in
set_option maxRecDepth 100000 in
theorem kX11_sum_J33 (d : Nat) {d0 : Nat} (hd : d0 + 9 ≤ d) (hb : 13 ≤ d) {rec : Mm → Rs} (hrec : ∀  {μ1 : Mm} {r1 : Int} {μ2 : Mm}, rec  μ1 = some (r1, μ2) → CC d0 mX11_sum [vR 70] μ1 r1 μ2) {k21 : Int → Mm → Rs} {l1 : Int} {μ : Mm} {r : Int} {μ' : Mm} (hk_21 : ∀ (v1 : Int) (μ1 : Mm), k21 v1 μ1 = some (r, μ') → VV d mX11_sum 21 [some (vR 70), some (vI v1)] [] μ1 r μ') (h : X11_sum_J33 rec k21 l1 μ = some (r, μ')) : VV d mX11_sum 33 [some (vR 70), some (vI l1)] [] μ r μ' := by
  unfold X11_sum_J33 at h
  refine V_aload_n (q := 34) dX11_sum_33 rfl rfl rfl ?_
  refine V_dup (q := 35) dX11_sum_34 trivial rfl ?_
  refine V_getI (q := 38) fl_X11_108 rfl rfl rfl dX11_sum_35 rfl ?_
  refine V_iconst (q := 39) dX11_sum_38 rfl rfl ?_
  refine V_iadd (q := 40) dX11_sum_39 rfl ?_
  have h := sF_i h
  refine V_putI (q := 43) fl_X11_108 rfl rfl rfl dX11_sum_40 rfl ?_
  refine V_aload_n (q := 44) dX11_sum_43 rfl rfl rfl ?_
  obtain ⟨v7, μ8, hc9, h⟩ := bd_i h
  refine V_cV0 (q := 47) (kX11_term (d - 1) (by omega) hrec (by omega) hc9) (by omega) mv_X11_158 rfl rfl rfl rfl rfl rfl dX11_sum_44 rfl ?_
  refine V_aload_n (q := 48) dX11_sum_47 rfl rfl rfl ?_
  refine V_iload_n (q := 49) dX11_sum_48 rfl rfl rfl ?_
  refine V_bipush (q := 51) dX11_sum_49 rfl rfl rfl ?_
  refine V_icmpne (q := 58) (q2 := 54) dX11_sum_51 (by decide) rfl (fun hc10 => ?_) (fun hc10 => ?_)
  · have h := ifF hc10 h
    refine V_iconst (q := 59) dX11_sum_58 rfl rfl ?_
    exact V_weak (kX11_sum_J59 d hd hb hrec (fun _ _ h => hk_21 _ _ h) h) (sb_s rfl (sb_n sb_0))
  · have h := ifT hc10 h
    refine V_iconst (q := 55) dX11_sum_54 rfl rfl ?_
    refine V_goto (q := 59) dX11_sum_55 (by decide) ?_
    exact V_weak (kX11_sum_J59 d hd hb hrec (fun _ _ h => hk_21 _ _ h) h) (sb_s rfl (sb_n sb_0))
set_option maxHeartbeats 4000000 in
set_option maxRecDepth 100000 in
theorem kX11_sum_L21 (d : Nat) {d0 : Nat} (hd : d0 + 9 ≤ d) (hb : 13 ≤ d) {rec : Mm → Rs} (hrec : ∀  {μ1 : Mm} {r1 : Int} {μ2 : Mm}, rec  μ1 = some (r1, μ2) → CC d0 mX11_sum [vR 70] μ1 r1 μ2) {r : Int} {μ' : Mm} : ∀ (n : Nat) {l1 : Int} {μ : Mm}, X11_sum_L21 rec n l1 μ = some (r, μ') → VV d mX11_sum 21 [some (vR 70), some (vI l1)] [] μ r μ' := by
  intro n
  induction n with
  | zero => intro l1 μ h; rw [X11_sum_L21] at h; cases h
  | succ n ih =>
    intro l1 μ h
    rw [X11_sum_L21] at h
    refine V_iload_n (q := 22) dX11_sum_21 rfl rfl rfl ?_
    refine V_bipush (q := 24) dX11_sum_22 rfl rfl rfl ?_
    refine V_icmpeq (q := 33) (q2 := 27) dX11_sum_24 (by decide) rfl (fun hc5 => ?_) (fun hc5 => ?_)
    · have h := ifT hc5 h
      exact V_weak (kX11_sum_J33 d hd hb hrec (fun _ _ h => ih h) h) (sb_s rfl (sb_s rfl sb_0))
    · have h := ifF hc5 h
      refine V_iload_n (q := 28) dX11_sum_27 rfl rfl rfl ?_
      refine V_bipush (q := 30) dX11_sum_28 rfl rfl rfl ?_
      refine V_icmpne (q := 83) (q2 := 33) dX11_sum_30 (by decide) rfl (fun hc18 => ?_) (fun hc18 => ?_)
      · have h := ifF hc18 h
        exact V_vret rfl h dX11_sum_83
      · have h := ifT hc18 h
        exact V_weak (kX11_sum_J33 d hd hb hrec (fun _ _ h => ih h) h) (sb_s rfl (sb_s rfl sb_0))
set_option maxHeartbeats 4000000 in
set_option maxRecDepth 100000 in
theorem kX11_sum_J20 (d : Nat) {d0 : Nat} (hd : d0 + 9 ≤ d) (hb : 13 ≤ d) {rec : Mm → Rs} (hrec : ∀  {μ1 : Mm} {r1 : Int} {μ2 : Mm}, rec  μ1 = some (r1, μ2) → CC d0 mX11_sum [vR 70] μ1 r1 μ2) {s0 : Int} {μ : Mm} {r : Int} {μ' : Mm} (h : X11_sum_J20 rec s0 μ = some (r, μ')) : VV d mX11_sum 20 [some (vR 70), none] [vI s0] μ r μ' := by
  unfold X11_sum_J20 at h
  refine V_istore_n (q := 21) dX11_sum_20 rfl (Nat.le_of_ble_eq_true rfl) trivial rfl ?_
  exact V_weak (kX11_sum_L21 d hd hb hrec  FU h) (sb_s rfl (sb_s rfl sb_0))
set_option maxHeartbeats 4000000 in
set_option maxRecDepth 100000 in
theorem kX11_sum : ∀ (n d : Nat) (hd : 10 * n + 14 ≤ d) {μ : Mm} {r : Int} {μ' : Mm} (h : X11_sum n μ = some (r, μ')), CC d mX11_sum [vR 70] μ r μ' := by
  intro n
  induction n with
  | zero => intro d hd    μ r μ' h; rw [X11_sum] at h; cases h
  | succ n ih =>
    intro d hd    μ r μ' h
    have hb : 13 ≤ d := by omega
    obtain ⟨d0, hd0⟩ : ∃ z, z = 10 * n + 14 := ⟨_, rfl⟩
    have hd : d0 + 10 ≤ d := by omega
    have hrec : ∀  {μ1 : Mm} {r1 : Int} {μ2 : Mm}, ((fun  μq => X11_sum n  μq))  μ1 = some (r1, μ2) → CC d0 mX11_sum [vR 70] μ1 r1 μ2 := fun h1 => ih d0 (by omega) h1
    rw [X11_sum] at h
    refine V_enter (by decide) (Nat.le_of_ble_eq_true rfl) ?_
    show VV d mX11_sum 0 [some (vR 70), none] [] μ r μ'
    refine V_aload_n (q := 1) dX11_sum_0 rfl rfl rfl ?_
    obtain ⟨v1, μ2, hc3, h⟩ := bd_i h
    refine V_cV0 (q := 4) (kX11_term (d - 1) (by omega) hrec (by omega) hc3) (by omega) mv_X11_158 rfl rfl rfl rfl rfl rfl dX11_sum_1 rfl ?_
    refine V_aload_n (q := 5) dX11_sum_4 rfl rfl rfl ?_
    refine V_getI (q := 8) fl_X11_115 rfl rfl rfl dX11_sum_5 rfl ?_
    refine V_iconst (q := 9) dX11_sum_8 rfl rfl ?_
    refine V_icmpne (q := 19) (q2 := 12) dX11_sum_9 (by decide) rfl (fun hc4 => ?_) (fun hc4 => ?_)
    · have h := ifF hc4 h
      refine V_iconst (q := 20) dX11_sum_19 rfl rfl ?_
      exact V_weak (kX11_sum_J20 d (by omega) hb hrec h) (sb_s rfl (sb_n sb_0))
    · have h := ifT hc4 h
      refine V_aload_n (q := 13) dX11_sum_12 rfl rfl rfl ?_
      obtain ⟨v19, μ20, hc21, h⟩ := bd_i h
      refine V_cV1 (q := 16) (v := vI v19) (kX11_look (d - 1) (by omega) hc21) (by omega) mv_X11_127 rfl rfl rfl rfl rfl rfl dX11_sum_13 rfl ?_
      refine V_goto (q := 20) dX11_sum_16 (by decide) ?_
      exact V_weak (kX11_sum_J20 d (by omega) hb hrec h) (sb_s rfl (sb_n sb_0))
theorem kX11_atom_c (d : Nat) (hd : 136 ≤ d) {μ : Mm} {r : Int} {μ' : Mm} (h : X11_atom_o (X11_sum RD) μ = some (r, μ')) : CC d mX11_atom [vR 70] μ r μ' := kX11_atom (d0 := 10 * RD + 14) d (by unfold RD; omega) (fun h1 => kX11_sum RD _ (Nat.le_refl _) h1) (by omega) h
theorem kX11_term_c (d : Nat) (hd : 137 ≤ d) {μ : Mm} {r : Int} {μ' : Mm} (h : X11_term_o (X11_sum RD) μ = some (r, μ')) : CC d mX11_term [vR 70] μ r μ' := kX11_term (d0 := 10 * RD + 14) d (by unfold RD; omega) (fun h1 => kX11_sum RD _ (Nat.le_refl _) h1) (by omega) h
abbrev mX11_isSign : Mth := (yX11_isSign, cX11_isSign, 1, some .boolean)
set_option maxRecDepth 100000 in
theorem mi_X11_isSign : Cond.static yX11_isSign ∈ tG ∧ Cond.initialized yX11_isSign.cls ∈ tG ∧ Cond.code yX11_isSign cX11_isSign 1 (some .boolean) ∈ tG ∧ (yX11_isSign.cls ≠ "java/lang/invoke/MethodHandle" ∧ yX11_isSign.cls ≠ "java/lang/invoke/VarHandle" ∧ (parseMethodDescriptor yX11_isSign.desc).map (fun d => d.parameters.length) = some 1) ∧ 1 ≤ 60 := ⟨(tG_of (tb6 (List.mem_of_getElem? (i := 146) rfl)) (by decide +kernel)), (tG_of (tb1 (List.mem_of_getElem? (i := 12) rfl)) (by decide +kernel)), (tG_of (tb6 (List.mem_of_getElem? (i := 147) rfl)) (by decide +kernel)), ⟨by decide, by decide, by decide +kernel⟩, by decide⟩
set_option maxRecDepth 100000 in
theorem mv_X11_161 : mS RX11 161 mX11_isSign 1 := ⟨(tG_of (tb6 (List.mem_of_getElem? (i := 145) rfl)) (by decide +kernel)), mi_X11_isSign.1, (tG_of (tb1 (List.mem_of_getElem? (i := 12) rfl)) (by decide +kernel)), mi_X11_isSign.2⟩
theorem dX11_isSign_0 : decode cX11_isSign 0 = .ok (.iload_n 0, 1) := dc_26 (byA eNcX11_isSign (p := 0) (v := 26) (by decide +kernel))
theorem dX11_isSign_1 : decode cX11_isSign 1 = .ok (.bipush 61, 2) := dc_16 (byA eNcX11_isSign (p := 1) (v := 16) (by decide +kernel)) (byA eNcX11_isSign (p := 2) (v := 61) (by decide +kernel)) (by decide +kernel)
theorem dX11_isSign_3 : decode cX11_isSign 3 = .ok (.if_icmp .eq 15, 3) := dc_159 (byA eNcX11_isSign (p := 3) (v := 159) (by decide +kernel)) (byA eNcX11_isSign (p := 4) (v := 0) (by decide +kernel)) (byA eNcX11_isSign (p := 5) (v := 15) (by decide +kernel)) (by decide +kernel)
theorem dX11_isSign_6 : decode cX11_isSign 6 = .ok (.iload_n 0, 1) := dc_26 (byA eNcX11_isSign (p := 6) (v := 26) (by decide +kernel))
theorem dX11_isSign_7 : decode cX11_isSign 7 = .ok (.bipush 60, 2) := dc_16 (byA eNcX11_isSign (p := 7) (v := 16) (by decide +kernel)) (byA eNcX11_isSign (p := 8) (v := 60) (by decide +kernel)) (by decide +kernel)
theorem dX11_isSign_9 : decode cX11_isSign 9 = .ok (.if_icmp .eq 9, 3) := dc_159 (byA eNcX11_isSign (p := 9) (v := 159) (by decide +kernel)) (byA eNcX11_isSign (p := 10) (v := 0) (by decide +kernel)) (byA eNcX11_isSign (p := 11) (v := 9) (by decide +kernel)) (by decide +kernel)
theorem dX11_isSign_12 : decode cX11_isSign 12 = .ok (.iload_n 0, 1) := dc_26 (byA eNcX11_isSign (p := 12) (v := 26) (by decide +kernel))
theorem dX11_isSign_13 : decode cX11_isSign 13 = .ok (.bipush 62, 2) := dc_16 (byA eNcX11_isSign (p := 13) (v := 16) (by decide +kernel)) (byA eNcX11_isSign (p := 14) (v := 62) (by decide +kernel)) (by decide +kernel)
theorem dX11_isSign_15 : decode cX11_isSign 15 = .ok (.if_icmp .ne 7, 3) := dc_160 (byA eNcX11_isSign (p := 15) (v := 160) (by decide +kernel)) (byA eNcX11_isSign (p := 16) (v := 0) (by decide +kernel)) (byA eNcX11_isSign (p := 17) (v := 7) (by decide +kernel)) (by decide +kernel)
theorem dX11_isSign_18 : decode cX11_isSign 18 = .ok (.iconst 1, 1) := dc_4 (byA eNcX11_isSign (p := 18) (v := 4) (by decide +kernel))
theorem dX11_isSign_19 : decode cX11_isSign 19 = .ok (.goto 4, 3) := dc_167 (byA eNcX11_isSign (p := 19) (v := 167) (by decide +kernel)) (byA eNcX11_isSign (p := 20) (v := 0) (by decide +kernel)) (byA eNcX11_isSign (p := 21) (v := 4) (by decide +kernel)) (by decide +kernel)
theorem dX11_isSign_22 : decode cX11_isSign 22 = .ok (.iconst 0, 1) := dc_3 (byA eNcX11_isSign (p := 22) (v := 3) (by decide +kernel))
theorem dX11_isSign_23 : decode cX11_isSign 23 = .ok (.ireturn, 1) := dc_172 (byA eNcX11_isSign (p := 23) (v := 172) (by decide +kernel))
def X11_isSign (l0 : Int) (μ : Mm) : Rs := if l0 = 61 then (some (1, μ)) else (if l0 = 60 then (some (1, μ)) else (if l0 = 62 then (some (1, μ)) else (some (0, μ))))
set_option maxHeartbeats 4000000 in
set_option maxRecDepth 100000 in
theorem kX11_isSign (d : Nat) (hd : 1 ≤ d) {l0 : Int} {μ : Mm} {r : Int} {μ' : Mm} (h : X11_isSign l0 μ = some (r, μ')) : CC d mX11_isSign [vI l0] μ r μ' := by
  unfold X11_isSign at h
  refine V_enter (by decide) (Nat.le_of_ble_eq_true rfl) ?_
  show VV d mX11_isSign 0 [some (vI l0)] [] μ r μ'
  refine V_iload_n (q := 1) dX11_isSign_0 rfl rfl rfl ?_
  refine V_bipush (q := 3) dX11_isSign_1 rfl rfl rfl ?_
  refine V_icmpeq (q := 18) (q2 := 6) dX11_isSign_3 (by decide) rfl (fun hc1 => ?_) (fun hc1 => ?_)
  · have h := ifT hc1 h
    refine V_iconst (q := 19) dX11_isSign_18 rfl rfl ?_
    refine V_goto (q := 23) dX11_isSign_19 (by decide) ?_
    exact V_zret rfl (Or.inr rfl) h dX11_isSign_23
  · have h := ifF hc1 h
    refine V_iload_n (q := 7) dX11_isSign_6 rfl rfl rfl ?_
    refine V_bipush (q := 9) dX11_isSign_7 rfl rfl rfl ?_
    refine V_icmpeq (q := 18) (q2 := 12) dX11_isSign_9 (by decide) rfl (fun hc2 => ?_) (fun hc2 => ?_)
    · have h := ifT hc2 h
      refine V_iconst (q := 19) dX11_isSign_18 rfl rfl ?_
      refine V_goto (q := 23) dX11_isSign_19 (by decide) ?_
      exact V_zret rfl (Or.inr rfl) h dX11_isSign_23
    · have h := ifF hc2 h
      refine V_iload_n (q := 13) dX11_isSign_12 rfl rfl rfl ?_
      refine V_bipush (q := 15) dX11_isSign_13 rfl rfl rfl ?_
      refine V_icmpne (q := 22) (q2 := 18) dX11_isSign_15 (by decide) rfl (fun hc3 => ?_) (fun hc3 => ?_)
      · have h := ifF hc3 h
        refine V_iconst (q := 23) dX11_isSign_22 rfl rfl ?_
        exact V_zret rfl (Or.inl rfl) h dX11_isSign_23
      · have h := ifT hc3 h
        refine V_iconst (q := 19) dX11_isSign_18 rfl rfl ?_
        refine V_goto (q := 23) dX11_isSign_19 (by decide) ?_
        exact V_zret rfl (Or.inr rfl) h dX11_isSign_23
abbrev mX11_compare : Mth := (yX11_compare, cX11_compare, 2, none)
set_option maxRecDepth 100000 in
theorem mi_X11_compare : Cond.instanceMethod yX11_compare ∈ tG ∧ Cond.selects yX11_compare.cls yX11_compare yX11_compare ∈ tG ∧ Cond.initialized yX11_compare.cls ∈ tG ∧ Cond.code yX11_compare cX11_compare 2 (none) ∈ tG ∧ (yX11_compare.cls ≠ "java/lang/invoke/MethodHandle" ∧ yX11_compare.cls ≠ "java/lang/invoke/VarHandle" ∧ (parseMethodDescriptor yX11_compare.desc).map (fun d => d.parameters.length) = some 0) ∧ 2 ≤ 60 := ⟨(tG_of (tb6 (List.mem_of_getElem? (i := 143) rfl)) (by decide +kernel)), (tG_of (List.mem_of_getElem? (i := 67) (by decide +kernel)) (by decide +kernel)), (tG_of (tb1 (List.mem_of_getElem? (i := 12) rfl)) (by decide +kernel)), (tG_of (tb6 (List.mem_of_getElem? (i := 144) rfl)) (by decide +kernel)), ⟨by decide, by decide, by decide +kernel⟩, by decide⟩
set_option maxRecDepth 100000 in
theorem mv_X11_170 : mV RX11 170 mX11_compare 0 := ⟨(tG_of (tb6 (List.mem_of_getElem? (i := 141) rfl)) (by decide +kernel)), mi_X11_compare⟩
theorem dX11_compare_0 : decode cX11_compare 0 = .ok (.aload_n 0, 1) := dc_42 (byA eNcX11_compare (p := 0) (v := 42) (by decide +kernel))
theorem dX11_compare_1 : decode cX11_compare 1 = .ok (.getfield 115, 3) := dc_180 (byA eNcX11_compare (p := 1) (v := 180) (by decide +kernel)) (byA eNcX11_compare (p := 2) (v := 0) (by decide +kernel)) (byA eNcX11_compare (p := 3) (v := 115) (by decide +kernel)) rfl
theorem dX11_compare_4 : decode cX11_compare 4 = .ok (.iconst (-1), 1) := dc_2 (byA eNcX11_compare (p := 4) (v := 2) (by decide +kernel))
theorem dX11_compare_5 : decode cX11_compare 5 = .ok (.if_icmp .ne 10, 3) := dc_160 (byA eNcX11_compare (p := 5) (v := 160) (by decide +kernel)) (byA eNcX11_compare (p := 6) (v := 0) (by decide +kernel)) (byA eNcX11_compare (p := 7) (v := 10) (by decide +kernel)) (by decide +kernel)
theorem dX11_compare_8 : decode cX11_compare 8 = .ok (.aload_n 0, 1) := dc_42 (byA eNcX11_compare (p := 8) (v := 42) (by decide +kernel))
theorem dX11_compare_9 : decode cX11_compare 9 = .ok (.invokevirtual 127, 3) := dc_182 (byA eNcX11_compare (p := 9) (v := 182) (by decide +kernel)) (byA eNcX11_compare (p := 10) (v := 0) (by decide +kernel)) (byA eNcX11_compare (p := 11) (v := 127) (by decide +kernel)) rfl
theorem dX11_compare_12 : decode cX11_compare 12 = .ok (.goto 4, 3) := dc_167 (byA eNcX11_compare (p := 12) (v := 167) (by decide +kernel)) (byA eNcX11_compare (p := 13) (v := 0) (by decide +kernel)) (byA eNcX11_compare (p := 14) (v := 4) (by decide +kernel)) (by decide +kernel)
theorem dX11_compare_15 : decode cX11_compare 15 = .ok (.iconst (-1), 1) := dc_2 (byA eNcX11_compare (p := 15) (v := 2) (by decide +kernel))
theorem dX11_compare_16 : decode cX11_compare 16 = .ok (.istore_n 1, 1) := dc_60 (byA eNcX11_compare (p := 16) (v := 60) (by decide +kernel))
theorem dX11_compare_17 : decode cX11_compare 17 = .ok (.iload_n 1, 1) := dc_27 (byA eNcX11_compare (p := 17) (v := 27) (by decide +kernel))
theorem dX11_compare_18 : decode cX11_compare 18 = .ok (.invokestatic 161, 3) := dc_184 (byA eNcX11_compare (p := 18) (v := 184) (by decide +kernel)) (byA eNcX11_compare (p := 19) (v := 0) (by decide +kernel)) (byA eNcX11_compare (p := 20) (v := 161) (by decide +kernel)) rfl
theorem dX11_compare_21 : decode cX11_compare 21 = .ok (.ifCond .ne 8, 3) := dc_154 (byA eNcX11_compare (p := 21) (v := 154) (by decide +kernel)) (byA eNcX11_compare (p := 22) (v := 0) (by decide +kernel)) (byA eNcX11_compare (p := 23) (v := 8) (by decide +kernel)) (by decide +kernel)
theorem dX11_compare_24 : decode cX11_compare 24 = .ok (.aload_n 0, 1) := dc_42 (byA eNcX11_compare (p := 24) (v := 42) (by decide +kernel))
theorem dX11_compare_25 : decode cX11_compare 25 = .ok (.invokevirtual 124, 3) := dc_182 (byA eNcX11_compare (p := 25) (v := 182) (by decide +kernel)) (byA eNcX11_compare (p := 26) (v := 0) (by decide +kernel)) (byA eNcX11_compare (p := 27) (v := 124) (by decide +kernel)) rfl
theorem dX11_compare_28 : decode cX11_compare 28 = .ok (.return_, 1) := dc_177 (byA eNcX11_compare (p := 28) (v := 177) (by decide +kernel))
theorem dX11_compare_29 : decode cX11_compare 29 = .ok (.aload_n 0, 1) := dc_42 (byA eNcX11_compare (p := 29) (v := 42) (by decide +kernel))
theorem dX11_compare_30 : decode cX11_compare 30 = .ok (.dup, 1) := dc_89 (byA eNcX11_compare (p := 30) (v := 89) (by decide +kernel))
theorem dX11_compare_31 : decode cX11_compare 31 = .ok (.getfield 108, 3) := dc_180 (byA eNcX11_compare (p := 31) (v := 180) (by decide +kernel)) (byA eNcX11_compare (p := 32) (v := 0) (by decide +kernel)) (byA eNcX11_compare (p := 33) (v := 108) (by decide +kernel)) rfl
theorem dX11_compare_34 : decode cX11_compare 34 = .ok (.iconst 1, 1) := dc_4 (byA eNcX11_compare (p := 34) (v := 4) (by decide +kernel))
theorem dX11_compare_35 : decode cX11_compare 35 = .ok (.iadd, 1) := dc_96 (byA eNcX11_compare (p := 35) (v := 96) (by decide +kernel))
theorem dX11_compare_36 : decode cX11_compare 36 = .ok (.putfield 108, 3) := dc_181 (byA eNcX11_compare (p := 36) (v := 181) (by decide +kernel)) (byA eNcX11_compare (p := 37) (v := 0) (by decide +kernel)) (byA eNcX11_compare (p := 38) (v := 108) (by decide +kernel)) rfl
theorem dX11_compare_39 : decode cX11_compare 39 = .ok (.aload_n 0, 1) := dc_42 (byA eNcX11_compare (p := 39) (v := 42) (by decide +kernel))
theorem dX11_compare_40 : decode cX11_compare 40 = .ok (.invokevirtual 148, 3) := dc_182 (byA eNcX11_compare (p := 40) (v := 182) (by decide +kernel)) (byA eNcX11_compare (p := 41) (v := 0) (by decide +kernel)) (byA eNcX11_compare (p := 42) (v := 148) (by decide +kernel)) rfl
theorem dX11_compare_43 : decode cX11_compare 43 = .ok (.aload_n 0, 1) := dc_42 (byA eNcX11_compare (p := 43) (v := 42) (by decide +kernel))
theorem dX11_compare_44 : decode cX11_compare 44 = .ok (.iload_n 1, 1) := dc_27 (byA eNcX11_compare (p := 44) (v := 27) (by decide +kernel))
theorem dX11_compare_45 : decode cX11_compare 45 = .ok (.bipush 61, 2) := dc_16 (byA eNcX11_compare (p := 45) (v := 16) (by decide +kernel)) (byA eNcX11_compare (p := 46) (v := 61) (by decide +kernel)) (by decide +kernel)
theorem dX11_compare_47 : decode cX11_compare 47 = .ok (.if_icmp .ne 8, 3) := dc_160 (byA eNcX11_compare (p := 47) (v := 160) (by decide +kernel)) (byA eNcX11_compare (p := 48) (v := 0) (by decide +kernel)) (byA eNcX11_compare (p := 49) (v := 8) (by decide +kernel)) (by decide +kernel)
theorem dX11_compare_50 : decode cX11_compare 50 = .ok (.bipush 6, 2) := dc_16 (byA eNcX11_compare (p := 50) (v := 16) (by decide +kernel)) (byA eNcX11_compare (p := 51) (v := 6) (by decide +kernel)) (by decide +kernel)
theorem dX11_compare_52 : decode cX11_compare 52 = .ok (.goto 16, 3) := dc_167 (byA eNcX11_compare (p := 52) (v := 167) (by decide +kernel)) (byA eNcX11_compare (p := 53) (v := 0) (by decide +kernel)) (byA eNcX11_compare (p := 54) (v := 16) (by decide +kernel)) (by decide +kernel)
theorem dX11_compare_55 : decode cX11_compare 55 = .ok (.iload_n 1, 1) := dc_27 (byA eNcX11_compare (p := 55) (v := 27) (by decide +kernel))
theorem dX11_compare_56 : decode cX11_compare 56 = .ok (.bipush 60, 2) := dc_16 (byA eNcX11_compare (p := 56) (v := 16) (by decide +kernel)) (byA eNcX11_compare (p := 57) (v := 60) (by decide +kernel)) (by decide +kernel)
theorem dX11_compare_58 : decode cX11_compare 58 = .ok (.if_icmp .ne 8, 3) := dc_160 (byA eNcX11_compare (p := 58) (v := 160) (by decide +kernel)) (byA eNcX11_compare (p := 59) (v := 0) (by decide +kernel)) (byA eNcX11_compare (p := 60) (v := 8) (by decide +kernel)) (by decide +kernel)
theorem dX11_compare_61 : decode cX11_compare 61 = .ok (.bipush 7, 2) := dc_16 (byA eNcX11_compare (p := 61) (v := 16) (by decide +kernel)) (byA eNcX11_compare (p := 62) (v := 7) (by decide +kernel)) (by decide +kernel)
theorem dX11_compare_63 : decode cX11_compare 63 = .ok (.goto 5, 3) := dc_167 (byA eNcX11_compare (p := 63) (v := 167) (by decide +kernel)) (byA eNcX11_compare (p := 64) (v := 0) (by decide +kernel)) (byA eNcX11_compare (p := 65) (v := 5) (by decide +kernel)) (by decide +kernel)
theorem dX11_compare_66 : decode cX11_compare 66 = .ok (.bipush 8, 2) := dc_16 (byA eNcX11_compare (p := 66) (v := 16) (by decide +kernel)) (byA eNcX11_compare (p := 67) (v := 8) (by decide +kernel)) (by decide +kernel)
theorem dX11_compare_68 : decode cX11_compare 68 = .ok (.iconst 0, 1) := dc_3 (byA eNcX11_compare (p := 68) (v := 3) (by decide +kernel))
theorem dX11_compare_69 : decode cX11_compare 69 = .ok (.invokevirtual 137, 3) := dc_182 (byA eNcX11_compare (p := 69) (v := 182) (by decide +kernel)) (byA eNcX11_compare (p := 70) (v := 0) (by decide +kernel)) (byA eNcX11_compare (p := 71) (v := 137) (by decide +kernel)) rfl
theorem dX11_compare_72 : decode cX11_compare 72 = .ok (.return_, 1) := dc_177 (byA eNcX11_compare (p := 72) (v := 177) (by decide +kernel))
def X11_compare_J16 (s0 : Int) (μ : Mm) : Rs := bd (X11_isSign s0 μ) fun v2 μ3 => if v2 = 0 then (bd (X11_bad μ3) fun v21 μ22 => some (0, μ22)) else (sF μ3 70 3 (iA (μ3 70 3) 1) fun μ6 => bd (X11_sum RD μ6) fun v7 μ8 => if s0 = 61 then (bd (X11_put 6 0 μ8) fun v18 μ19 => some (0, μ19)) else (if s0 = 60 then (bd (X11_put 7 0 μ8) fun v15 μ16 => some (0, μ16)) else (bd (X11_put 8 0 μ8) fun v12 μ13 => some (0, μ13))))
def X11_compare (μ : Mm) : Rs := if (μ 70 4) = (-1) then (bd (X11_look μ) fun v24 μ25 => X11_compare_J16 v24 μ25) else (X11_compare_J16 (-1) μ)
set_option maxHeartbeats 4000000 in
set_option maxRecDepth 100000 in
theorem kX11_compare_J16 (d : Nat) (hd : 135 ≤ d) {s0 : Int} {μ : Mm} {r : Int} {μ' : Mm} (h : X11_compare_J16 s0 μ = some (r, μ')) : VV d mX11_compare 16 [some (vR 70), none] [vI s0] μ r μ' := by
  unfold X11_compare_J16 at h
  refine V_istore_n (q := 17) dX11_compare_16 rfl (Nat.le_of_ble_eq_true rfl) trivial rfl ?_
  refine V_iload_n (q := 18) dX11_compare_17 rfl rfl rfl ?_
  obtain ⟨v2, μ3, hc4, h⟩ := bd_i h
  refine V_cS1 (q := 21) (v := vI v2) (kX11_isSign (d - 1) (by omega) hc4) (by omega) mv_X11_161 rfl rfl rfl rfl dX11_compare_18 rfl ?_
  refine V_ifne (q := 29) (q2 := 24) dX11_compare_21 (by decide) rfl (fun hc5 => ?_) (fun hc5 => ?_)
  · have h := ifF hc5 h
    refine V_aload_n (q := 30) dX11_compare_29 rfl rfl rfl ?_
    refine V_dup (q := 31) dX11_compare_30 trivial rfl ?_
    refine V_getI (q := 34) fl_X11_108 rfl rfl rfl dX11_compare_31 rfl ?_
    refine V_iconst (q := 35) dX11_compare_34 rfl rfl ?_
    refine V_iadd (q := 36) dX11_compare_35 rfl ?_
    have h := sF_i h
    refine V_putI (q := 39) fl_X11_108 rfl rfl rfl dX11_compare_36 rfl ?_
    refine V_aload_n (q := 40) dX11_compare_39 rfl rfl rfl ?_
    obtain ⟨v7, μ8, hc9, h⟩ := bd_i h
    refine V_cV0 (q := 43) (kX11_sum RD (d - 1) (by unfold RD; omega) hc9) (by omega) mv_X11_148 rfl rfl rfl rfl rfl rfl dX11_compare_40 rfl ?_
    refine V_aload_n (q := 44) dX11_compare_43 rfl rfl rfl ?_
    refine V_iload_n (q := 45) dX11_compare_44 rfl rfl rfl ?_
    refine V_bipush (q := 47) dX11_compare_45 rfl rfl rfl ?_
    refine V_icmpne (q := 55) (q2 := 50) dX11_compare_47 (by decide) rfl (fun hc10 => ?_) (fun hc10 => ?_)
    · have h := ifF hc10 h
      refine V_iload_n (q := 56) dX11_compare_55 rfl rfl rfl ?_
      refine V_bipush (q := 58) dX11_compare_56 rfl rfl rfl ?_
      refine V_icmpne (q := 66) (q2 := 61) dX11_compare_58 (by decide) rfl (fun hc11 => ?_) (fun hc11 => ?_)
      · have h := ifF hc11 h
        refine V_bipush (q := 68) dX11_compare_66 rfl rfl rfl ?_
        refine V_iconst (q := 69) dX11_compare_68 rfl rfl ?_
        obtain ⟨v12, μ13, hc14, h⟩ := bd_i h
        refine V_cV0 (q := 72) (kX11_put (d - 1) (by omega) hc14) (by omega) mv_X11_137 rfl rfl rfl rfl rfl rfl dX11_compare_69 rfl ?_
        exact V_vret rfl h dX11_compare_72
      · have h := ifT hc11 h
        refine V_bipush (q := 63) dX11_compare_61 rfl rfl rfl ?_
        refine V_goto (q := 68) dX11_compare_63 (by decide) ?_
        refine V_iconst (q := 69) dX11_compare_68 rfl rfl ?_
        obtain ⟨v15, μ16, hc17, h⟩ := bd_i h
        refine V_cV0 (q := 72) (kX11_put (d - 1) (by omega) hc17) (by omega) mv_X11_137 rfl rfl rfl rfl rfl rfl dX11_compare_69 rfl ?_
        exact V_vret rfl h dX11_compare_72
    · have h := ifT hc10 h
      refine V_bipush (q := 52) dX11_compare_50 rfl rfl rfl ?_
      refine V_goto (q := 68) dX11_compare_52 (by decide) ?_
      refine V_iconst (q := 69) dX11_compare_68 rfl rfl ?_
      obtain ⟨v18, μ19, hc20, h⟩ := bd_i h
      refine V_cV0 (q := 72) (kX11_put (d - 1) (by omega) hc20) (by omega) mv_X11_137 rfl rfl rfl rfl rfl rfl dX11_compare_69 rfl ?_
      exact V_vret rfl h dX11_compare_72
  · have h := ifT hc5 h
    refine V_aload_n (q := 25) dX11_compare_24 rfl rfl rfl ?_
    obtain ⟨v21, μ22, hc23, h⟩ := bd_i h
    refine V_cV0 (q := 28) (kX11_bad (d - 1) (by omega) hc23) (by omega) mv_X11_124 rfl rfl rfl rfl rfl rfl dX11_compare_25 rfl ?_
    exact V_vret rfl h dX11_compare_28
set_option maxHeartbeats 4000000 in
set_option maxRecDepth 100000 in
theorem kX11_compare (d : Nat) (hd : 135 ≤ d) {μ : Mm} {r : Int} {μ' : Mm} (h : X11_compare μ = some (r, μ')) : CC d mX11_compare [vR 70] μ r μ' := by
  unfold X11_compare at h
  refine V_enter (by decide) (Nat.le_of_ble_eq_true rfl) ?_
  show VV d mX11_compare 0 [some (vR 70), none] [] μ r μ'
  refine V_aload_n (q := 1) dX11_compare_0 rfl rfl rfl ?_
  refine V_getI (q := 4) fl_X11_115 rfl rfl rfl dX11_compare_1 rfl ?_
  refine V_iconst (q := 5) dX11_compare_4 rfl rfl ?_
  refine V_icmpne (q := 15) (q2 := 8) dX11_compare_5 (by decide) rfl (fun hc1 => ?_) (fun hc1 => ?_)
  · have h := ifF hc1 h
    refine V_iconst (q := 16) dX11_compare_15 rfl rfl ?_
    exact V_weak (kX11_compare_J16 d hd h) (sb_s rfl (sb_n sb_0))
  · have h := ifT hc1 h
    refine V_aload_n (q := 9) dX11_compare_8 rfl rfl rfl ?_
    obtain ⟨v24, μ25, hc26, h⟩ := bd_i h
    refine V_cV1 (q := 12) (v := vI v24) (kX11_look (d - 1) (by omega) hc26) (by omega) mv_X11_127 rfl rfl rfl rfl rfl rfl dX11_compare_9 rfl ?_
    refine V_goto (q := 16) dX11_compare_12 (by decide) ?_
    exact V_weak (kX11_compare_J16 d hd h) (sb_s rfl (sb_n sb_0))
abbrev mX11_goOnAnd : Mth := (yX11_goOnAnd, cX11_goOnAnd, 1, none)
set_option maxRecDepth 100000 in
theorem mi_X11_goOnAnd : Cond.instanceMethod yX11_goOnAnd ∈ tG ∧ Cond.selects yX11_goOnAnd.cls yX11_goOnAnd yX11_goOnAnd ∈ tG ∧ Cond.initialized yX11_goOnAnd.cls ∈ tG ∧ Cond.code yX11_goOnAnd cX11_goOnAnd 1 (none) ∈ tG ∧ (yX11_goOnAnd.cls ≠ "java/lang/invoke/MethodHandle" ∧ yX11_goOnAnd.cls ≠ "java/lang/invoke/VarHandle" ∧ (parseMethodDescriptor yX11_goOnAnd.desc).map (fun d => d.parameters.length) = some 0) ∧ 1 ≤ 60 := ⟨(tG_of (tb6 (List.mem_of_getElem? (i := 150) rfl)) (by decide +kernel)), (tG_of (List.mem_of_getElem? (i := 68) (by decide +kernel)) (by decide +kernel)), (tG_of (tb1 (List.mem_of_getElem? (i := 12) rfl)) (by decide +kernel)), (tG_of (tb6 (List.mem_of_getElem? (i := 151) rfl)) (by decide +kernel)), ⟨by decide, by decide, by decide +kernel⟩, by decide⟩
set_option maxRecDepth 100000 in
theorem mv_X11_173 : mV RX11 173 mX11_goOnAnd 0 := ⟨(tG_of (tb6 (List.mem_of_getElem? (i := 148) rfl)) (by decide +kernel)), mi_X11_goOnAnd⟩
abbrev mX11_goOnOr : Mth := (yX11_goOnOr, cX11_goOnOr, 1, none)
set_option maxRecDepth 100000 in
theorem mi_X11_goOnOr : Cond.instanceMethod yX11_goOnOr ∈ tG ∧ Cond.selects yX11_goOnOr.cls yX11_goOnOr yX11_goOnOr ∈ tG ∧ Cond.initialized yX11_goOnOr.cls ∈ tG ∧ Cond.code yX11_goOnOr cX11_goOnOr 1 (none) ∈ tG ∧ (yX11_goOnOr.cls ≠ "java/lang/invoke/MethodHandle" ∧ yX11_goOnOr.cls ≠ "java/lang/invoke/VarHandle" ∧ (parseMethodDescriptor yX11_goOnOr.desc).map (fun d => d.parameters.length) = some 0) ∧ 1 ≤ 60 := ⟨(tG_of (tb6 (List.mem_of_getElem? (i := 154) rfl)) (by decide +kernel)), (tG_of (List.mem_of_getElem? (i := 69) (by decide +kernel)) (by decide +kernel)), (tG_of (tb1 (List.mem_of_getElem? (i := 12) rfl)) (by decide +kernel)), (tG_of (tb6 (List.mem_of_getElem? (i := 155) rfl)) (by decide +kernel)), ⟨by decide, by decide, by decide +kernel⟩, by decide⟩
set_option maxRecDepth 100000 in
theorem mv_X11_176 : mV RX11 176 mX11_goOnOr 0 := ⟨(tG_of (tb6 (List.mem_of_getElem? (i := 152) rfl)) (by decide +kernel)), mi_X11_goOnOr⟩
abbrev mX11_condition : Mth := (yX11_condition, cX11_condition, 1, none)
set_option maxRecDepth 100000 in
theorem mi_X11_condition : Cond.instanceMethod yX11_condition ∈ tG ∧ Cond.selects yX11_condition.cls yX11_condition yX11_condition ∈ tG ∧ Cond.initialized yX11_condition.cls ∈ tG ∧ Cond.code yX11_condition cX11_condition 1 (none) ∈ tG ∧ (yX11_condition.cls ≠ "java/lang/invoke/MethodHandle" ∧ yX11_condition.cls ≠ "java/lang/invoke/VarHandle" ∧ (parseMethodDescriptor yX11_condition.desc).map (fun d => d.parameters.length) = some 0) ∧ 1 ≤ 60 := ⟨(tG_of (tb6 (List.mem_of_getElem? (i := 104) rfl)) (by decide +kernel)), (tG_of (List.mem_of_getElem? (i := 58) (by decide +kernel)) (by decide +kernel)), (tG_of (tb1 (List.mem_of_getElem? (i := 12) rfl)) (by decide +kernel)), (tG_of (tb6 (List.mem_of_getElem? (i := 105) rfl)) (by decide +kernel)), ⟨by decide, by decide, by decide +kernel⟩, by decide⟩
set_option maxRecDepth 100000 in
theorem mv_X11_167 : mV RX11 167 mX11_condition 0 := ⟨(tG_of (tb6 (List.mem_of_getElem? (i := 102) rfl)) (by decide +kernel)), mi_X11_condition⟩
abbrev mX11_unit : Mth := (yX11_unit, cX11_unit, 2, none)
set_option maxRecDepth 100000 in
theorem mi_X11_unit : Cond.instanceMethod yX11_unit ∈ tG ∧ Cond.selects yX11_unit.cls yX11_unit yX11_unit ∈ tG ∧ Cond.initialized yX11_unit.cls ∈ tG ∧ Cond.code yX11_unit cX11_unit 2 (none) ∈ tG ∧ (yX11_unit.cls ≠ "java/lang/invoke/MethodHandle" ∧ yX11_unit.cls ≠ "java/lang/invoke/VarHandle" ∧ (parseMethodDescriptor yX11_unit.desc).map (fun d => d.parameters.length) = some 0) ∧ 2 ≤ 60 := ⟨(tG_of (tb6 (List.mem_of_getElem? (i := 108) rfl)) (by decide +kernel)), (tG_of (List.mem_of_getElem? (i := 59) (by decide +kernel)) (by decide +kernel)), (tG_of (tb1 (List.mem_of_getElem? (i := 12) rfl)) (by decide +kernel)), (tG_of (tb6 (List.mem_of_getElem? (i := 109) rfl)) (by decide +kernel)), ⟨by decide, by decide, by decide +kernel⟩, by decide⟩
set_option maxRecDepth 100000 in
theorem mv_X11_164 : mV RX11 164 mX11_unit 0 := ⟨(tG_of (tb6 (List.mem_of_getElem? (i := 106) rfl)) (by decide +kernel)), mi_X11_unit⟩
theorem dX11_goOnAnd_0 : decode cX11_goOnAnd 0 = .ok (.aload_n 0, 1) := dc_42 (byA eNcX11_goOnAnd (p := 0) (v := 42) (by decide +kernel))
theorem dX11_goOnAnd_1 : decode cX11_goOnAnd 1 = .ok (.getfield 115, 3) := dc_180 (byA eNcX11_goOnAnd (p := 1) (v := 180) (by decide +kernel)) (byA eNcX11_goOnAnd (p := 2) (v := 0) (by decide +kernel)) (byA eNcX11_goOnAnd (p := 3) (v := 115) (by decide +kernel)) rfl
theorem dX11_goOnAnd_4 : decode cX11_goOnAnd 4 = .ok (.iconst (-1), 1) := dc_2 (byA eNcX11_goOnAnd (p := 4) (v := 2) (by decide +kernel))
theorem dX11_goOnAnd_5 : decode cX11_goOnAnd 5 = .ok (.if_icmp .ne 36, 3) := dc_160 (byA eNcX11_goOnAnd (p := 5) (v := 160) (by decide +kernel)) (byA eNcX11_goOnAnd (p := 6) (v := 0) (by decide +kernel)) (byA eNcX11_goOnAnd (p := 7) (v := 36) (by decide +kernel)) (by decide +kernel)
theorem dX11_goOnAnd_8 : decode cX11_goOnAnd 8 = .ok (.aload_n 0, 1) := dc_42 (byA eNcX11_goOnAnd (p := 8) (v := 42) (by decide +kernel))
theorem dX11_goOnAnd_9 : decode cX11_goOnAnd 9 = .ok (.invokevirtual 127, 3) := dc_182 (byA eNcX11_goOnAnd (p := 9) (v := 182) (by decide +kernel)) (byA eNcX11_goOnAnd (p := 10) (v := 0) (by decide +kernel)) (byA eNcX11_goOnAnd (p := 11) (v := 127) (by decide +kernel)) rfl
theorem dX11_goOnAnd_12 : decode cX11_goOnAnd 12 = .ok (.bipush 38, 2) := dc_16 (byA eNcX11_goOnAnd (p := 12) (v := 16) (by decide +kernel)) (byA eNcX11_goOnAnd (p := 13) (v := 38) (by decide +kernel)) (by decide +kernel)
theorem dX11_goOnAnd_14 : decode cX11_goOnAnd 14 = .ok (.if_icmp .ne 27, 3) := dc_160 (byA eNcX11_goOnAnd (p := 14) (v := 160) (by decide +kernel)) (byA eNcX11_goOnAnd (p := 15) (v := 0) (by decide +kernel)) (byA eNcX11_goOnAnd (p := 16) (v := 27) (by decide +kernel)) (by decide +kernel)
theorem dX11_goOnAnd_17 : decode cX11_goOnAnd 17 = .ok (.aload_n 0, 1) := dc_42 (byA eNcX11_goOnAnd (p := 17) (v := 42) (by decide +kernel))
theorem dX11_goOnAnd_18 : decode cX11_goOnAnd 18 = .ok (.dup, 1) := dc_89 (byA eNcX11_goOnAnd (p := 18) (v := 89) (by decide +kernel))
theorem dX11_goOnAnd_19 : decode cX11_goOnAnd 19 = .ok (.getfield 108, 3) := dc_180 (byA eNcX11_goOnAnd (p := 19) (v := 180) (by decide +kernel)) (byA eNcX11_goOnAnd (p := 20) (v := 0) (by decide +kernel)) (byA eNcX11_goOnAnd (p := 21) (v := 108) (by decide +kernel)) rfl
theorem dX11_goOnAnd_22 : decode cX11_goOnAnd 22 = .ok (.iconst 1, 1) := dc_4 (byA eNcX11_goOnAnd (p := 22) (v := 4) (by decide +kernel))
theorem dX11_goOnAnd_23 : decode cX11_goOnAnd 23 = .ok (.iadd, 1) := dc_96 (byA eNcX11_goOnAnd (p := 23) (v := 96) (by decide +kernel))
theorem dX11_goOnAnd_24 : decode cX11_goOnAnd 24 = .ok (.putfield 108, 3) := dc_181 (byA eNcX11_goOnAnd (p := 24) (v := 181) (by decide +kernel)) (byA eNcX11_goOnAnd (p := 25) (v := 0) (by decide +kernel)) (byA eNcX11_goOnAnd (p := 26) (v := 108) (by decide +kernel)) rfl
theorem dX11_goOnAnd_27 : decode cX11_goOnAnd 27 = .ok (.aload_n 0, 1) := dc_42 (byA eNcX11_goOnAnd (p := 27) (v := 42) (by decide +kernel))
theorem dX11_goOnAnd_28 : decode cX11_goOnAnd 28 = .ok (.invokevirtual 164, 3) := dc_182 (byA eNcX11_goOnAnd (p := 28) (v := 182) (by decide +kernel)) (byA eNcX11_goOnAnd (p := 29) (v := 0) (by decide +kernel)) (byA eNcX11_goOnAnd (p := 30) (v := 164) (by decide +kernel)) rfl
theorem dX11_goOnAnd_31 : decode cX11_goOnAnd 31 = .ok (.aload_n 0, 1) := dc_42 (byA eNcX11_goOnAnd (p := 31) (v := 42) (by decide +kernel))
theorem dX11_goOnAnd_32 : decode cX11_goOnAnd 32 = .ok (.bipush 10, 2) := dc_16 (byA eNcX11_goOnAnd (p := 32) (v := 16) (by decide +kernel)) (byA eNcX11_goOnAnd (p := 33) (v := 10) (by decide +kernel)) (by decide +kernel)
theorem dX11_goOnAnd_34 : decode cX11_goOnAnd 34 = .ok (.iconst 0, 1) := dc_3 (byA eNcX11_goOnAnd (p := 34) (v := 3) (by decide +kernel))
theorem dX11_goOnAnd_35 : decode cX11_goOnAnd 35 = .ok (.invokevirtual 137, 3) := dc_182 (byA eNcX11_goOnAnd (p := 35) (v := 182) (by decide +kernel)) (byA eNcX11_goOnAnd (p := 36) (v := 0) (by decide +kernel)) (byA eNcX11_goOnAnd (p := 37) (v := 137) (by decide +kernel)) rfl
theorem dX11_goOnAnd_38 : decode cX11_goOnAnd 38 = .ok (.goto (-38), 3) := dc_167 (byA eNcX11_goOnAnd (p := 38) (v := 167) (by decide +kernel)) (byA eNcX11_goOnAnd (p := 39) (v := 255) (by decide +kernel)) (byA eNcX11_goOnAnd (p := 40) (v := 218) (by decide +kernel)) (by decide +kernel)
theorem dX11_goOnAnd_41 : decode cX11_goOnAnd 41 = .ok (.return_, 1) := dc_177 (byA eNcX11_goOnAnd (p := 41) (v := 177) (by decide +kernel))
def X11_goOnAnd_L0 (rec : Mm → Rs) : Nat → Mm → Rs
  | 0, _ => none
  | n + 1, μ => if (μ 70 4) = (-1) then (bd (X11_look μ) fun v2 μ3 => if v2 = 38 then (sF μ3 70 3 (iA (μ3 70 3) 1) fun μ6 => bd (rec μ6) fun v7 μ8 => bd (X11_put 10 0 μ8) fun v10 μ11 => X11_goOnAnd_L0 rec n μ11) else (some (0, μ3))) else (some (0, μ))
def X11_goOnAnd_o (rec : Mm → Rs) (μ : Mm) : Rs := X11_goOnAnd_L0 rec FU μ
set_option maxHeartbeats 4000000 in
set_option maxRecDepth 100000 in
theorem kX11_goOnAnd_L0 (d : Nat) {d0 : Nat} (hd : d0 + 2 ≤ d) {rec : Mm → Rs} (hrec : ∀  {μ1 : Mm} {r1 : Int} {μ2 : Mm}, rec  μ1 = some (r1, μ2) → CC d0 mX11_unit [vR 70] μ1 r1 μ2) (hb : 138 ≤ d) {r : Int} {μ' : Mm} : ∀ (n : Nat) {μ : Mm}, X11_goOnAnd_L0 rec n μ = some (r, μ') → VV d mX11_goOnAnd 0 [some (vR 70)] [] μ r μ' := by
  intro n
  induction n with
  | zero => intro μ h; rw [X11_goOnAnd_L0] at h; cases h
  | succ n ih =>
    intro μ h
    rw [X11_goOnAnd_L0] at h
    refine V_aload_n (q := 1) dX11_goOnAnd_0 rfl rfl rfl ?_
    refine V_getI (q := 4) fl_X11_115 rfl rfl rfl dX11_goOnAnd_1 rfl ?_
    refine V_iconst (q := 5) dX11_goOnAnd_4 rfl rfl ?_
    refine V_icmpne (q := 41) (q2 := 8) dX11_goOnAnd_5 (by decide) rfl (fun hc1 => ?_) (fun hc1 => ?_)
    · have h := ifF hc1 h
      exact V_vret rfl h dX11_goOnAnd_41
    · have h := ifT hc1 h
      refine V_aload_n (q := 9) dX11_goOnAnd_8 rfl rfl rfl ?_
      obtain ⟨v2, μ3, hc4, h⟩ := bd_i h
      refine V_cV1 (q := 12) (v := vI v2) (kX11_look (d - 1) (by omega) hc4) (by omega) mv_X11_127 rfl rfl rfl rfl rfl rfl dX11_goOnAnd_9 rfl ?_
      refine V_bipush (q := 14) dX11_goOnAnd_12 rfl rfl rfl ?_
      refine V_icmpne (q := 41) (q2 := 17) dX11_goOnAnd_14 (by decide) rfl (fun hc5 => ?_) (fun hc5 => ?_)
      · have h := ifF hc5 h
        exact V_vret rfl h dX11_goOnAnd_41
      · have h := ifT hc5 h
        refine V_aload_n (q := 18) dX11_goOnAnd_17 rfl rfl rfl ?_
        refine V_dup (q := 19) dX11_goOnAnd_18 trivial rfl ?_
        refine V_getI (q := 22) fl_X11_108 rfl rfl rfl dX11_goOnAnd_19 rfl ?_
        refine V_iconst (q := 23) dX11_goOnAnd_22 rfl rfl ?_
        refine V_iadd (q := 24) dX11_goOnAnd_23 rfl ?_
        have h := sF_i h
        refine V_putI (q := 27) fl_X11_108 rfl rfl rfl dX11_goOnAnd_24 rfl ?_
        refine V_aload_n (q := 28) dX11_goOnAnd_27 rfl rfl rfl ?_
        obtain ⟨v7, μ8, hc9, h⟩ := bd_i h
        refine V_cV0 (q := 31) (hrec hc9) (by omega) mv_X11_164 rfl rfl rfl rfl rfl rfl dX11_goOnAnd_28 rfl ?_
        refine V_aload_n (q := 32) dX11_goOnAnd_31 rfl rfl rfl ?_
        refine V_bipush (q := 34) dX11_goOnAnd_32 rfl rfl rfl ?_
        refine V_iconst (q := 35) dX11_goOnAnd_34 rfl rfl ?_
        obtain ⟨v10, μ11, hc12, h⟩ := bd_i h
        refine V_cV0 (q := 38) (kX11_put (d - 1) (by omega) hc12) (by omega) mv_X11_137 rfl rfl rfl rfl rfl rfl dX11_goOnAnd_35 rfl ?_
        refine V_goto (q := 0) dX11_goOnAnd_38 (by decide) ?_
        exact V_weak (ih h) (sb_s rfl sb_0)
set_option maxHeartbeats 4000000 in
set_option maxRecDepth 100000 in
theorem kX11_goOnAnd (d : Nat) {d0 : Nat} (hd : d0 + 2 ≤ d) {rec : Mm → Rs} (hrec : ∀  {μ1 : Mm} {r1 : Int} {μ2 : Mm}, rec  μ1 = some (r1, μ2) → CC d0 mX11_unit [vR 70] μ1 r1 μ2) (hb : 138 ≤ d) {μ : Mm} {r : Int} {μ' : Mm} (h : X11_goOnAnd_o rec μ = some (r, μ')) : CC d mX11_goOnAnd [vR 70] μ r μ' := by
  unfold X11_goOnAnd_o at h
  refine V_enter (by decide) (Nat.le_of_ble_eq_true rfl) ?_
  show VV d mX11_goOnAnd 0 [some (vR 70)] [] μ r μ'
  exact V_weak (kX11_goOnAnd_L0 d hd hrec hb  FU h) (sb_s rfl sb_0)
theorem dX11_goOnOr_0 : decode cX11_goOnOr 0 = .ok (.aload_n 0, 1) := dc_42 (byA eNcX11_goOnOr (p := 0) (v := 42) (by decide +kernel))
theorem dX11_goOnOr_1 : decode cX11_goOnOr 1 = .ok (.getfield 115, 3) := dc_180 (byA eNcX11_goOnOr (p := 1) (v := 180) (by decide +kernel)) (byA eNcX11_goOnOr (p := 2) (v := 0) (by decide +kernel)) (byA eNcX11_goOnOr (p := 3) (v := 115) (by decide +kernel)) rfl
theorem dX11_goOnOr_4 : decode cX11_goOnOr 4 = .ok (.iconst (-1), 1) := dc_2 (byA eNcX11_goOnOr (p := 4) (v := 2) (by decide +kernel))
theorem dX11_goOnOr_5 : decode cX11_goOnOr 5 = .ok (.if_icmp .ne 40, 3) := dc_160 (byA eNcX11_goOnOr (p := 5) (v := 160) (by decide +kernel)) (byA eNcX11_goOnOr (p := 6) (v := 0) (by decide +kernel)) (byA eNcX11_goOnOr (p := 7) (v := 40) (by decide +kernel)) (by decide +kernel)
theorem dX11_goOnOr_8 : decode cX11_goOnOr 8 = .ok (.aload_n 0, 1) := dc_42 (byA eNcX11_goOnOr (p := 8) (v := 42) (by decide +kernel))
theorem dX11_goOnOr_9 : decode cX11_goOnOr 9 = .ok (.invokevirtual 127, 3) := dc_182 (byA eNcX11_goOnOr (p := 9) (v := 182) (by decide +kernel)) (byA eNcX11_goOnOr (p := 10) (v := 0) (by decide +kernel)) (byA eNcX11_goOnOr (p := 11) (v := 127) (by decide +kernel)) rfl
theorem dX11_goOnOr_12 : decode cX11_goOnOr 12 = .ok (.bipush 124, 2) := dc_16 (byA eNcX11_goOnOr (p := 12) (v := 16) (by decide +kernel)) (byA eNcX11_goOnOr (p := 13) (v := 124) (by decide +kernel)) (by decide +kernel)
theorem dX11_goOnOr_14 : decode cX11_goOnOr 14 = .ok (.if_icmp .ne 31, 3) := dc_160 (byA eNcX11_goOnOr (p := 14) (v := 160) (by decide +kernel)) (byA eNcX11_goOnOr (p := 15) (v := 0) (by decide +kernel)) (byA eNcX11_goOnOr (p := 16) (v := 31) (by decide +kernel)) (by decide +kernel)
theorem dX11_goOnOr_17 : decode cX11_goOnOr 17 = .ok (.aload_n 0, 1) := dc_42 (byA eNcX11_goOnOr (p := 17) (v := 42) (by decide +kernel))
theorem dX11_goOnOr_18 : decode cX11_goOnOr 18 = .ok (.dup, 1) := dc_89 (byA eNcX11_goOnOr (p := 18) (v := 89) (by decide +kernel))
theorem dX11_goOnOr_19 : decode cX11_goOnOr 19 = .ok (.getfield 108, 3) := dc_180 (byA eNcX11_goOnOr (p := 19) (v := 180) (by decide +kernel)) (byA eNcX11_goOnOr (p := 20) (v := 0) (by decide +kernel)) (byA eNcX11_goOnOr (p := 21) (v := 108) (by decide +kernel)) rfl
theorem dX11_goOnOr_22 : decode cX11_goOnOr 22 = .ok (.iconst 1, 1) := dc_4 (byA eNcX11_goOnOr (p := 22) (v := 4) (by decide +kernel))
theorem dX11_goOnOr_23 : decode cX11_goOnOr 23 = .ok (.iadd, 1) := dc_96 (byA eNcX11_goOnOr (p := 23) (v := 96) (by decide +kernel))
theorem dX11_goOnOr_24 : decode cX11_goOnOr 24 = .ok (.putfield 108, 3) := dc_181 (byA eNcX11_goOnOr (p := 24) (v := 181) (by decide +kernel)) (byA eNcX11_goOnOr (p := 25) (v := 0) (by decide +kernel)) (byA eNcX11_goOnOr (p := 26) (v := 108) (by decide +kernel)) rfl
theorem dX11_goOnOr_27 : decode cX11_goOnOr 27 = .ok (.aload_n 0, 1) := dc_42 (byA eNcX11_goOnOr (p := 27) (v := 42) (by decide +kernel))
theorem dX11_goOnOr_28 : decode cX11_goOnOr 28 = .ok (.invokevirtual 164, 3) := dc_182 (byA eNcX11_goOnOr (p := 28) (v := 182) (by decide +kernel)) (byA eNcX11_goOnOr (p := 29) (v := 0) (by decide +kernel)) (byA eNcX11_goOnOr (p := 30) (v := 164) (by decide +kernel)) rfl
theorem dX11_goOnOr_31 : decode cX11_goOnOr 31 = .ok (.aload_n 0, 1) := dc_42 (byA eNcX11_goOnOr (p := 31) (v := 42) (by decide +kernel))
theorem dX11_goOnOr_32 : decode cX11_goOnOr 32 = .ok (.invokevirtual 173, 3) := dc_182 (byA eNcX11_goOnOr (p := 32) (v := 182) (by decide +kernel)) (byA eNcX11_goOnOr (p := 33) (v := 0) (by decide +kernel)) (byA eNcX11_goOnOr (p := 34) (v := 173) (by decide +kernel)) rfl
theorem dX11_goOnOr_35 : decode cX11_goOnOr 35 = .ok (.aload_n 0, 1) := dc_42 (byA eNcX11_goOnOr (p := 35) (v := 42) (by decide +kernel))
theorem dX11_goOnOr_36 : decode cX11_goOnOr 36 = .ok (.bipush 11, 2) := dc_16 (byA eNcX11_goOnOr (p := 36) (v := 16) (by decide +kernel)) (byA eNcX11_goOnOr (p := 37) (v := 11) (by decide +kernel)) (by decide +kernel)
theorem dX11_goOnOr_38 : decode cX11_goOnOr 38 = .ok (.iconst 0, 1) := dc_3 (byA eNcX11_goOnOr (p := 38) (v := 3) (by decide +kernel))
theorem dX11_goOnOr_39 : decode cX11_goOnOr 39 = .ok (.invokevirtual 137, 3) := dc_182 (byA eNcX11_goOnOr (p := 39) (v := 182) (by decide +kernel)) (byA eNcX11_goOnOr (p := 40) (v := 0) (by decide +kernel)) (byA eNcX11_goOnOr (p := 41) (v := 137) (by decide +kernel)) rfl
theorem dX11_goOnOr_42 : decode cX11_goOnOr 42 = .ok (.goto (-42), 3) := dc_167 (byA eNcX11_goOnOr (p := 42) (v := 167) (by decide +kernel)) (byA eNcX11_goOnOr (p := 43) (v := 255) (by decide +kernel)) (byA eNcX11_goOnOr (p := 44) (v := 214) (by decide +kernel)) (by decide +kernel)
theorem dX11_goOnOr_45 : decode cX11_goOnOr 45 = .ok (.return_, 1) := dc_177 (byA eNcX11_goOnOr (p := 45) (v := 177) (by decide +kernel))
def X11_goOnOr_L0 (rec : Mm → Rs) : Nat → Mm → Rs
  | 0, _ => none
  | n + 1, μ => if (μ 70 4) = (-1) then (bd (X11_look μ) fun v2 μ3 => if v2 = 124 then (sF μ3 70 3 (iA (μ3 70 3) 1) fun μ6 => bd (rec μ6) fun v7 μ8 => bd (X11_goOnAnd_o rec μ8) fun v10 μ11 => bd (X11_put 11 0 μ11) fun v13 μ14 => X11_goOnOr_L0 rec n μ14) else (some (0, μ3))) else (some (0, μ))
def X11_goOnOr_o (rec : Mm → Rs) (μ : Mm) : Rs := X11_goOnOr_L0 rec FU μ
set_option maxHeartbeats 4000000 in
set_option maxRecDepth 100000 in
theorem kX11_goOnOr_L0 (d : Nat) {d0 : Nat} (hd : d0 + 3 ≤ d) {rec : Mm → Rs} (hrec : ∀  {μ1 : Mm} {r1 : Int} {μ2 : Mm}, rec  μ1 = some (r1, μ2) → CC d0 mX11_unit [vR 70] μ1 r1 μ2) (hb : 139 ≤ d) {r : Int} {μ' : Mm} : ∀ (n : Nat) {μ : Mm}, X11_goOnOr_L0 rec n μ = some (r, μ') → VV d mX11_goOnOr 0 [some (vR 70)] [] μ r μ' := by
  intro n
  induction n with
  | zero => intro μ h; rw [X11_goOnOr_L0] at h; cases h
  | succ n ih =>
    intro μ h
    rw [X11_goOnOr_L0] at h
    refine V_aload_n (q := 1) dX11_goOnOr_0 rfl rfl rfl ?_
    refine V_getI (q := 4) fl_X11_115 rfl rfl rfl dX11_goOnOr_1 rfl ?_
    refine V_iconst (q := 5) dX11_goOnOr_4 rfl rfl ?_
    refine V_icmpne (q := 45) (q2 := 8) dX11_goOnOr_5 (by decide) rfl (fun hc1 => ?_) (fun hc1 => ?_)
    · have h := ifF hc1 h
      exact V_vret rfl h dX11_goOnOr_45
    · have h := ifT hc1 h
      refine V_aload_n (q := 9) dX11_goOnOr_8 rfl rfl rfl ?_
      obtain ⟨v2, μ3, hc4, h⟩ := bd_i h
      refine V_cV1 (q := 12) (v := vI v2) (kX11_look (d - 1) (by omega) hc4) (by omega) mv_X11_127 rfl rfl rfl rfl rfl rfl dX11_goOnOr_9 rfl ?_
      refine V_bipush (q := 14) dX11_goOnOr_12 rfl rfl rfl ?_
      refine V_icmpne (q := 45) (q2 := 17) dX11_goOnOr_14 (by decide) rfl (fun hc5 => ?_) (fun hc5 => ?_)
      · have h := ifF hc5 h
        exact V_vret rfl h dX11_goOnOr_45
      · have h := ifT hc5 h
        refine V_aload_n (q := 18) dX11_goOnOr_17 rfl rfl rfl ?_
        refine V_dup (q := 19) dX11_goOnOr_18 trivial rfl ?_
        refine V_getI (q := 22) fl_X11_108 rfl rfl rfl dX11_goOnOr_19 rfl ?_
        refine V_iconst (q := 23) dX11_goOnOr_22 rfl rfl ?_
        refine V_iadd (q := 24) dX11_goOnOr_23 rfl ?_
        have h := sF_i h
        refine V_putI (q := 27) fl_X11_108 rfl rfl rfl dX11_goOnOr_24 rfl ?_
        refine V_aload_n (q := 28) dX11_goOnOr_27 rfl rfl rfl ?_
        obtain ⟨v7, μ8, hc9, h⟩ := bd_i h
        refine V_cV0 (q := 31) (hrec hc9) (by omega) mv_X11_164 rfl rfl rfl rfl rfl rfl dX11_goOnOr_28 rfl ?_
        refine V_aload_n (q := 32) dX11_goOnOr_31 rfl rfl rfl ?_
        obtain ⟨v10, μ11, hc12, h⟩ := bd_i h
        refine V_cV0 (q := 35) (kX11_goOnAnd (d - 1) (by omega) hrec (by omega) hc12) (by omega) mv_X11_173 rfl rfl rfl rfl rfl rfl dX11_goOnOr_32 rfl ?_
        refine V_aload_n (q := 36) dX11_goOnOr_35 rfl rfl rfl ?_
        refine V_bipush (q := 38) dX11_goOnOr_36 rfl rfl rfl ?_
        refine V_iconst (q := 39) dX11_goOnOr_38 rfl rfl ?_
        obtain ⟨v13, μ14, hc15, h⟩ := bd_i h
        refine V_cV0 (q := 42) (kX11_put (d - 1) (by omega) hc15) (by omega) mv_X11_137 rfl rfl rfl rfl rfl rfl dX11_goOnOr_39 rfl ?_
        refine V_goto (q := 0) dX11_goOnOr_42 (by decide) ?_
        exact V_weak (ih h) (sb_s rfl sb_0)
set_option maxHeartbeats 4000000 in
set_option maxRecDepth 100000 in
theorem kX11_goOnOr (d : Nat) {d0 : Nat} (hd : d0 + 3 ≤ d) {rec : Mm → Rs} (hrec : ∀  {μ1 : Mm} {r1 : Int} {μ2 : Mm}, rec  μ1 = some (r1, μ2) → CC d0 mX11_unit [vR 70] μ1 r1 μ2) (hb : 139 ≤ d) {μ : Mm} {r : Int} {μ' : Mm} (h : X11_goOnOr_o rec μ = some (r, μ')) : CC d mX11_goOnOr [vR 70] μ r μ' := by
  unfold X11_goOnOr_o at h
  refine V_enter (by decide) (Nat.le_of_ble_eq_true rfl) ?_
  show VV d mX11_goOnOr 0 [some (vR 70)] [] μ r μ'
  exact V_weak (kX11_goOnOr_L0 d hd hrec hb  FU h) (sb_s rfl sb_0)
theorem dX11_condition_0 : decode cX11_condition 0 = .ok (.aload_n 0, 1) := dc_42 (byA eNcX11_condition (p := 0) (v := 42) (by decide +kernel))
theorem dX11_condition_1 : decode cX11_condition 1 = .ok (.invokevirtual 164, 3) := dc_182 (byA eNcX11_condition (p := 1) (v := 182) (by decide +kernel)) (byA eNcX11_condition (p := 2) (v := 0) (by decide +kernel)) (byA eNcX11_condition (p := 3) (v := 164) (by decide +kernel)) rfl
theorem dX11_condition_4 : decode cX11_condition 4 = .ok (.aload_n 0, 1) := dc_42 (byA eNcX11_condition (p := 4) (v := 42) (by decide +kernel))
theorem dX11_condition_5 : decode cX11_condition 5 = .ok (.invokevirtual 173, 3) := dc_182 (byA eNcX11_condition (p := 5) (v := 182) (by decide +kernel)) (byA eNcX11_condition (p := 6) (v := 0) (by decide +kernel)) (byA eNcX11_condition (p := 7) (v := 173) (by decide +kernel)) rfl
theorem dX11_condition_8 : decode cX11_condition 8 = .ok (.aload_n 0, 1) := dc_42 (byA eNcX11_condition (p := 8) (v := 42) (by decide +kernel))
theorem dX11_condition_9 : decode cX11_condition 9 = .ok (.invokevirtual 176, 3) := dc_182 (byA eNcX11_condition (p := 9) (v := 182) (by decide +kernel)) (byA eNcX11_condition (p := 10) (v := 0) (by decide +kernel)) (byA eNcX11_condition (p := 11) (v := 176) (by decide +kernel)) rfl
theorem dX11_condition_12 : decode cX11_condition 12 = .ok (.return_, 1) := dc_177 (byA eNcX11_condition (p := 12) (v := 177) (by decide +kernel))
def X11_condition_o (rec : Mm → Rs) (μ : Mm) : Rs := bd (rec μ) fun v1 μ2 => bd (X11_goOnAnd_o rec μ2) fun v4 μ5 => bd (X11_goOnOr_o rec μ5) fun v7 μ8 => some (0, μ8)
set_option maxHeartbeats 4000000 in
set_option maxRecDepth 100000 in
theorem kX11_condition (d : Nat) {d0 : Nat} (hd : d0 + 4 ≤ d) {rec : Mm → Rs} (hrec : ∀  {μ1 : Mm} {r1 : Int} {μ2 : Mm}, rec  μ1 = some (r1, μ2) → CC d0 mX11_unit [vR 70] μ1 r1 μ2) (hb : 140 ≤ d) {μ : Mm} {r : Int} {μ' : Mm} (h : X11_condition_o rec μ = some (r, μ')) : CC d mX11_condition [vR 70] μ r μ' := by
  unfold X11_condition_o at h
  refine V_enter (by decide) (Nat.le_of_ble_eq_true rfl) ?_
  show VV d mX11_condition 0 [some (vR 70)] [] μ r μ'
  refine V_aload_n (q := 1) dX11_condition_0 rfl rfl rfl ?_
  obtain ⟨v1, μ2, hc3, h⟩ := bd_i h
  refine V_cV0 (q := 4) (hrec hc3) (by omega) mv_X11_164 rfl rfl rfl rfl rfl rfl dX11_condition_1 rfl ?_
  refine V_aload_n (q := 5) dX11_condition_4 rfl rfl rfl ?_
  obtain ⟨v4, μ5, hc6, h⟩ := bd_i h
  refine V_cV0 (q := 8) (kX11_goOnAnd (d - 1) (by omega) hrec (by omega) hc6) (by omega) mv_X11_173 rfl rfl rfl rfl rfl rfl dX11_condition_5 rfl ?_
  refine V_aload_n (q := 9) dX11_condition_8 rfl rfl rfl ?_
  obtain ⟨v7, μ8, hc9, h⟩ := bd_i h
  refine V_cV0 (q := 12) (kX11_goOnOr (d - 1) (by omega) hrec (by omega) hc9) (by omega) mv_X11_176 rfl rfl rfl rfl rfl rfl dX11_condition_9 rfl ?_
  exact V_vret rfl h dX11_condition_12
theorem dX11_unit_0 : decode cX11_unit 0 = .ok (.aload_n 0, 1) := dc_42 (byA eNcX11_unit (p := 0) (v := 42) (by decide +kernel))
theorem dX11_unit_1 : decode cX11_unit 1 = .ok (.invokevirtual 127, 3) := dc_182 (byA eNcX11_unit (p := 1) (v := 182) (by decide +kernel)) (byA eNcX11_unit (p := 2) (v := 0) (by decide +kernel)) (byA eNcX11_unit (p := 3) (v := 127) (by decide +kernel)) rfl
theorem dX11_unit_4 : decode cX11_unit 4 = .ok (.istore_n 1, 1) := dc_60 (byA eNcX11_unit (p := 4) (v := 60) (by decide +kernel))
theorem dX11_unit_5 : decode cX11_unit 5 = .ok (.iload_n 1, 1) := dc_27 (byA eNcX11_unit (p := 5) (v := 27) (by decide +kernel))
theorem dX11_unit_6 : decode cX11_unit 6 = .ok (.bipush 33, 2) := dc_16 (byA eNcX11_unit (p := 6) (v := 16) (by decide +kernel)) (byA eNcX11_unit (p := 7) (v := 33) (by decide +kernel)) (by decide +kernel)
theorem dX11_unit_8 : decode cX11_unit 8 = .ok (.if_icmp .ne 39, 3) := dc_160 (byA eNcX11_unit (p := 8) (v := 160) (by decide +kernel)) (byA eNcX11_unit (p := 9) (v := 0) (by decide +kernel)) (byA eNcX11_unit (p := 10) (v := 39) (by decide +kernel)) (by decide +kernel)
theorem dX11_unit_11 : decode cX11_unit 11 = .ok (.aload_n 0, 1) := dc_42 (byA eNcX11_unit (p := 11) (v := 42) (by decide +kernel))
theorem dX11_unit_12 : decode cX11_unit 12 = .ok (.invokevirtual 145, 3) := dc_182 (byA eNcX11_unit (p := 12) (v := 182) (by decide +kernel)) (byA eNcX11_unit (p := 13) (v := 0) (by decide +kernel)) (byA eNcX11_unit (p := 14) (v := 145) (by decide +kernel)) rfl
theorem dX11_unit_15 : decode cX11_unit 15 = .ok (.aload_n 0, 1) := dc_42 (byA eNcX11_unit (p := 15) (v := 42) (by decide +kernel))
theorem dX11_unit_16 : decode cX11_unit 16 = .ok (.getfield 115, 3) := dc_180 (byA eNcX11_unit (p := 16) (v := 180) (by decide +kernel)) (byA eNcX11_unit (p := 17) (v := 0) (by decide +kernel)) (byA eNcX11_unit (p := 18) (v := 115) (by decide +kernel)) rfl
theorem dX11_unit_19 : decode cX11_unit 19 = .ok (.iconst (-1), 1) := dc_2 (byA eNcX11_unit (p := 19) (v := 2) (by decide +kernel))
theorem dX11_unit_20 : decode cX11_unit 20 = .ok (.if_icmp .ne 74, 3) := dc_160 (byA eNcX11_unit (p := 20) (v := 160) (by decide +kernel)) (byA eNcX11_unit (p := 21) (v := 0) (by decide +kernel)) (byA eNcX11_unit (p := 22) (v := 74) (by decide +kernel)) (by decide +kernel)
theorem dX11_unit_23 : decode cX11_unit 23 = .ok (.aload_n 0, 1) := dc_42 (byA eNcX11_unit (p := 23) (v := 42) (by decide +kernel))
theorem dX11_unit_24 : decode cX11_unit 24 = .ok (.invokevirtual 164, 3) := dc_182 (byA eNcX11_unit (p := 24) (v := 182) (by decide +kernel)) (byA eNcX11_unit (p := 25) (v := 0) (by decide +kernel)) (byA eNcX11_unit (p := 26) (v := 164) (by decide +kernel)) rfl
theorem dX11_unit_27 : decode cX11_unit 27 = .ok (.aload_n 0, 1) := dc_42 (byA eNcX11_unit (p := 27) (v := 42) (by decide +kernel))
theorem dX11_unit_28 : decode cX11_unit 28 = .ok (.bipush 9, 2) := dc_16 (byA eNcX11_unit (p := 28) (v := 16) (by decide +kernel)) (byA eNcX11_unit (p := 29) (v := 9) (by decide +kernel)) (by decide +kernel)
theorem dX11_unit_30 : decode cX11_unit 30 = .ok (.iconst 0, 1) := dc_3 (byA eNcX11_unit (p := 30) (v := 3) (by decide +kernel))
theorem dX11_unit_31 : decode cX11_unit 31 = .ok (.invokevirtual 137, 3) := dc_182 (byA eNcX11_unit (p := 31) (v := 182) (by decide +kernel)) (byA eNcX11_unit (p := 32) (v := 0) (by decide +kernel)) (byA eNcX11_unit (p := 33) (v := 137) (by decide +kernel)) rfl
theorem dX11_unit_34 : decode cX11_unit 34 = .ok (.aload_n 0, 1) := dc_42 (byA eNcX11_unit (p := 34) (v := 42) (by decide +kernel))
theorem dX11_unit_35 : decode cX11_unit 35 = .ok (.dup, 1) := dc_89 (byA eNcX11_unit (p := 35) (v := 89) (by decide +kernel))
theorem dX11_unit_36 : decode cX11_unit 36 = .ok (.getfield 121, 3) := dc_180 (byA eNcX11_unit (p := 36) (v := 180) (by decide +kernel)) (byA eNcX11_unit (p := 37) (v := 0) (by decide +kernel)) (byA eNcX11_unit (p := 38) (v := 121) (by decide +kernel)) rfl
theorem dX11_unit_39 : decode cX11_unit 39 = .ok (.iconst 1, 1) := dc_4 (byA eNcX11_unit (p := 39) (v := 4) (by decide +kernel))
theorem dX11_unit_40 : decode cX11_unit 40 = .ok (.isub, 1) := dc_100 (byA eNcX11_unit (p := 40) (v := 100) (by decide +kernel))
theorem dX11_unit_41 : decode cX11_unit 41 = .ok (.putfield 121, 3) := dc_181 (byA eNcX11_unit (p := 41) (v := 181) (by decide +kernel)) (byA eNcX11_unit (p := 42) (v := 0) (by decide +kernel)) (byA eNcX11_unit (p := 43) (v := 121) (by decide +kernel)) rfl
theorem dX11_unit_44 : decode cX11_unit 44 = .ok (.goto 50, 3) := dc_167 (byA eNcX11_unit (p := 44) (v := 167) (by decide +kernel)) (byA eNcX11_unit (p := 45) (v := 0) (by decide +kernel)) (byA eNcX11_unit (p := 46) (v := 50) (by decide +kernel)) (by decide +kernel)
theorem dX11_unit_47 : decode cX11_unit 47 = .ok (.iload_n 1, 1) := dc_27 (byA eNcX11_unit (p := 47) (v := 27) (by decide +kernel))
theorem dX11_unit_48 : decode cX11_unit 48 = .ok (.bipush 40, 2) := dc_16 (byA eNcX11_unit (p := 48) (v := 16) (by decide +kernel)) (byA eNcX11_unit (p := 49) (v := 40) (by decide +kernel)) (by decide +kernel)
theorem dX11_unit_50 : decode cX11_unit 50 = .ok (.if_icmp .ne 28, 3) := dc_160 (byA eNcX11_unit (p := 50) (v := 160) (by decide +kernel)) (byA eNcX11_unit (p := 51) (v := 0) (by decide +kernel)) (byA eNcX11_unit (p := 52) (v := 28) (by decide +kernel)) (by decide +kernel)
theorem dX11_unit_53 : decode cX11_unit 53 = .ok (.aload_n 0, 1) := dc_42 (byA eNcX11_unit (p := 53) (v := 42) (by decide +kernel))
theorem dX11_unit_54 : decode cX11_unit 54 = .ok (.invokevirtual 145, 3) := dc_182 (byA eNcX11_unit (p := 54) (v := 182) (by decide +kernel)) (byA eNcX11_unit (p := 55) (v := 0) (by decide +kernel)) (byA eNcX11_unit (p := 56) (v := 145) (by decide +kernel)) rfl
theorem dX11_unit_57 : decode cX11_unit 57 = .ok (.aload_n 0, 1) := dc_42 (byA eNcX11_unit (p := 57) (v := 42) (by decide +kernel))
theorem dX11_unit_58 : decode cX11_unit 58 = .ok (.getfield 115, 3) := dc_180 (byA eNcX11_unit (p := 58) (v := 180) (by decide +kernel)) (byA eNcX11_unit (p := 59) (v := 0) (by decide +kernel)) (byA eNcX11_unit (p := 60) (v := 115) (by decide +kernel)) rfl
theorem dX11_unit_61 : decode cX11_unit 61 = .ok (.iconst (-1), 1) := dc_2 (byA eNcX11_unit (p := 61) (v := 2) (by decide +kernel))
theorem dX11_unit_62 : decode cX11_unit 62 = .ok (.if_icmp .ne 32, 3) := dc_160 (byA eNcX11_unit (p := 62) (v := 160) (by decide +kernel)) (byA eNcX11_unit (p := 63) (v := 0) (by decide +kernel)) (byA eNcX11_unit (p := 64) (v := 32) (by decide +kernel)) (by decide +kernel)
theorem dX11_unit_65 : decode cX11_unit 65 = .ok (.aload_n 0, 1) := dc_42 (byA eNcX11_unit (p := 65) (v := 42) (by decide +kernel))
theorem dX11_unit_66 : decode cX11_unit 66 = .ok (.invokevirtual 167, 3) := dc_182 (byA eNcX11_unit (p := 66) (v := 182) (by decide +kernel)) (byA eNcX11_unit (p := 67) (v := 0) (by decide +kernel)) (byA eNcX11_unit (p := 68) (v := 167) (by decide +kernel)) rfl
theorem dX11_unit_69 : decode cX11_unit 69 = .ok (.aload_n 0, 1) := dc_42 (byA eNcX11_unit (p := 69) (v := 42) (by decide +kernel))
theorem dX11_unit_70 : decode cX11_unit 70 = .ok (.bipush 41, 2) := dc_16 (byA eNcX11_unit (p := 70) (v := 16) (by decide +kernel)) (byA eNcX11_unit (p := 71) (v := 41) (by decide +kernel)) (by decide +kernel)
theorem dX11_unit_72 : decode cX11_unit 72 = .ok (.invokevirtual 151, 3) := dc_182 (byA eNcX11_unit (p := 72) (v := 182) (by decide +kernel)) (byA eNcX11_unit (p := 73) (v := 0) (by decide +kernel)) (byA eNcX11_unit (p := 74) (v := 151) (by decide +kernel)) rfl
theorem dX11_unit_75 : decode cX11_unit 75 = .ok (.goto 19, 3) := dc_167 (byA eNcX11_unit (p := 75) (v := 167) (by decide +kernel)) (byA eNcX11_unit (p := 76) (v := 0) (by decide +kernel)) (byA eNcX11_unit (p := 77) (v := 19) (by decide +kernel)) (by decide +kernel)
theorem dX11_unit_78 : decode cX11_unit 78 = .ok (.aload_n 0, 1) := dc_42 (byA eNcX11_unit (p := 78) (v := 42) (by decide +kernel))
theorem dX11_unit_79 : decode cX11_unit 79 = .ok (.invokevirtual 148, 3) := dc_182 (byA eNcX11_unit (p := 79) (v := 182) (by decide +kernel)) (byA eNcX11_unit (p := 80) (v := 0) (by decide +kernel)) (byA eNcX11_unit (p := 81) (v := 148) (by decide +kernel)) rfl
theorem dX11_unit_82 : decode cX11_unit 82 = .ok (.aload_n 0, 1) := dc_42 (byA eNcX11_unit (p := 82) (v := 42) (by decide +kernel))
theorem dX11_unit_83 : decode cX11_unit 83 = .ok (.getfield 115, 3) := dc_180 (byA eNcX11_unit (p := 83) (v := 180) (by decide +kernel)) (byA eNcX11_unit (p := 84) (v := 0) (by decide +kernel)) (byA eNcX11_unit (p := 85) (v := 115) (by decide +kernel)) rfl
theorem dX11_unit_86 : decode cX11_unit 86 = .ok (.iconst (-1), 1) := dc_2 (byA eNcX11_unit (p := 86) (v := 2) (by decide +kernel))
theorem dX11_unit_87 : decode cX11_unit 87 = .ok (.if_icmp .ne 7, 3) := dc_160 (byA eNcX11_unit (p := 87) (v := 160) (by decide +kernel)) (byA eNcX11_unit (p := 88) (v := 0) (by decide +kernel)) (byA eNcX11_unit (p := 89) (v := 7) (by decide +kernel)) (by decide +kernel)
theorem dX11_unit_90 : decode cX11_unit 90 = .ok (.aload_n 0, 1) := dc_42 (byA eNcX11_unit (p := 90) (v := 42) (by decide +kernel))
theorem dX11_unit_91 : decode cX11_unit 91 = .ok (.invokevirtual 170, 3) := dc_182 (byA eNcX11_unit (p := 91) (v := 182) (by decide +kernel)) (byA eNcX11_unit (p := 92) (v := 0) (by decide +kernel)) (byA eNcX11_unit (p := 93) (v := 170) (by decide +kernel)) rfl
theorem dX11_unit_94 : decode cX11_unit 94 = .ok (.return_, 1) := dc_177 (byA eNcX11_unit (p := 94) (v := 177) (by decide +kernel))
def X11_unit : Nat → Mm → Rs
  | 0, _ => none
  | n + 1, μ => bd (X11_look μ) fun v1 μ2 => if v1 = 33 then (bd (X11_opens μ2) fun v23 μ24 => if (μ24 70 4) = (-1) then (bd ((fun  μq => X11_unit n  μq) μ24) fun v27 μ28 => bd (X11_put 9 0 μ28) fun v30 μ31 => sF μ31 70 5 (iS (μ31 70 5) 1) fun μ33 => some (0, μ33)) else (some (0, μ24))) else (if v1 = 40 then (bd (X11_opens μ2) fun v13 μ14 => if (μ14 70 4) = (-1) then (bd (X11_condition_o (fun  μq => X11_unit n  μq) μ14) fun v17 μ18 => bd (X11_closes 41 μ18) fun v20 μ21 => some (0, μ21)) else (some (0, μ14))) else (bd (X11_sum RD μ2) fun v6 μ7 => if (μ7 70 4) = (-1) then (bd (X11_compare μ7) fun v10 μ11 => some (0, μ11)) else (some (0, μ7))))
set_option maxHeartbeats 4000000 in
set_option maxRecDepth 100000 in
theorem kX11_unit : ∀ (n d : Nat) (hd : 10 * n + 146 ≤ d) {μ : Mm} {r : Int} {μ' : Mm} (h : X11_unit n μ = some (r, μ')), CC d mX11_unit [vR 70] μ r μ' := by
  intro n
  induction n with
  | zero => intro d hd    μ r μ' h; rw [X11_unit] at h; cases h
  | succ n ih =>
    intro d hd    μ r μ' h
    have hb : 145 ≤ d := by omega
    obtain ⟨d0, hd0⟩ : ∃ z, z = 10 * n + 146 := ⟨_, rfl⟩
    have hd : d0 + 10 ≤ d := by omega
    have hrec : ∀  {μ1 : Mm} {r1 : Int} {μ2 : Mm}, ((fun  μq => X11_unit n  μq))  μ1 = some (r1, μ2) → CC d0 mX11_unit [vR 70] μ1 r1 μ2 := fun h1 => ih d0 (by omega) h1
    rw [X11_unit] at h
    refine V_enter (by decide) (Nat.le_of_ble_eq_true rfl) ?_
    show VV d mX11_unit 0 [some (vR 70), none] [] μ r μ'
    refine V_aload_n (q := 1) dX11_unit_0 rfl rfl rfl ?_
    obtain ⟨v1, μ2, hc3, h⟩ := bd_i h
    refine V_cV1 (q := 4) (v := vI v1) (kX11_look (d - 1) (by omega) hc3) (by omega) mv_X11_127 rfl rfl rfl rfl rfl rfl dX11_unit_1 rfl ?_
    refine V_istore_n (q := 5) dX11_unit_4 rfl (Nat.le_of_ble_eq_true rfl) trivial rfl ?_
    refine V_iload_n (q := 6) dX11_unit_5 rfl rfl rfl ?_
    refine V_bipush (q := 8) dX11_unit_6 rfl rfl rfl ?_
    refine V_icmpne (q := 47) (q2 := 11) dX11_unit_8 (by decide) rfl (fun hc4 => ?_) (fun hc4 => ?_)
    · have h := ifF hc4 h
      refine V_iload_n (q := 48) dX11_unit_47 rfl rfl rfl ?_
      refine V_bipush (q := 50) dX11_unit_48 rfl rfl rfl ?_
      refine V_icmpne (q := 78) (q2 := 53) dX11_unit_50 (by decide) rfl (fun hc5 => ?_) (fun hc5 => ?_)
      · have h := ifF hc5 h
        refine V_aload_n (q := 79) dX11_unit_78 rfl rfl rfl ?_
        obtain ⟨v6, μ7, hc8, h⟩ := bd_i h
        refine V_cV0 (q := 82) (kX11_sum RD (d - 1) (by unfold RD; omega) hc8) (by omega) mv_X11_148 rfl rfl rfl rfl rfl rfl dX11_unit_79 rfl ?_
        refine V_aload_n (q := 83) dX11_unit_82 rfl rfl rfl ?_
        refine V_getI (q := 86) fl_X11_115 rfl rfl rfl dX11_unit_83 rfl ?_
        refine V_iconst (q := 87) dX11_unit_86 rfl rfl ?_
        refine V_icmpne (q := 94) (q2 := 90) dX11_unit_87 (by decide) rfl (fun hc9 => ?_) (fun hc9 => ?_)
        · have h := ifF hc9 h
          exact V_vret rfl h dX11_unit_94
        · have h := ifT hc9 h
          refine V_aload_n (q := 91) dX11_unit_90 rfl rfl rfl ?_
          obtain ⟨v10, μ11, hc12, h⟩ := bd_i h
          refine V_cV0 (q := 94) (kX11_compare (d - 1) (by omega) hc12) (by omega) mv_X11_170 rfl rfl rfl rfl rfl rfl dX11_unit_91 rfl ?_
          exact V_vret rfl h dX11_unit_94
      · have h := ifT hc5 h
        refine V_aload_n (q := 54) dX11_unit_53 rfl rfl rfl ?_
        obtain ⟨v13, μ14, hc15, h⟩ := bd_i h
        refine V_cV0 (q := 57) (kX11_opens (d - 1) (by omega) hc15) (by omega) mv_X11_145 rfl rfl rfl rfl rfl rfl dX11_unit_54 rfl ?_
        refine V_aload_n (q := 58) dX11_unit_57 rfl rfl rfl ?_
        refine V_getI (q := 61) fl_X11_115 rfl rfl rfl dX11_unit_58 rfl ?_
        refine V_iconst (q := 62) dX11_unit_61 rfl rfl ?_
        refine V_icmpne (q := 94) (q2 := 65) dX11_unit_62 (by decide) rfl (fun hc16 => ?_) (fun hc16 => ?_)
        · have h := ifF hc16 h
          exact V_vret rfl h dX11_unit_94
        · have h := ifT hc16 h
          refine V_aload_n (q := 66) dX11_unit_65 rfl rfl rfl ?_
          obtain ⟨v17, μ18, hc19, h⟩ := bd_i h
          refine V_cV0 (q := 69) (kX11_condition (d - 1) (by omega) hrec (by omega) hc19) (by omega) mv_X11_167 rfl rfl rfl rfl rfl rfl dX11_unit_66 rfl ?_
          refine V_aload_n (q := 70) dX11_unit_69 rfl rfl rfl ?_
          refine V_bipush (q := 72) dX11_unit_70 rfl rfl rfl ?_
          obtain ⟨v20, μ21, hc22, h⟩ := bd_i h
          refine V_cV0 (q := 75) (kX11_closes (d - 1) (by omega) hc22) (by omega) mv_X11_151 rfl rfl rfl rfl rfl rfl dX11_unit_72 rfl ?_
          refine V_goto (q := 94) dX11_unit_75 (by decide) ?_
          exact V_vret rfl h dX11_unit_94
    · have h := ifT hc4 h
      refine V_aload_n (q := 12) dX11_unit_11 rfl rfl rfl ?_
      obtain ⟨v23, μ24, hc25, h⟩ := bd_i h
      refine V_cV0 (q := 15) (kX11_opens (d - 1) (by omega) hc25) (by omega) mv_X11_145 rfl rfl rfl rfl rfl rfl dX11_unit_12 rfl ?_
      refine V_aload_n (q := 16) dX11_unit_15 rfl rfl rfl ?_
      refine V_getI (q := 19) fl_X11_115 rfl rfl rfl dX11_unit_16 rfl ?_
      refine V_iconst (q := 20) dX11_unit_19 rfl rfl ?_
      refine V_icmpne (q := 94) (q2 := 23) dX11_unit_20 (by decide) rfl (fun hc26 => ?_) (fun hc26 => ?_)
      · have h := ifF hc26 h
        exact V_vret rfl h dX11_unit_94
      · have h := ifT hc26 h
        refine V_aload_n (q := 24) dX11_unit_23 rfl rfl rfl ?_
        obtain ⟨v27, μ28, hc29, h⟩ := bd_i h
        refine V_cV0 (q := 27) (hrec hc29) (by omega) mv_X11_164 rfl rfl rfl rfl rfl rfl dX11_unit_24 rfl ?_
        refine V_aload_n (q := 28) dX11_unit_27 rfl rfl rfl ?_
        refine V_bipush (q := 30) dX11_unit_28 rfl rfl rfl ?_
        refine V_iconst (q := 31) dX11_unit_30 rfl rfl ?_
        obtain ⟨v30, μ31, hc32, h⟩ := bd_i h
        refine V_cV0 (q := 34) (kX11_put (d - 1) (by omega) hc32) (by omega) mv_X11_137 rfl rfl rfl rfl rfl rfl dX11_unit_31 rfl ?_
        refine V_aload_n (q := 35) dX11_unit_34 rfl rfl rfl ?_
        refine V_dup (q := 36) dX11_unit_35 trivial rfl ?_
        refine V_getI (q := 39) fl_X11_121 rfl rfl rfl dX11_unit_36 rfl ?_
        refine V_iconst (q := 40) dX11_unit_39 rfl rfl ?_
        refine V_isub (q := 41) dX11_unit_40 rfl ?_
        have h := sF_i h
        refine V_putI (q := 44) fl_X11_121 rfl rfl rfl dX11_unit_41 rfl ?_
        refine V_goto (q := 94) dX11_unit_44 (by decide) ?_
        exact V_vret rfl h dX11_unit_94
theorem kX11_goOnAnd_c (d : Nat) (hd : 268 ≤ d) {μ : Mm} {r : Int} {μ' : Mm} (h : X11_goOnAnd_o (X11_unit RD) μ = some (r, μ')) : CC d mX11_goOnAnd [vR 70] μ r μ' := kX11_goOnAnd (d0 := 10 * RD + 146) d (by unfold RD; omega) (fun h1 => kX11_unit RD _ (Nat.le_refl _) h1) (by omega) h
theorem kX11_goOnOr_c (d : Nat) (hd : 269 ≤ d) {μ : Mm} {r : Int} {μ' : Mm} (h : X11_goOnOr_o (X11_unit RD) μ = some (r, μ')) : CC d mX11_goOnOr [vR 70] μ r μ' := kX11_goOnOr (d0 := 10 * RD + 146) d (by unfold RD; omega) (fun h1 => kX11_unit RD _ (Nat.le_refl _) h1) (by omega) h
theorem kX11_condition_c (d : Nat) (hd : 270 ≤ d) {μ : Mm} {r : Int} {μ' : Mm} (h : X11_condition_o (X11_unit RD) μ = some (r, μ')) : CC d mX11_condition [vR 70] μ r μ' := kX11_condition (d0 := 10 * RD + 146) d (by unfold RD; omega) (fun h1 => kX11_unit RD _ (Nat.le_refl _) h1) (by omega) h
abbrev mX11_clause : Mth := (yX11_clause, cX11_clause, 3, none)
set_option maxRecDepth 100000 in
theorem mi_X11_clause : Cond.instanceMethod yX11_clause ∈ tG ∧ Cond.selects yX11_clause.cls yX11_clause yX11_clause ∈ tG ∧ Cond.initialized yX11_clause.cls ∈ tG ∧ Cond.code yX11_clause cX11_clause 3 (none) ∈ tG ∧ (yX11_clause.cls ≠ "java/lang/invoke/MethodHandle" ∧ yX11_clause.cls ≠ "java/lang/invoke/VarHandle" ∧ (parseMethodDescriptor yX11_clause.desc).map (fun d => d.parameters.length) = some 0) ∧ 3 ≤ 60 := ⟨(tG_of (tb6 (List.mem_of_getElem? (i := 100) rfl)) (by decide +kernel)), (tG_of (List.mem_of_getElem? (i := 57) (by decide +kernel)) (by decide +kernel)), (tG_of (tb1 (List.mem_of_getElem? (i := 12) rfl)) (by decide +kernel)), (tG_of (tb6 (List.mem_of_getElem? (i := 101) rfl)) (by decide +kernel)), ⟨by decide, by decide, by decide +kernel⟩, by decide⟩
set_option maxRecDepth 100000 in
theorem mv_X11_182 : mV RX11 182 mX11_clause 0 := ⟨(tG_of (tb6 (List.mem_of_getElem? (i := 98) rfl)) (by decide +kernel)), mi_X11_clause⟩
theorem dX11_clause_0 : decode cX11_clause 0 = .ok (.bipush 90, 2) := dc_16 (byA eNcX11_clause (p := 0) (v := 16) (by decide +kernel)) (byA eNcX11_clause (p := 1) (v := 90) (by decide +kernel)) (by decide +kernel)
theorem dX11_clause_2 : decode cX11_clause 2 = .ok (.aload_n 0, 1) := dc_42 (byA eNcX11_clause (p := 2) (v := 42) (by decide +kernel))
theorem dX11_clause_3 : decode cX11_clause 3 = .ok (.getfield 118, 3) := dc_180 (byA eNcX11_clause (p := 3) (v := 180) (by decide +kernel)) (byA eNcX11_clause (p := 4) (v := 0) (by decide +kernel)) (byA eNcX11_clause (p := 5) (v := 118) (by decide +kernel)) rfl
theorem dX11_clause_6 : decode cX11_clause 6 = .ok (.imul, 1) := dc_104 (byA eNcX11_clause (p := 6) (v := 104) (by decide +kernel))
theorem dX11_clause_7 : decode cX11_clause 7 = .ok (.aload_n 0, 1) := dc_42 (byA eNcX11_clause (p := 7) (v := 42) (by decide +kernel))
theorem dX11_clause_8 : decode cX11_clause 8 = .ok (.getfield 22, 3) := dc_180 (byA eNcX11_clause (p := 8) (v := 180) (by decide +kernel)) (byA eNcX11_clause (p := 9) (v := 0) (by decide +kernel)) (byA eNcX11_clause (p := 10) (v := 22) (by decide +kernel)) rfl
theorem dX11_clause_11 : decode cX11_clause 11 = .ok (.aload_n 0, 1) := dc_42 (byA eNcX11_clause (p := 11) (v := 42) (by decide +kernel))
theorem dX11_clause_12 : decode cX11_clause 12 = .ok (.getfield 118, 3) := dc_180 (byA eNcX11_clause (p := 12) (v := 180) (by decide +kernel)) (byA eNcX11_clause (p := 13) (v := 0) (by decide +kernel)) (byA eNcX11_clause (p := 14) (v := 118) (by decide +kernel)) rfl
theorem dX11_clause_15 : decode cX11_clause 15 = .ok (.iaload, 1) := dc_46 (byA eNcX11_clause (p := 15) (v := 46) (by decide +kernel))
theorem dX11_clause_16 : decode cX11_clause 16 = .ok (.iadd, 1) := dc_96 (byA eNcX11_clause (p := 16) (v := 96) (by decide +kernel))
theorem dX11_clause_17 : decode cX11_clause 17 = .ok (.istore_n 1, 1) := dc_60 (byA eNcX11_clause (p := 17) (v := 60) (by decide +kernel))
theorem dX11_clause_18 : decode cX11_clause 18 = .ok (.aload_n 0, 1) := dc_42 (byA eNcX11_clause (p := 18) (v := 42) (by decide +kernel))
theorem dX11_clause_19 : decode cX11_clause 19 = .ok (.getfield 115, 3) := dc_180 (byA eNcX11_clause (p := 19) (v := 180) (by decide +kernel)) (byA eNcX11_clause (p := 20) (v := 0) (by decide +kernel)) (byA eNcX11_clause (p := 21) (v := 115) (by decide +kernel)) rfl
theorem dX11_clause_22 : decode cX11_clause 22 = .ok (.iconst (-1), 1) := dc_2 (byA eNcX11_clause (p := 22) (v := 2) (by decide +kernel))
theorem dX11_clause_23 : decode cX11_clause 23 = .ok (.if_icmp .ne 16, 3) := dc_160 (byA eNcX11_clause (p := 23) (v := 160) (by decide +kernel)) (byA eNcX11_clause (p := 24) (v := 0) (by decide +kernel)) (byA eNcX11_clause (p := 25) (v := 16) (by decide +kernel)) (by decide +kernel)
theorem dX11_clause_26 : decode cX11_clause 26 = .ok (.aload_n 0, 1) := dc_42 (byA eNcX11_clause (p := 26) (v := 42) (by decide +kernel))
theorem dX11_clause_27 : decode cX11_clause 27 = .ok (.invokevirtual 127, 3) := dc_182 (byA eNcX11_clause (p := 27) (v := 182) (by decide +kernel)) (byA eNcX11_clause (p := 28) (v := 0) (by decide +kernel)) (byA eNcX11_clause (p := 29) (v := 127) (by decide +kernel)) rfl
theorem dX11_clause_30 : decode cX11_clause 30 = .ok (.bipush 121, 2) := dc_16 (byA eNcX11_clause (p := 30) (v := 16) (by decide +kernel)) (byA eNcX11_clause (p := 31) (v := 121) (by decide +kernel)) (by decide +kernel)
theorem dX11_clause_32 : decode cX11_clause 32 = .ok (.if_icmp .eq 7, 3) := dc_159 (byA eNcX11_clause (p := 32) (v := 159) (by decide +kernel)) (byA eNcX11_clause (p := 33) (v := 0) (by decide +kernel)) (byA eNcX11_clause (p := 34) (v := 7) (by decide +kernel)) (by decide +kernel)
theorem dX11_clause_35 : decode cX11_clause 35 = .ok (.aload_n 0, 1) := dc_42 (byA eNcX11_clause (p := 35) (v := 42) (by decide +kernel))
theorem dX11_clause_36 : decode cX11_clause 36 = .ok (.invokevirtual 124, 3) := dc_182 (byA eNcX11_clause (p := 36) (v := 182) (by decide +kernel)) (byA eNcX11_clause (p := 37) (v := 0) (by decide +kernel)) (byA eNcX11_clause (p := 38) (v := 124) (by decide +kernel)) rfl
theorem dX11_clause_39 : decode cX11_clause 39 = .ok (.aload_n 0, 1) := dc_42 (byA eNcX11_clause (p := 39) (v := 42) (by decide +kernel))
theorem dX11_clause_40 : decode cX11_clause 40 = .ok (.dup, 1) := dc_89 (byA eNcX11_clause (p := 40) (v := 89) (by decide +kernel))
theorem dX11_clause_41 : decode cX11_clause 41 = .ok (.getfield 108, 3) := dc_180 (byA eNcX11_clause (p := 41) (v := 180) (by decide +kernel)) (byA eNcX11_clause (p := 42) (v := 0) (by decide +kernel)) (byA eNcX11_clause (p := 43) (v := 108) (by decide +kernel)) rfl
theorem dX11_clause_44 : decode cX11_clause 44 = .ok (.iconst 1, 1) := dc_4 (byA eNcX11_clause (p := 44) (v := 4) (by decide +kernel))
theorem dX11_clause_45 : decode cX11_clause 45 = .ok (.iadd, 1) := dc_96 (byA eNcX11_clause (p := 45) (v := 96) (by decide +kernel))
theorem dX11_clause_46 : decode cX11_clause 46 = .ok (.putfield 108, 3) := dc_181 (byA eNcX11_clause (p := 46) (v := 181) (by decide +kernel)) (byA eNcX11_clause (p := 47) (v := 0) (by decide +kernel)) (byA eNcX11_clause (p := 48) (v := 108) (by decide +kernel)) rfl
theorem dX11_clause_49 : decode cX11_clause 49 = .ok (.aload_n 0, 1) := dc_42 (byA eNcX11_clause (p := 49) (v := 42) (by decide +kernel))
theorem dX11_clause_50 : decode cX11_clause 50 = .ok (.getfield 115, 3) := dc_180 (byA eNcX11_clause (p := 50) (v := 180) (by decide +kernel)) (byA eNcX11_clause (p := 51) (v := 0) (by decide +kernel)) (byA eNcX11_clause (p := 52) (v := 115) (by decide +kernel)) rfl
theorem dX11_clause_53 : decode cX11_clause 53 = .ok (.iconst (-1), 1) := dc_2 (byA eNcX11_clause (p := 53) (v := 2) (by decide +kernel))
theorem dX11_clause_54 : decode cX11_clause 54 = .ok (.if_icmp .ne 16, 3) := dc_160 (byA eNcX11_clause (p := 54) (v := 160) (by decide +kernel)) (byA eNcX11_clause (p := 55) (v := 0) (by decide +kernel)) (byA eNcX11_clause (p := 56) (v := 16) (by decide +kernel)) (by decide +kernel)
theorem dX11_clause_57 : decode cX11_clause 57 = .ok (.aload_n 0, 1) := dc_42 (byA eNcX11_clause (p := 57) (v := 42) (by decide +kernel))
theorem dX11_clause_58 : decode cX11_clause 58 = .ok (.invokevirtual 127, 3) := dc_182 (byA eNcX11_clause (p := 58) (v := 182) (by decide +kernel)) (byA eNcX11_clause (p := 59) (v := 0) (by decide +kernel)) (byA eNcX11_clause (p := 60) (v := 127) (by decide +kernel)) rfl
theorem dX11_clause_61 : decode cX11_clause 61 = .ok (.bipush 58, 2) := dc_16 (byA eNcX11_clause (p := 61) (v := 16) (by decide +kernel)) (byA eNcX11_clause (p := 62) (v := 58) (by decide +kernel)) (by decide +kernel)
theorem dX11_clause_63 : decode cX11_clause 63 = .ok (.if_icmp .eq 7, 3) := dc_159 (byA eNcX11_clause (p := 63) (v := 159) (by decide +kernel)) (byA eNcX11_clause (p := 64) (v := 0) (by decide +kernel)) (byA eNcX11_clause (p := 65) (v := 7) (by decide +kernel)) (by decide +kernel)
theorem dX11_clause_66 : decode cX11_clause 66 = .ok (.aload_n 0, 1) := dc_42 (byA eNcX11_clause (p := 66) (v := 42) (by decide +kernel))
theorem dX11_clause_67 : decode cX11_clause 67 = .ok (.invokevirtual 124, 3) := dc_182 (byA eNcX11_clause (p := 67) (v := 182) (by decide +kernel)) (byA eNcX11_clause (p := 68) (v := 0) (by decide +kernel)) (byA eNcX11_clause (p := 69) (v := 124) (by decide +kernel)) rfl
theorem dX11_clause_70 : decode cX11_clause 70 = .ok (.aload_n 0, 1) := dc_42 (byA eNcX11_clause (p := 70) (v := 42) (by decide +kernel))
theorem dX11_clause_71 : decode cX11_clause 71 = .ok (.dup, 1) := dc_89 (byA eNcX11_clause (p := 71) (v := 89) (by decide +kernel))
theorem dX11_clause_72 : decode cX11_clause 72 = .ok (.getfield 108, 3) := dc_180 (byA eNcX11_clause (p := 72) (v := 180) (by decide +kernel)) (byA eNcX11_clause (p := 73) (v := 0) (by decide +kernel)) (byA eNcX11_clause (p := 74) (v := 108) (by decide +kernel)) rfl
theorem dX11_clause_75 : decode cX11_clause 75 = .ok (.iconst 1, 1) := dc_4 (byA eNcX11_clause (p := 75) (v := 4) (by decide +kernel))
theorem dX11_clause_76 : decode cX11_clause 76 = .ok (.iadd, 1) := dc_96 (byA eNcX11_clause (p := 76) (v := 96) (by decide +kernel))
theorem dX11_clause_77 : decode cX11_clause 77 = .ok (.putfield 108, 3) := dc_181 (byA eNcX11_clause (p := 77) (v := 181) (by decide +kernel)) (byA eNcX11_clause (p := 78) (v := 0) (by decide +kernel)) (byA eNcX11_clause (p := 79) (v := 108) (by decide +kernel)) rfl
theorem dX11_clause_80 : decode cX11_clause 80 = .ok (.aload_n 0, 1) := dc_42 (byA eNcX11_clause (p := 80) (v := 42) (by decide +kernel))
theorem dX11_clause_81 : decode cX11_clause 81 = .ok (.getfield 115, 3) := dc_180 (byA eNcX11_clause (p := 81) (v := 180) (by decide +kernel)) (byA eNcX11_clause (p := 82) (v := 0) (by decide +kernel)) (byA eNcX11_clause (p := 83) (v := 115) (by decide +kernel)) rfl
theorem dX11_clause_84 : decode cX11_clause 84 = .ok (.iconst (-1), 1) := dc_2 (byA eNcX11_clause (p := 84) (v := 2) (by decide +kernel))
theorem dX11_clause_85 : decode cX11_clause 85 = .ok (.if_icmp .eq 4, 3) := dc_159 (byA eNcX11_clause (p := 85) (v := 159) (by decide +kernel)) (byA eNcX11_clause (p := 86) (v := 0) (by decide +kernel)) (byA eNcX11_clause (p := 87) (v := 4) (by decide +kernel)) (by decide +kernel)
theorem dX11_clause_88 : decode cX11_clause 88 = .ok (.return_, 1) := dc_177 (byA eNcX11_clause (p := 88) (v := 177) (by decide +kernel))
theorem dX11_clause_89 : decode cX11_clause 89 = .ok (.aload_n 0, 1) := dc_42 (byA eNcX11_clause (p := 89) (v := 42) (by decide +kernel))
theorem dX11_clause_90 : decode cX11_clause 90 = .ok (.getfield 25, 3) := dc_180 (byA eNcX11_clause (p := 90) (v := 180) (by decide +kernel)) (byA eNcX11_clause (p := 91) (v := 0) (by decide +kernel)) (byA eNcX11_clause (p := 92) (v := 25) (by decide +kernel)) rfl
theorem dX11_clause_93 : decode cX11_clause 93 = .ok (.iload_n 1, 1) := dc_27 (byA eNcX11_clause (p := 93) (v := 27) (by decide +kernel))
theorem dX11_clause_94 : decode cX11_clause 94 = .ok (.aload_n 0, 1) := dc_42 (byA eNcX11_clause (p := 94) (v := 42) (by decide +kernel))
theorem dX11_clause_95 : decode cX11_clause 95 = .ok (.getfield 19, 3) := dc_180 (byA eNcX11_clause (p := 95) (v := 180) (by decide +kernel)) (byA eNcX11_clause (p := 96) (v := 0) (by decide +kernel)) (byA eNcX11_clause (p := 97) (v := 19) (by decide +kernel)) rfl
theorem dX11_clause_98 : decode cX11_clause 98 = .ok (.aload_n 0, 1) := dc_42 (byA eNcX11_clause (p := 98) (v := 42) (by decide +kernel))
theorem dX11_clause_99 : decode cX11_clause 99 = .ok (.getfield 118, 3) := dc_180 (byA eNcX11_clause (p := 99) (v := 180) (by decide +kernel)) (byA eNcX11_clause (p := 100) (v := 0) (by decide +kernel)) (byA eNcX11_clause (p := 101) (v := 118) (by decide +kernel)) rfl
theorem dX11_clause_102 : decode cX11_clause 102 = .ok (.iaload, 1) := dc_46 (byA eNcX11_clause (p := 102) (v := 46) (by decide +kernel))
theorem dX11_clause_103 : decode cX11_clause 103 = .ok (.iastore, 1) := dc_79 (byA eNcX11_clause (p := 103) (v := 79) (by decide +kernel))
theorem dX11_clause_104 : decode cX11_clause 104 = .ok (.aload_n 0, 1) := dc_42 (byA eNcX11_clause (p := 104) (v := 42) (by decide +kernel))
theorem dX11_clause_105 : decode cX11_clause 105 = .ok (.invokevirtual 127, 3) := dc_182 (byA eNcX11_clause (p := 105) (v := 182) (by decide +kernel)) (byA eNcX11_clause (p := 106) (v := 0) (by decide +kernel)) (byA eNcX11_clause (p := 107) (v := 127) (by decide +kernel)) rfl
theorem dX11_clause_108 : decode cX11_clause 108 = .ok (.bipush 33, 2) := dc_16 (byA eNcX11_clause (p := 108) (v := 16) (by decide +kernel)) (byA eNcX11_clause (p := 109) (v := 33) (by decide +kernel)) (by decide +kernel)
theorem dX11_clause_110 : decode cX11_clause 110 = .ok (.if_icmp .eq 12, 3) := dc_159 (byA eNcX11_clause (p := 110) (v := 159) (by decide +kernel)) (byA eNcX11_clause (p := 111) (v := 0) (by decide +kernel)) (byA eNcX11_clause (p := 112) (v := 12) (by decide +kernel)) (by decide +kernel)
theorem dX11_clause_113 : decode cX11_clause 113 = .ok (.aload_n 0, 1) := dc_42 (byA eNcX11_clause (p := 113) (v := 42) (by decide +kernel))
theorem dX11_clause_114 : decode cX11_clause 114 = .ok (.invokevirtual 127, 3) := dc_182 (byA eNcX11_clause (p := 114) (v := 182) (by decide +kernel)) (byA eNcX11_clause (p := 115) (v := 0) (by decide +kernel)) (byA eNcX11_clause (p := 116) (v := 127) (by decide +kernel)) rfl
theorem dX11_clause_117 : decode cX11_clause 117 = .ok (.bipush 40, 2) := dc_16 (byA eNcX11_clause (p := 117) (v := 16) (by decide +kernel)) (byA eNcX11_clause (p := 118) (v := 40) (by decide +kernel)) (by decide +kernel)
theorem dX11_clause_119 : decode cX11_clause 119 = .ok (.if_icmp .ne 7, 3) := dc_160 (byA eNcX11_clause (p := 119) (v := 160) (by decide +kernel)) (byA eNcX11_clause (p := 120) (v := 0) (by decide +kernel)) (byA eNcX11_clause (p := 121) (v := 7) (by decide +kernel)) (by decide +kernel)
theorem dX11_clause_122 : decode cX11_clause 122 = .ok (.iconst 1, 1) := dc_4 (byA eNcX11_clause (p := 122) (v := 4) (by decide +kernel))
theorem dX11_clause_123 : decode cX11_clause 123 = .ok (.goto 4, 3) := dc_167 (byA eNcX11_clause (p := 123) (v := 167) (by decide +kernel)) (byA eNcX11_clause (p := 124) (v := 0) (by decide +kernel)) (byA eNcX11_clause (p := 125) (v := 4) (by decide +kernel)) (by decide +kernel)
theorem dX11_clause_126 : decode cX11_clause 126 = .ok (.iconst 0, 1) := dc_3 (byA eNcX11_clause (p := 126) (v := 3) (by decide +kernel))
theorem dX11_clause_127 : decode cX11_clause 127 = .ok (.istore_n 2, 1) := dc_61 (byA eNcX11_clause (p := 127) (v := 61) (by decide +kernel))
theorem dX11_clause_128 : decode cX11_clause 128 = .ok (.iload_n 2, 1) := dc_28 (byA eNcX11_clause (p := 128) (v := 28) (by decide +kernel))
theorem dX11_clause_129 : decode cX11_clause 129 = .ok (.ifCond .eq 10, 3) := dc_153 (byA eNcX11_clause (p := 129) (v := 153) (by decide +kernel)) (byA eNcX11_clause (p := 130) (v := 0) (by decide +kernel)) (byA eNcX11_clause (p := 131) (v := 10) (by decide +kernel)) (by decide +kernel)
theorem dX11_clause_132 : decode cX11_clause 132 = .ok (.aload_n 0, 1) := dc_42 (byA eNcX11_clause (p := 132) (v := 42) (by decide +kernel))
theorem dX11_clause_133 : decode cX11_clause 133 = .ok (.invokevirtual 167, 3) := dc_182 (byA eNcX11_clause (p := 133) (v := 182) (by decide +kernel)) (byA eNcX11_clause (p := 134) (v := 0) (by decide +kernel)) (byA eNcX11_clause (p := 135) (v := 167) (by decide +kernel)) rfl
theorem dX11_clause_136 : decode cX11_clause 136 = .ok (.goto 47, 3) := dc_167 (byA eNcX11_clause (p := 136) (v := 167) (by decide +kernel)) (byA eNcX11_clause (p := 137) (v := 0) (by decide +kernel)) (byA eNcX11_clause (p := 138) (v := 47) (by decide +kernel)) (by decide +kernel)
theorem dX11_clause_139 : decode cX11_clause 139 = .ok (.aload_n 0, 1) := dc_42 (byA eNcX11_clause (p := 139) (v := 42) (by decide +kernel))
theorem dX11_clause_140 : decode cX11_clause 140 = .ok (.invokevirtual 148, 3) := dc_182 (byA eNcX11_clause (p := 140) (v := 182) (by decide +kernel)) (byA eNcX11_clause (p := 141) (v := 0) (by decide +kernel)) (byA eNcX11_clause (p := 142) (v := 148) (by decide +kernel)) rfl
theorem dX11_clause_143 : decode cX11_clause 143 = .ok (.aload_n 0, 1) := dc_42 (byA eNcX11_clause (p := 143) (v := 42) (by decide +kernel))
theorem dX11_clause_144 : decode cX11_clause 144 = .ok (.getfield 115, 3) := dc_180 (byA eNcX11_clause (p := 144) (v := 180) (by decide +kernel)) (byA eNcX11_clause (p := 145) (v := 0) (by decide +kernel)) (byA eNcX11_clause (p := 146) (v := 115) (by decide +kernel)) rfl
theorem dX11_clause_147 : decode cX11_clause 147 = .ok (.iconst (-1), 1) := dc_2 (byA eNcX11_clause (p := 147) (v := 2) (by decide +kernel))
theorem dX11_clause_148 : decode cX11_clause 148 = .ok (.if_icmp .ne 17, 3) := dc_160 (byA eNcX11_clause (p := 148) (v := 160) (by decide +kernel)) (byA eNcX11_clause (p := 149) (v := 0) (by decide +kernel)) (byA eNcX11_clause (p := 150) (v := 17) (by decide +kernel)) (by decide +kernel)
theorem dX11_clause_151 : decode cX11_clause 151 = .ok (.aload_n 0, 1) := dc_42 (byA eNcX11_clause (p := 151) (v := 42) (by decide +kernel))
theorem dX11_clause_152 : decode cX11_clause 152 = .ok (.invokevirtual 127, 3) := dc_182 (byA eNcX11_clause (p := 152) (v := 182) (by decide +kernel)) (byA eNcX11_clause (p := 153) (v := 0) (by decide +kernel)) (byA eNcX11_clause (p := 154) (v := 127) (by decide +kernel)) rfl
theorem dX11_clause_155 : decode cX11_clause 155 = .ok (.invokestatic 161, 3) := dc_184 (byA eNcX11_clause (p := 155) (v := 184) (by decide +kernel)) (byA eNcX11_clause (p := 156) (v := 0) (by decide +kernel)) (byA eNcX11_clause (p := 157) (v := 161) (by decide +kernel)) rfl
theorem dX11_clause_158 : decode cX11_clause 158 = .ok (.ifCond .eq 7, 3) := dc_153 (byA eNcX11_clause (p := 158) (v := 153) (by decide +kernel)) (byA eNcX11_clause (p := 159) (v := 0) (by decide +kernel)) (byA eNcX11_clause (p := 160) (v := 7) (by decide +kernel)) (by decide +kernel)
theorem dX11_clause_161 : decode cX11_clause 161 = .ok (.iconst 1, 1) := dc_4 (byA eNcX11_clause (p := 161) (v := 4) (by decide +kernel))
theorem dX11_clause_162 : decode cX11_clause 162 = .ok (.goto 4, 3) := dc_167 (byA eNcX11_clause (p := 162) (v := 167) (by decide +kernel)) (byA eNcX11_clause (p := 163) (v := 0) (by decide +kernel)) (byA eNcX11_clause (p := 164) (v := 4) (by decide +kernel)) (by decide +kernel)
theorem dX11_clause_165 : decode cX11_clause 165 = .ok (.iconst 0, 1) := dc_3 (byA eNcX11_clause (p := 165) (v := 3) (by decide +kernel))
theorem dX11_clause_166 : decode cX11_clause 166 = .ok (.istore_n 2, 1) := dc_61 (byA eNcX11_clause (p := 166) (v := 61) (by decide +kernel))
theorem dX11_clause_167 : decode cX11_clause 167 = .ok (.iload_n 2, 1) := dc_28 (byA eNcX11_clause (p := 167) (v := 28) (by decide +kernel))
theorem dX11_clause_168 : decode cX11_clause 168 = .ok (.ifCond .eq 15, 3) := dc_153 (byA eNcX11_clause (p := 168) (v := 153) (by decide +kernel)) (byA eNcX11_clause (p := 169) (v := 0) (by decide +kernel)) (byA eNcX11_clause (p := 170) (v := 15) (by decide +kernel)) (by decide +kernel)
theorem dX11_clause_171 : decode cX11_clause 171 = .ok (.aload_n 0, 1) := dc_42 (byA eNcX11_clause (p := 171) (v := 42) (by decide +kernel))
theorem dX11_clause_172 : decode cX11_clause 172 = .ok (.invokevirtual 170, 3) := dc_182 (byA eNcX11_clause (p := 172) (v := 182) (by decide +kernel)) (byA eNcX11_clause (p := 173) (v := 0) (by decide +kernel)) (byA eNcX11_clause (p := 174) (v := 170) (by decide +kernel)) rfl
theorem dX11_clause_175 : decode cX11_clause 175 = .ok (.aload_n 0, 1) := dc_42 (byA eNcX11_clause (p := 175) (v := 42) (by decide +kernel))
theorem dX11_clause_176 : decode cX11_clause 176 = .ok (.invokevirtual 173, 3) := dc_182 (byA eNcX11_clause (p := 176) (v := 182) (by decide +kernel)) (byA eNcX11_clause (p := 177) (v := 0) (by decide +kernel)) (byA eNcX11_clause (p := 178) (v := 173) (by decide +kernel)) rfl
theorem dX11_clause_179 : decode cX11_clause 179 = .ok (.aload_n 0, 1) := dc_42 (byA eNcX11_clause (p := 179) (v := 42) (by decide +kernel))
theorem dX11_clause_180 : decode cX11_clause 180 = .ok (.invokevirtual 176, 3) := dc_182 (byA eNcX11_clause (p := 180) (v := 182) (by decide +kernel)) (byA eNcX11_clause (p := 181) (v := 0) (by decide +kernel)) (byA eNcX11_clause (p := 182) (v := 176) (by decide +kernel)) rfl
theorem dX11_clause_183 : decode cX11_clause 183 = .ok (.aload_n 0, 1) := dc_42 (byA eNcX11_clause (p := 183) (v := 42) (by decide +kernel))
theorem dX11_clause_184 : decode cX11_clause 184 = .ok (.getfield 28, 3) := dc_180 (byA eNcX11_clause (p := 184) (v := 180) (by decide +kernel)) (byA eNcX11_clause (p := 185) (v := 0) (by decide +kernel)) (byA eNcX11_clause (p := 186) (v := 28) (by decide +kernel)) rfl
theorem dX11_clause_187 : decode cX11_clause 187 = .ok (.iload_n 1, 1) := dc_27 (byA eNcX11_clause (p := 187) (v := 27) (by decide +kernel))
theorem dX11_clause_188 : decode cX11_clause 188 = .ok (.aload_n 0, 1) := dc_42 (byA eNcX11_clause (p := 188) (v := 42) (by decide +kernel))
theorem dX11_clause_189 : decode cX11_clause 189 = .ok (.getfield 25, 3) := dc_180 (byA eNcX11_clause (p := 189) (v := 180) (by decide +kernel)) (byA eNcX11_clause (p := 190) (v := 0) (by decide +kernel)) (byA eNcX11_clause (p := 191) (v := 25) (by decide +kernel)) rfl
theorem dX11_clause_192 : decode cX11_clause 192 = .ok (.iload_n 1, 1) := dc_27 (byA eNcX11_clause (p := 192) (v := 27) (by decide +kernel))
theorem dX11_clause_193 : decode cX11_clause 193 = .ok (.iaload, 1) := dc_46 (byA eNcX11_clause (p := 193) (v := 46) (by decide +kernel))
theorem dX11_clause_194 : decode cX11_clause 194 = .ok (.iastore, 1) := dc_79 (byA eNcX11_clause (p := 194) (v := 79) (by decide +kernel))
theorem dX11_clause_195 : decode cX11_clause 195 = .ok (.iload_n 2, 1) := dc_28 (byA eNcX11_clause (p := 195) (v := 28) (by decide +kernel))
theorem dX11_clause_196 : decode cX11_clause 196 = .ok (.ifCond .eq 54, 3) := dc_153 (byA eNcX11_clause (p := 196) (v := 153) (by decide +kernel)) (byA eNcX11_clause (p := 197) (v := 0) (by decide +kernel)) (byA eNcX11_clause (p := 198) (v := 54) (by decide +kernel)) (by decide +kernel)
theorem dX11_clause_199 : decode cX11_clause 199 = .ok (.aload_n 0, 1) := dc_42 (byA eNcX11_clause (p := 199) (v := 42) (by decide +kernel))
theorem dX11_clause_200 : decode cX11_clause 200 = .ok (.getfield 115, 3) := dc_180 (byA eNcX11_clause (p := 200) (v := 180) (by decide +kernel)) (byA eNcX11_clause (p := 201) (v := 0) (by decide +kernel)) (byA eNcX11_clause (p := 202) (v := 115) (by decide +kernel)) rfl
theorem dX11_clause_203 : decode cX11_clause 203 = .ok (.iconst (-1), 1) := dc_2 (byA eNcX11_clause (p := 203) (v := 2) (by decide +kernel))
theorem dX11_clause_204 : decode cX11_clause 204 = .ok (.if_icmp .ne 46, 3) := dc_160 (byA eNcX11_clause (p := 204) (v := 160) (by decide +kernel)) (byA eNcX11_clause (p := 205) (v := 0) (by decide +kernel)) (byA eNcX11_clause (p := 206) (v := 46) (by decide +kernel)) (by decide +kernel)
theorem dX11_clause_207 : decode cX11_clause 207 = .ok (.aload_n 0, 1) := dc_42 (byA eNcX11_clause (p := 207) (v := 42) (by decide +kernel))
theorem dX11_clause_208 : decode cX11_clause 208 = .ok (.invokevirtual 127, 3) := dc_182 (byA eNcX11_clause (p := 208) (v := 182) (by decide +kernel)) (byA eNcX11_clause (p := 209) (v := 0) (by decide +kernel)) (byA eNcX11_clause (p := 210) (v := 127) (by decide +kernel)) rfl
theorem dX11_clause_211 : decode cX11_clause 211 = .ok (.bipush 63, 2) := dc_16 (byA eNcX11_clause (p := 211) (v := 16) (by decide +kernel)) (byA eNcX11_clause (p := 212) (v := 63) (by decide +kernel)) (by decide +kernel)
theorem dX11_clause_213 : decode cX11_clause 213 = .ok (.if_icmp .eq 8, 3) := dc_159 (byA eNcX11_clause (p := 213) (v := 159) (by decide +kernel)) (byA eNcX11_clause (p := 214) (v := 0) (by decide +kernel)) (byA eNcX11_clause (p := 215) (v := 8) (by decide +kernel)) (by decide +kernel)
theorem dX11_clause_216 : decode cX11_clause 216 = .ok (.aload_n 0, 1) := dc_42 (byA eNcX11_clause (p := 216) (v := 42) (by decide +kernel))
theorem dX11_clause_217 : decode cX11_clause 217 = .ok (.invokevirtual 124, 3) := dc_182 (byA eNcX11_clause (p := 217) (v := 182) (by decide +kernel)) (byA eNcX11_clause (p := 218) (v := 0) (by decide +kernel)) (byA eNcX11_clause (p := 219) (v := 124) (by decide +kernel)) rfl
theorem dX11_clause_220 : decode cX11_clause 220 = .ok (.return_, 1) := dc_177 (byA eNcX11_clause (p := 220) (v := 177) (by decide +kernel))
theorem dX11_clause_221 : decode cX11_clause 221 = .ok (.aload_n 0, 1) := dc_42 (byA eNcX11_clause (p := 221) (v := 42) (by decide +kernel))
theorem dX11_clause_222 : decode cX11_clause 222 = .ok (.dup, 1) := dc_89 (byA eNcX11_clause (p := 222) (v := 89) (by decide +kernel))
theorem dX11_clause_223 : decode cX11_clause 223 = .ok (.getfield 108, 3) := dc_180 (byA eNcX11_clause (p := 223) (v := 180) (by decide +kernel)) (byA eNcX11_clause (p := 224) (v := 0) (by decide +kernel)) (byA eNcX11_clause (p := 225) (v := 108) (by decide +kernel)) rfl
theorem dX11_clause_226 : decode cX11_clause 226 = .ok (.iconst 1, 1) := dc_4 (byA eNcX11_clause (p := 226) (v := 4) (by decide +kernel))
theorem dX11_clause_227 : decode cX11_clause 227 = .ok (.iadd, 1) := dc_96 (byA eNcX11_clause (p := 227) (v := 96) (by decide +kernel))
theorem dX11_clause_228 : decode cX11_clause 228 = .ok (.putfield 108, 3) := dc_181 (byA eNcX11_clause (p := 228) (v := 181) (by decide +kernel)) (byA eNcX11_clause (p := 229) (v := 0) (by decide +kernel)) (byA eNcX11_clause (p := 230) (v := 108) (by decide +kernel)) rfl
theorem dX11_clause_231 : decode cX11_clause 231 = .ok (.aload_n 0, 1) := dc_42 (byA eNcX11_clause (p := 231) (v := 42) (by decide +kernel))
theorem dX11_clause_232 : decode cX11_clause 232 = .ok (.getfield 28, 3) := dc_180 (byA eNcX11_clause (p := 232) (v := 180) (by decide +kernel)) (byA eNcX11_clause (p := 233) (v := 0) (by decide +kernel)) (byA eNcX11_clause (p := 234) (v := 28) (by decide +kernel)) rfl
theorem dX11_clause_235 : decode cX11_clause 235 = .ok (.iload_n 1, 1) := dc_27 (byA eNcX11_clause (p := 235) (v := 27) (by decide +kernel))
theorem dX11_clause_236 : decode cX11_clause 236 = .ok (.aload_n 0, 1) := dc_42 (byA eNcX11_clause (p := 236) (v := 42) (by decide +kernel))
theorem dX11_clause_237 : decode cX11_clause 237 = .ok (.getfield 19, 3) := dc_180 (byA eNcX11_clause (p := 237) (v := 180) (by decide +kernel)) (byA eNcX11_clause (p := 238) (v := 0) (by decide +kernel)) (byA eNcX11_clause (p := 239) (v := 19) (by decide +kernel)) rfl
theorem dX11_clause_240 : decode cX11_clause 240 = .ok (.aload_n 0, 1) := dc_42 (byA eNcX11_clause (p := 240) (v := 42) (by decide +kernel))
theorem dX11_clause_241 : decode cX11_clause 241 = .ok (.getfield 118, 3) := dc_180 (byA eNcX11_clause (p := 241) (v := 180) (by decide +kernel)) (byA eNcX11_clause (p := 242) (v := 0) (by decide +kernel)) (byA eNcX11_clause (p := 243) (v := 118) (by decide +kernel)) rfl
theorem dX11_clause_244 : decode cX11_clause 244 = .ok (.iaload, 1) := dc_46 (byA eNcX11_clause (p := 244) (v := 46) (by decide +kernel))
theorem dX11_clause_245 : decode cX11_clause 245 = .ok (.iastore, 1) := dc_79 (byA eNcX11_clause (p := 245) (v := 79) (by decide +kernel))
theorem dX11_clause_246 : decode cX11_clause 246 = .ok (.aload_n 0, 1) := dc_42 (byA eNcX11_clause (p := 246) (v := 42) (by decide +kernel))
theorem dX11_clause_247 : decode cX11_clause 247 = .ok (.invokevirtual 148, 3) := dc_182 (byA eNcX11_clause (p := 247) (v := 182) (by decide +kernel)) (byA eNcX11_clause (p := 248) (v := 0) (by decide +kernel)) (byA eNcX11_clause (p := 249) (v := 148) (by decide +kernel)) rfl
theorem dX11_clause_250 : decode cX11_clause 250 = .ok (.aload_n 0, 1) := dc_42 (byA eNcX11_clause (p := 250) (v := 42) (by decide +kernel))
theorem dX11_clause_251 : decode cX11_clause 251 = .ok (.getfield 31, 3) := dc_180 (byA eNcX11_clause (p := 251) (v := 180) (by decide +kernel)) (byA eNcX11_clause (p := 252) (v := 0) (by decide +kernel)) (byA eNcX11_clause (p := 253) (v := 31) (by decide +kernel)) rfl
theorem dX11_clause_254 : decode cX11_clause 254 = .ok (.iload_n 1, 1) := dc_27 (byA eNcX11_clause (p := 254) (v := 27) (by decide +kernel))
theorem dX11_clause_255 : decode cX11_clause 255 = .ok (.aload_n 0, 1) := dc_42 (byA eNcX11_clause (p := 255) (v := 42) (by decide +kernel))
theorem dX11_clause_256 : decode cX11_clause 256 = .ok (.getfield 19, 3) := dc_180 (byA eNcX11_clause (p := 256) (v := 180) (by decide +kernel)) (byA eNcX11_clause (p := 257) (v := 0) (by decide +kernel)) (byA eNcX11_clause (p := 258) (v := 19) (by decide +kernel)) rfl
theorem dX11_clause_259 : decode cX11_clause 259 = .ok (.aload_n 0, 1) := dc_42 (byA eNcX11_clause (p := 259) (v := 42) (by decide +kernel))
theorem dX11_clause_260 : decode cX11_clause 260 = .ok (.getfield 118, 3) := dc_180 (byA eNcX11_clause (p := 260) (v := 180) (by decide +kernel)) (byA eNcX11_clause (p := 261) (v := 0) (by decide +kernel)) (byA eNcX11_clause (p := 262) (v := 118) (by decide +kernel)) rfl
theorem dX11_clause_263 : decode cX11_clause 263 = .ok (.iaload, 1) := dc_46 (byA eNcX11_clause (p := 263) (v := 46) (by decide +kernel))
theorem dX11_clause_264 : decode cX11_clause 264 = .ok (.iastore, 1) := dc_79 (byA eNcX11_clause (p := 264) (v := 79) (by decide +kernel))
theorem dX11_clause_265 : decode cX11_clause 265 = .ok (.aload_n 0, 1) := dc_42 (byA eNcX11_clause (p := 265) (v := 42) (by decide +kernel))
theorem dX11_clause_266 : decode cX11_clause 266 = .ok (.getfield 22, 3) := dc_180 (byA eNcX11_clause (p := 266) (v := 180) (by decide +kernel)) (byA eNcX11_clause (p := 267) (v := 0) (by decide +kernel)) (byA eNcX11_clause (p := 268) (v := 22) (by decide +kernel)) rfl
theorem dX11_clause_269 : decode cX11_clause 269 = .ok (.aload_n 0, 1) := dc_42 (byA eNcX11_clause (p := 269) (v := 42) (by decide +kernel))
theorem dX11_clause_270 : decode cX11_clause 270 = .ok (.getfield 118, 3) := dc_180 (byA eNcX11_clause (p := 270) (v := 180) (by decide +kernel)) (byA eNcX11_clause (p := 271) (v := 0) (by decide +kernel)) (byA eNcX11_clause (p := 272) (v := 118) (by decide +kernel)) rfl
theorem dX11_clause_273 : decode cX11_clause 273 = .ok (.dup2, 1) := dc_92 (byA eNcX11_clause (p := 273) (v := 92) (by decide +kernel))
theorem dX11_clause_274 : decode cX11_clause 274 = .ok (.iaload, 1) := dc_46 (byA eNcX11_clause (p := 274) (v := 46) (by decide +kernel))
theorem dX11_clause_275 : decode cX11_clause 275 = .ok (.iconst 1, 1) := dc_4 (byA eNcX11_clause (p := 275) (v := 4) (by decide +kernel))
theorem dX11_clause_276 : decode cX11_clause 276 = .ok (.iadd, 1) := dc_96 (byA eNcX11_clause (p := 276) (v := 96) (by decide +kernel))
theorem dX11_clause_277 : decode cX11_clause 277 = .ok (.iastore, 1) := dc_79 (byA eNcX11_clause (p := 277) (v := 79) (by decide +kernel))
theorem dX11_clause_278 : decode cX11_clause 278 = .ok (.return_, 1) := dc_177 (byA eNcX11_clause (p := 278) (v := 177) (by decide +kernel))
def X11_clause_J250 (l1 : Int) (μ : Mm) : Rs := ldA μ 74 (μ 70 14) fun v28 => stA μ 78 l1 v28 fun μ30 => ldA μ30 75 (μ30 70 14) fun v32 => stA μ30 75 (μ30 70 14) (iA v32 1) fun μ34 => some (0, μ34)
def X11_clause_J183 (l1 : Int) (l2 : Int) (μ : Mm) : Rs := ldA μ 76 l1 fun v23 => stA μ 77 l1 v23 fun μ25 => if l2 = 0 then (X11_clause_J250 l1 μ25) else (if (μ25 70 4) = (-1) then (bd (X11_look μ25) fun v37 μ38 => if v37 = 63 then (sF μ38 70 3 (iA (μ38 70 3) 1) fun μ41 => ldA μ41 74 (μ41 70 14) fun v42 => stA μ41 77 l1 v42 fun μ44 => bd (X11_sum RD μ44) fun v46 μ47 => X11_clause_J250 l1 μ47) else (bd (X11_bad μ38) fun v49 μ50 => some (0, μ50))) else (X11_clause_J250 l1 μ25))
def X11_clause_J166 (l1 : Int) (s0 : Int) (μ : Mm) : Rs := if s0 = 0 then (X11_clause_J183 l1 s0 μ) else (bd (X11_compare μ) fun v52 μ53 => bd (X11_goOnAnd_o (X11_unit RD) μ53) fun v55 μ56 => bd (X11_goOnOr_o (X11_unit RD) μ56) fun v58 μ59 => X11_clause_J183 l1 s0 μ59)
def X11_clause_J165 (l1 : Int) (μ : Mm) : Rs := X11_clause_J166 l1 0 μ
def X11_clause_J127 (l1 : Int) (s0 : Int) (μ : Mm) : Rs := if s0 = 0 then (bd (X11_sum RD μ) fun v18 μ19 => if (μ19 70 4) = (-1) then (bd (X11_look μ19) fun v61 μ62 => bd (X11_isSign v61 μ62) fun v64 μ65 => if v64 = 0 then (X11_clause_J165 l1 μ65) else (X11_clause_J166 l1 1 μ65)) else (X11_clause_J165 l1 μ19)) else (bd (X11_condition_o (X11_unit RD) μ) fun v68 μ69 => X11_clause_J183 l1 s0 μ69)
def X11_clause_J122 (l1 : Int) (μ : Mm) : Rs := X11_clause_J127 l1 1 μ
def X11_clause_J70 (l1 : Int) (μ : Mm) : Rs := sF μ 70 3 (iA (μ 70 3) 1) fun μ7 => if (μ7 70 4) = (-1) then (ldA μ7 74 (μ7 70 14) fun v9 => stA μ7 76 l1 v9 fun μ11 => bd (X11_look μ11) fun v13 μ14 => if v13 = 33 then (X11_clause_J122 l1 μ14) else (bd (X11_look μ14) fun v71 μ72 => if v71 = 40 then (X11_clause_J122 l1 μ72) else (X11_clause_J127 l1 0 μ72))) else (some (0, μ7))
def X11_clause_J39 (l1 : Int) (μ : Mm) : Rs := sF μ 70 3 (iA (μ 70 3) 1) fun μ5 => if (μ5 70 4) = (-1) then (bd (X11_look μ5) fun v75 μ76 => if v75 = 58 then (X11_clause_J70 l1 μ76) else (bd (X11_bad μ76) fun v79 μ80 => X11_clause_J70 l1 μ80)) else (X11_clause_J70 l1 μ5)
def X11_clause (μ : Mm) : Rs := ldA μ 75 (μ 70 14) fun v1 => lt_ (iA (iM 90 (μ 70 14)) v1) fun v3 => if (μ 70 4) = (-1) then (bd (X11_look μ) fun v82 μ83 => if v82 = 121 then (X11_clause_J39 v3 μ83) else (bd (X11_bad μ83) fun v86 μ87 => X11_clause_J39 v3 μ87)) else (X11_clause_J39 v3 μ)
set_option maxHeartbeats 4000000 in
set_option maxRecDepth 100000 in
theorem kX11_clause_J250 (d : Nat) (hd : 271 ≤ d) {l1 : Int} {μ : Mm} {r : Int} {μ' : Mm} (h : X11_clause_J250 l1 μ = some (r, μ')) : VV d mX11_clause 250 [some (vR 70), some (vI l1), none] [] μ r μ' := by
  unfold X11_clause_J250 at h
  refine V_aload_n (q := 251) dX11_clause_250 rfl rfl rfl ?_
  refine V_getO (q := 254) (t := 78) fl_X11_31 rfl rfl rfl rfl dX11_clause_251 rfl ?_
  refine V_iload_n (q := 255) dX11_clause_254 rfl rfl rfl ?_
  refine V_aload_n (q := 256) dX11_clause_255 rfl rfl rfl ?_
  refine V_getO (q := 259) (t := 74) fl_X11_19 rfl rfl rfl rfl dX11_clause_256 rfl ?_
  refine V_aload_n (q := 260) dX11_clause_259 rfl rfl rfl ?_
  refine V_getI (q := 263) fl_X11_118 rfl rfl rfl dX11_clause_260 rfl ?_
  obtain ⟨hi29, h⟩ := ldA_i h
  refine V_iaload (q := 264) rfl hi29 dX11_clause_263 rfl ?_
  obtain ⟨hi31, h⟩ := stA_i h
  refine V_iastore (q := 265) rfl hi31 dX11_clause_264 rfl ?_
  refine V_aload_n (q := 266) dX11_clause_265 rfl rfl rfl ?_
  refine V_getO (q := 269) (t := 75) fl_X11_22 rfl rfl rfl rfl dX11_clause_266 rfl ?_
  refine V_aload_n (q := 270) dX11_clause_269 rfl rfl rfl ?_
  refine V_getI (q := 273) fl_X11_118 rfl rfl rfl dX11_clause_270 rfl ?_
  refine V_dup2 (q := 274) dX11_clause_273 trivial trivial rfl ?_
  obtain ⟨hi33, h⟩ := ldA_i h
  refine V_iaload (q := 275) rfl hi33 dX11_clause_274 rfl ?_
  refine V_iconst (q := 276) dX11_clause_275 rfl rfl ?_
  refine V_iadd (q := 277) dX11_clause_276 rfl ?_
  obtain ⟨hi35, h⟩ := stA_i h
  refine V_iastore (q := 278) rfl hi35 dX11_clause_277 rfl ?_
  exact V_vret rfl h dX11_clause_278
set_option maxHeartbeats 4000000 in
set_option maxRecDepth 100000 in
theorem kX11_clause_J183 (d : Nat) (hd : 271 ≤ d) {l1 : Int} {l2 : Int} {μ : Mm} {r : Int} {μ' : Mm} (h : X11_clause_J183 l1 l2 μ = some (r, μ')) : VV d mX11_clause 183 [some (vR 70), some (vI l1), some (vI l2)] [] μ r μ' := by
  unfold X11_clause_J183 at h
  refine V_aload_n (q := 184) dX11_clause_183 rfl rfl rfl ?_
  refine V_getO (q := 187) (t := 77) fl_X11_28 rfl rfl rfl rfl dX11_clause_184 rfl ?_
  refine V_iload_n (q := 188) dX11_clause_187 rfl rfl rfl ?_
  refine V_aload_n (q := 189) dX11_clause_188 rfl rfl rfl ?_
  refine V_getO (q := 192) (t := 76) fl_X11_25 rfl rfl rfl rfl dX11_clause_189 rfl ?_
  refine V_iload_n (q := 193) dX11_clause_192 rfl rfl rfl ?_
  obtain ⟨hi24, h⟩ := ldA_i h
  refine V_iaload (q := 194) rfl hi24 dX11_clause_193 rfl ?_
  obtain ⟨hi26, h⟩ := stA_i h
  refine V_iastore (q := 195) rfl hi26 dX11_clause_194 rfl ?_
  refine V_iload_n (q := 196) dX11_clause_195 rfl rfl rfl ?_
  refine V_ifeq (q := 250) (q2 := 199) dX11_clause_196 (by decide) rfl (fun hc27 => ?_) (fun hc27 => ?_)
  · have h := ifT hc27 h
    exact V_weak (kX11_clause_J250 d hd h) (sb_s rfl (sb_s rfl (sb_n sb_0)))
  · have h := ifF hc27 h
    refine V_aload_n (q := 200) dX11_clause_199 rfl rfl rfl ?_
    refine V_getI (q := 203) fl_X11_115 rfl rfl rfl dX11_clause_200 rfl ?_
    refine V_iconst (q := 204) dX11_clause_203 rfl rfl ?_
    refine V_icmpne (q := 250) (q2 := 207) dX11_clause_204 (by decide) rfl (fun hc36 => ?_) (fun hc36 => ?_)
    · have h := ifF hc36 h
      exact V_weak (kX11_clause_J250 d hd h) (sb_s rfl (sb_s rfl (sb_n sb_0)))
    · have h := ifT hc36 h
      refine V_aload_n (q := 208) dX11_clause_207 rfl rfl rfl ?_
      obtain ⟨v37, μ38, hc39, h⟩ := bd_i h
      refine V_cV1 (q := 211) (v := vI v37) (kX11_look (d - 1) (by omega) hc39) (by omega) mv_X11_127 rfl rfl rfl rfl rfl rfl dX11_clause_208 rfl ?_
      refine V_bipush (q := 213) dX11_clause_211 rfl rfl rfl ?_
      refine V_icmpeq (q := 221) (q2 := 216) dX11_clause_213 (by decide) rfl (fun hc40 => ?_) (fun hc40 => ?_)
      · have h := ifT hc40 h
        refine V_aload_n (q := 222) dX11_clause_221 rfl rfl rfl ?_
        refine V_dup (q := 223) dX11_clause_222 trivial rfl ?_
        refine V_getI (q := 226) fl_X11_108 rfl rfl rfl dX11_clause_223 rfl ?_
        refine V_iconst (q := 227) dX11_clause_226 rfl rfl ?_
        refine V_iadd (q := 228) dX11_clause_227 rfl ?_
        have h := sF_i h
        refine V_putI (q := 231) fl_X11_108 rfl rfl rfl dX11_clause_228 rfl ?_
        refine V_aload_n (q := 232) dX11_clause_231 rfl rfl rfl ?_
        refine V_getO (q := 235) (t := 77) fl_X11_28 rfl rfl rfl rfl dX11_clause_232 rfl ?_
        refine V_iload_n (q := 236) dX11_clause_235 rfl rfl rfl ?_
        refine V_aload_n (q := 237) dX11_clause_236 rfl rfl rfl ?_
        refine V_getO (q := 240) (t := 74) fl_X11_19 rfl rfl rfl rfl dX11_clause_237 rfl ?_
        refine V_aload_n (q := 241) dX11_clause_240 rfl rfl rfl ?_
        refine V_getI (q := 244) fl_X11_118 rfl rfl rfl dX11_clause_241 rfl ?_
        obtain ⟨hi43, h⟩ := ldA_i h
        refine V_iaload (q := 245) rfl hi43 dX11_clause_244 rfl ?_
        obtain ⟨hi45, h⟩ := stA_i h
        refine V_iastore (q := 246) rfl hi45 dX11_clause_245 rfl ?_
        refine V_aload_n (q := 247) dX11_clause_246 rfl rfl rfl ?_
        obtain ⟨v46, μ47, hc48, h⟩ := bd_i h
        refine V_cV0 (q := 250) (kX11_sum RD (d - 1) (by unfold RD; omega) hc48) (by omega) mv_X11_148 rfl rfl rfl rfl rfl rfl dX11_clause_247 rfl ?_
        exact V_weak (kX11_clause_J250 d hd h) (sb_s rfl (sb_s rfl (sb_n sb_0)))
      · have h := ifF hc40 h
        refine V_aload_n (q := 217) dX11_clause_216 rfl rfl rfl ?_
        obtain ⟨v49, μ50, hc51, h⟩ := bd_i h
        refine V_cV0 (q := 220) (kX11_bad (d - 1) (by omega) hc51) (by omega) mv_X11_124 rfl rfl rfl rfl rfl rfl dX11_clause_217 rfl ?_
        exact V_vret rfl h dX11_clause_220
set_option maxHeartbeats 4000000 in
set_option maxRecDepth 100000 in
theorem kX11_clause_J166 (d : Nat) (hd : 271 ≤ d) {l1 : Int} {s0 : Int} {μ : Mm} {r : Int} {μ' : Mm} (h : X11_clause_J166 l1 s0 μ = some (r, μ')) : VV d mX11_clause 166 [some (vR 70), some (vI l1), none] [vI s0] μ r μ' := by
  unfold X11_clause_J166 at h
  refine V_istore_n (q := 167) dX11_clause_166 rfl (Nat.le_of_ble_eq_true rfl) trivial rfl ?_
  refine V_iload_n (q := 168) dX11_clause_167 rfl rfl rfl ?_
  refine V_ifeq (q := 183) (q2 := 171) dX11_clause_168 (by decide) rfl (fun hc22 => ?_) (fun hc22 => ?_)
  · have h := ifT hc22 h
    exact V_weak (kX11_clause_J183 d hd h) (sb_s rfl (sb_s rfl (sb_s rfl sb_0)))
  · have h := ifF hc22 h
    refine V_aload_n (q := 172) dX11_clause_171 rfl rfl rfl ?_
    obtain ⟨v52, μ53, hc54, h⟩ := bd_i h
    refine V_cV0 (q := 175) (kX11_compare (d - 1) (by omega) hc54) (by omega) mv_X11_170 rfl rfl rfl rfl rfl rfl dX11_clause_172 rfl ?_
    refine V_aload_n (q := 176) dX11_clause_175 rfl rfl rfl ?_
    obtain ⟨v55, μ56, hc57, h⟩ := bd_i h
    refine V_cV0 (q := 179) (kX11_goOnAnd_c (d - 1) (by omega) hc57) (by omega) mv_X11_173 rfl rfl rfl rfl rfl rfl dX11_clause_176 rfl ?_
    refine V_aload_n (q := 180) dX11_clause_179 rfl rfl rfl ?_
    obtain ⟨v58, μ59, hc60, h⟩ := bd_i h
    refine V_cV0 (q := 183) (kX11_goOnOr_c (d - 1) (by omega) hc60) (by omega) mv_X11_176 rfl rfl rfl rfl rfl rfl dX11_clause_180 rfl ?_
    exact V_weak (kX11_clause_J183 d hd h) (sb_s rfl (sb_s rfl (sb_s rfl sb_0)))
set_option maxHeartbeats 4000000 in
set_option maxRecDepth 100000 in
theorem kX11_clause_J165 (d : Nat) (hd : 271 ≤ d) {l1 : Int} {μ : Mm} {r : Int} {μ' : Mm} (h : X11_clause_J165 l1 μ = some (r, μ')) : VV d mX11_clause 165 [some (vR 70), some (vI l1), none] [] μ r μ' := by
  unfold X11_clause_J165 at h
  refine V_iconst (q := 166) dX11_clause_165 rfl rfl ?_
  exact V_weak (kX11_clause_J166 d hd h) (sb_s rfl (sb_s rfl (sb_n sb_0)))
set_option maxHeartbeats 4000000 in
set_option maxRecDepth 100000 in
theorem kX11_clause_J127 (d : Nat) (hd : 271 ≤ d) {l1 : Int} {s0 : Int} {μ : Mm} {r : Int} {μ' : Mm} (h : X11_clause_J127 l1 s0 μ = some (r, μ')) : VV d mX11_clause 127 [some (vR 70), some (vI l1), none] [vI s0] μ r μ' := by
  unfold X11_clause_J127 at h
  refine V_istore_n (q := 128) dX11_clause_127 rfl (Nat.le_of_ble_eq_true rfl) trivial rfl ?_
  refine V_iload_n (q := 129) dX11_clause_128 rfl rfl rfl ?_
  refine V_ifeq (q := 139) (q2 := 132) dX11_clause_129 (by decide) rfl (fun hc17 => ?_) (fun hc17 => ?_)
  · have h := ifT hc17 h
    refine V_aload_n (q := 140) dX11_clause_139 rfl rfl rfl ?_
    obtain ⟨v18, μ19, hc20, h⟩ := bd_i h
    refine V_cV0 (q := 143) (kX11_sum RD (d - 1) (by unfold RD; omega) hc20) (by omega) mv_X11_148 rfl rfl rfl rfl rfl rfl dX11_clause_140 rfl ?_
    refine V_aload_n (q := 144) dX11_clause_143 rfl rfl rfl ?_
    refine V_getI (q := 147) fl_X11_115 rfl rfl rfl dX11_clause_144 rfl ?_
    refine V_iconst (q := 148) dX11_clause_147 rfl rfl ?_
    refine V_icmpne (q := 165) (q2 := 151) dX11_clause_148 (by decide) rfl (fun hc21 => ?_) (fun hc21 => ?_)
    · have h := ifF hc21 h
      exact V_weak (kX11_clause_J165 d hd h) (sb_s rfl (sb_s rfl (sb_n sb_0)))
    · have h := ifT hc21 h
      refine V_aload_n (q := 152) dX11_clause_151 rfl rfl rfl ?_
      obtain ⟨v61, μ62, hc63, h⟩ := bd_i h
      refine V_cV1 (q := 155) (v := vI v61) (kX11_look (d - 1) (by omega) hc63) (by omega) mv_X11_127 rfl rfl rfl rfl rfl rfl dX11_clause_152 rfl ?_
      obtain ⟨v64, μ65, hc66, h⟩ := bd_i h
      refine V_cS1 (q := 158) (v := vI v64) (kX11_isSign (d - 1) (by omega) hc66) (by omega) mv_X11_161 rfl rfl rfl rfl dX11_clause_155 rfl ?_
      refine V_ifeq (q := 165) (q2 := 161) dX11_clause_158 (by decide) rfl (fun hc67 => ?_) (fun hc67 => ?_)
      · have h := ifT hc67 h
        exact V_weak (kX11_clause_J165 d hd h) (sb_s rfl (sb_s rfl (sb_n sb_0)))
      · have h := ifF hc67 h
        refine V_iconst (q := 162) dX11_clause_161 rfl rfl ?_
        refine V_goto (q := 166) dX11_clause_162 (by decide) ?_
        exact V_weak (kX11_clause_J166 d hd h) (sb_s rfl (sb_s rfl (sb_n sb_0)))
  · have h := ifF hc17 h
    refine V_aload_n (q := 133) dX11_clause_132 rfl rfl rfl ?_
    obtain ⟨v68, μ69, hc70, h⟩ := bd_i h
    refine V_cV0 (q := 136) (kX11_condition_c (d - 1) (by omega) hc70) (by omega) mv_X11_167 rfl rfl rfl rfl rfl rfl dX11_clause_133 rfl ?_
    refine V_goto (q := 183) dX11_clause_136 (by decide) ?_
    exact V_weak (kX11_clause_J183 d hd h) (sb_s rfl (sb_s rfl (sb_s rfl sb_0)))
set_option maxHeartbeats 4000000 in
set_option maxRecDepth 100000 in
theorem kX11_clause_J122 (d : Nat) (hd : 271 ≤ d) {l1 : Int} {μ : Mm} {r : Int} {μ' : Mm} (h : X11_clause_J122 l1 μ = some (r, μ')) : VV d mX11_clause 122 [some (vR 70), some (vI l1), none] [] μ r μ' := by
  unfold X11_clause_J122 at h
  refine V_iconst (q := 123) dX11_clause_122 rfl rfl ?_
  refine V_goto (q := 127) dX11_clause_123 (by decide) ?_
  exact V_weak (kX11_clause_J127 d hd h) (sb_s rfl (sb_s rfl (sb_n sb_0)))
set_option maxHeartbeats 4000000 in
set_option maxRecDepth 100000 in
theorem kX11_clause_J70 (d : Nat) (hd : 271 ≤ d) {l1 : Int} {μ : Mm} {r : Int} {μ' : Mm} (h : X11_clause_J70 l1 μ = some (r, μ')) : VV d mX11_clause 70 [some (vR 70), some (vI l1), none] [] μ r μ' := by
  unfold X11_clause_J70 at h
  refine V_aload_n (q := 71) dX11_clause_70 rfl rfl rfl ?_
  refine V_dup (q := 72) dX11_clause_71 trivial rfl ?_
  refine V_getI (q := 75) fl_X11_108 rfl rfl rfl dX11_clause_72 rfl ?_
  refine V_iconst (q := 76) dX11_clause_75 rfl rfl ?_
  refine V_iadd (q := 77) dX11_clause_76 rfl ?_
  have h := sF_i h
  refine V_putI (q := 80) fl_X11_108 rfl rfl rfl dX11_clause_77 rfl ?_
  refine V_aload_n (q := 81) dX11_clause_80 rfl rfl rfl ?_
  refine V_getI (q := 84) fl_X11_115 rfl rfl rfl dX11_clause_81 rfl ?_
  refine V_iconst (q := 85) dX11_clause_84 rfl rfl ?_
  refine V_icmpeq (q := 89) (q2 := 88) dX11_clause_85 (by decide) rfl (fun hc8 => ?_) (fun hc8 => ?_)
  · have h := ifT hc8 h
    refine V_aload_n (q := 90) dX11_clause_89 rfl rfl rfl ?_
    refine V_getO (q := 93) (t := 76) fl_X11_25 rfl rfl rfl rfl dX11_clause_90 rfl ?_
    refine V_iload_n (q := 94) dX11_clause_93 rfl rfl rfl ?_
    refine V_aload_n (q := 95) dX11_clause_94 rfl rfl rfl ?_
    refine V_getO (q := 98) (t := 74) fl_X11_19 rfl rfl rfl rfl dX11_clause_95 rfl ?_
    refine V_aload_n (q := 99) dX11_clause_98 rfl rfl rfl ?_
    refine V_getI (q := 102) fl_X11_118 rfl rfl rfl dX11_clause_99 rfl ?_
    obtain ⟨hi10, h⟩ := ldA_i h
    refine V_iaload (q := 103) rfl hi10 dX11_clause_102 rfl ?_
    obtain ⟨hi12, h⟩ := stA_i h
    refine V_iastore (q := 104) rfl hi12 dX11_clause_103 rfl ?_
    refine V_aload_n (q := 105) dX11_clause_104 rfl rfl rfl ?_
    obtain ⟨v13, μ14, hc15, h⟩ := bd_i h
    refine V_cV1 (q := 108) (v := vI v13) (kX11_look (d - 1) (by omega) hc15) (by omega) mv_X11_127 rfl rfl rfl rfl rfl rfl dX11_clause_105 rfl ?_
    refine V_bipush (q := 110) dX11_clause_108 rfl rfl rfl ?_
    refine V_icmpeq (q := 122) (q2 := 113) dX11_clause_110 (by decide) rfl (fun hc16 => ?_) (fun hc16 => ?_)
    · have h := ifT hc16 h
      exact V_weak (kX11_clause_J122 d hd h) (sb_s rfl (sb_s rfl (sb_n sb_0)))
    · have h := ifF hc16 h
      refine V_aload_n (q := 114) dX11_clause_113 rfl rfl rfl ?_
      obtain ⟨v71, μ72, hc73, h⟩ := bd_i h
      refine V_cV1 (q := 117) (v := vI v71) (kX11_look (d - 1) (by omega) hc73) (by omega) mv_X11_127 rfl rfl rfl rfl rfl rfl dX11_clause_114 rfl ?_
      refine V_bipush (q := 119) dX11_clause_117 rfl rfl rfl ?_
      refine V_icmpne (q := 126) (q2 := 122) dX11_clause_119 (by decide) rfl (fun hc74 => ?_) (fun hc74 => ?_)
      · have h := ifF hc74 h
        refine V_iconst (q := 127) dX11_clause_126 rfl rfl ?_
        exact V_weak (kX11_clause_J127 d hd h) (sb_s rfl (sb_s rfl (sb_n sb_0)))
      · have h := ifT hc74 h
        exact V_weak (kX11_clause_J122 d hd h) (sb_s rfl (sb_s rfl (sb_n sb_0)))
  · have h := ifF hc8 h
    exact V_vret rfl h dX11_clause_88
set_option maxHeartbeats 4000000 in
set_option maxRecDepth 100000 in
theorem kX11_clause_J39 (d : Nat) (hd : 271 ≤ d) {l1 : Int} {μ : Mm} {r : Int} {μ' : Mm} (h : X11_clause_J39 l1 μ = some (r, μ')) : VV d mX11_clause 39 [some (vR 70), some (vI l1), none] [] μ r μ' := by
  unfold X11_clause_J39 at h
  refine V_aload_n (q := 40) dX11_clause_39 rfl rfl rfl ?_
  refine V_dup (q := 41) dX11_clause_40 trivial rfl ?_
  refine V_getI (q := 44) fl_X11_108 rfl rfl rfl dX11_clause_41 rfl ?_
  refine V_iconst (q := 45) dX11_clause_44 rfl rfl ?_
  refine V_iadd (q := 46) dX11_clause_45 rfl ?_
  have h := sF_i h
  refine V_putI (q := 49) fl_X11_108 rfl rfl rfl dX11_clause_46 rfl ?_
  refine V_aload_n (q := 50) dX11_clause_49 rfl rfl rfl ?_
  refine V_getI (q := 53) fl_X11_115 rfl rfl rfl dX11_clause_50 rfl ?_
  refine V_iconst (q := 54) dX11_clause_53 rfl rfl ?_
  refine V_icmpne (q := 70) (q2 := 57) dX11_clause_54 (by decide) rfl (fun hc6 => ?_) (fun hc6 => ?_)
  · have h := ifF hc6 h
    exact V_weak (kX11_clause_J70 d hd h) (sb_s rfl (sb_s rfl (sb_n sb_0)))
  · have h := ifT hc6 h
    refine V_aload_n (q := 58) dX11_clause_57 rfl rfl rfl ?_
    obtain ⟨v75, μ76, hc77, h⟩ := bd_i h
    refine V_cV1 (q := 61) (v := vI v75) (kX11_look (d - 1) (by omega) hc77) (by omega) mv_X11_127 rfl rfl rfl rfl rfl rfl dX11_clause_58 rfl ?_
    refine V_bipush (q := 63) dX11_clause_61 rfl rfl rfl ?_
    refine V_icmpeq (q := 70) (q2 := 66) dX11_clause_63 (by decide) rfl (fun hc78 => ?_) (fun hc78 => ?_)
    · have h := ifT hc78 h
      exact V_weak (kX11_clause_J70 d hd h) (sb_s rfl (sb_s rfl (sb_n sb_0)))
    · have h := ifF hc78 h
      refine V_aload_n (q := 67) dX11_clause_66 rfl rfl rfl ?_
      obtain ⟨v79, μ80, hc81, h⟩ := bd_i h
      refine V_cV0 (q := 70) (kX11_bad (d - 1) (by omega) hc81) (by omega) mv_X11_124 rfl rfl rfl rfl rfl rfl dX11_clause_67 rfl ?_
      exact V_weak (kX11_clause_J70 d hd h) (sb_s rfl (sb_s rfl (sb_n sb_0)))
set_option maxHeartbeats 4000000 in
set_option maxRecDepth 100000 in
theorem kX11_clause (d : Nat) (hd : 271 ≤ d) {μ : Mm} {r : Int} {μ' : Mm} (h : X11_clause μ = some (r, μ')) : CC d mX11_clause [vR 70] μ r μ' := by
  unfold X11_clause at h
  refine V_enter (by decide) (Nat.le_of_ble_eq_true rfl) ?_
  show VV d mX11_clause 0 [some (vR 70), none, none] [] μ r μ'
  refine V_bipush (q := 2) dX11_clause_0 rfl rfl rfl ?_
  refine V_aload_n (q := 3) dX11_clause_2 rfl rfl rfl ?_
  refine V_getI (q := 6) fl_X11_118 rfl rfl rfl dX11_clause_3 rfl ?_
  refine V_imul (q := 7) dX11_clause_6 rfl ?_
  refine V_aload_n (q := 8) dX11_clause_7 rfl rfl rfl ?_
  refine V_getO (q := 11) (t := 75) fl_X11_22 rfl rfl rfl rfl dX11_clause_8 rfl ?_
  refine V_aload_n (q := 12) dX11_clause_11 rfl rfl rfl ?_
  refine V_getI (q := 15) fl_X11_118 rfl rfl rfl dX11_clause_12 rfl ?_
  obtain ⟨hi2, h⟩ := ldA_i h
  refine V_iaload (q := 16) rfl hi2 dX11_clause_15 rfl ?_
  refine V_iadd (q := 17) dX11_clause_16 rfl ?_
  have h := lt_i h
  refine V_istore_n (q := 18) dX11_clause_17 rfl (Nat.le_of_ble_eq_true rfl) trivial rfl ?_
  refine V_aload_n (q := 19) dX11_clause_18 rfl rfl rfl ?_
  refine V_getI (q := 22) fl_X11_115 rfl rfl rfl dX11_clause_19 rfl ?_
  refine V_iconst (q := 23) dX11_clause_22 rfl rfl ?_
  refine V_icmpne (q := 39) (q2 := 26) dX11_clause_23 (by decide) rfl (fun hc4 => ?_) (fun hc4 => ?_)
  · have h := ifF hc4 h
    exact V_weak (kX11_clause_J39 d hd h) (sb_s rfl (sb_s rfl (sb_n sb_0)))
  · have h := ifT hc4 h
    refine V_aload_n (q := 27) dX11_clause_26 rfl rfl rfl ?_
    obtain ⟨v82, μ83, hc84, h⟩ := bd_i h
    refine V_cV1 (q := 30) (v := vI v82) (kX11_look (d - 1) (by omega) hc84) (by omega) mv_X11_127 rfl rfl rfl rfl rfl rfl dX11_clause_27 rfl ?_
    refine V_bipush (q := 32) dX11_clause_30 rfl rfl rfl ?_
    refine V_icmpeq (q := 39) (q2 := 35) dX11_clause_32 (by decide) rfl (fun hc85 => ?_) (fun hc85 => ?_)
    · have h := ifT hc85 h
      exact V_weak (kX11_clause_J39 d hd h) (sb_s rfl (sb_s rfl (sb_n sb_0)))
    · have h := ifF hc85 h
      refine V_aload_n (q := 36) dX11_clause_35 rfl rfl rfl ?_
      obtain ⟨v86, μ87, hc88, h⟩ := bd_i h
      refine V_cV0 (q := 39) (kX11_bad (d - 1) (by omega) hc88) (by omega) mv_X11_124 rfl rfl rfl rfl rfl rfl dX11_clause_36 rfl ?_
      exact V_weak (kX11_clause_J39 d hd h) (sb_s rfl (sb_s rfl (sb_n sb_0)))
