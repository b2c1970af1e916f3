abbrev mX11_bothNow : Mth := (yX11_bothNow, cX11_bothNow, 5, some .int)
theorem mi_X11_bothNow : Cond.instanceMethod yX11_bothNow ∈ tG ∧ Cond.selects yX11_bothNow.cls yX11_bothNow yX11_bothNow ∈ tG ∧ Cond.initialized yX11_bothNow.cls ∈ tG ∧ Cond.code yX11_bothNow cX11_bothNow 5 (some .int) ∈ tG ∧ (yX11_bothNow.cls ≠ "java/lang/invoke/MethodHandle" ∧ yX11_bothNow.cls ≠ "java/lang/invoke/VarHandle" ∧ (parseMethodDescriptor yX11_bothNow.desc).map (fun d => d.parameters.length) = some 2) ∧ 5 ≤ 60 := ⟨(tG_of (List.mem_of_getElem? (i := 1654) (by decide +kernel)) (by decide +kernel)), (tG_of (List.mem_of_getElem? (i := 94) (by decide +kernel)) (by decide +kernel)), (tG_of (List.mem_of_getElem? (i := 112) (by decide +kernel)) (by decide +kernel)), (tG_of (List.mem_of_getElem? (i := 1655) (by decide +kernel)) (by decide +kernel)), ⟨by decide, by decide, by decide +kernel⟩, by decide⟩
theorem mv_X11_369 : mV RX11 369 mX11_bothNow 2 := ⟨(tG_of (List.mem_of_getElem? (i := 1652) (by decide +kernel)) (by decide +kernel)), mi_X11_bothNow⟩
theorem dX11_bothNow_0 : decode cX11_bothNow 0 = .ok (.aload_n 0, 1) := by decide +kernel
theorem dX11_bothNow_1 : decode cX11_bothNow 1 = .ok (.iload_n 1, 1) := by decide +kernel
theorem dX11_bothNow_2 : decode cX11_bothNow 2 = .ok (.invokevirtual 366, 3) := by decide +kernel
theorem dX11_bothNow_5 : decode cX11_bothNow 5 = .ok (.istore_n 3, 1) := by decide +kernel
theorem dX11_bothNow_6 : decode cX11_bothNow 6 = .ok (.aload_n 0, 1) := by decide +kernel
theorem dX11_bothNow_7 : decode cX11_bothNow 7 = .ok (.iload_n 2, 1) := by decide +kernel
theorem dX11_bothNow_8 : decode cX11_bothNow 8 = .ok (.invokevirtual 366, 3) := by decide +kernel
theorem dX11_bothNow_11 : decode cX11_bothNow 11 = .ok (.istore 4, 2) := by decide +kernel
theorem dX11_bothNow_13 : decode cX11_bothNow 13 = .ok (.iload_n 3, 1) := by decide +kernel
theorem dX11_bothNow_14 : decode cX11_bothNow 14 = .ok (.iconst (-1), 1) := by decide +kernel
theorem dX11_bothNow_15 : decode cX11_bothNow 15 = .ok (.if_icmp .eq 9, 3) := by decide +kernel
theorem dX11_bothNow_18 : decode cX11_bothNow 18 = .ok (.iload 4, 2) := by decide +kernel
theorem dX11_bothNow_20 : decode cX11_bothNow 20 = .ok (.iconst (-1), 1) := by decide +kernel
theorem dX11_bothNow_21 : decode cX11_bothNow 21 = .ok (.if_icmp .ne 7, 3) := by decide +kernel
theorem dX11_bothNow_24 : decode cX11_bothNow 24 = .ok (.iconst (-1), 1) := by decide +kernel
theorem dX11_bothNow_25 : decode cX11_bothNow 25 = .ok (.goto 7, 3) := by decide +kernel
theorem dX11_bothNow_28 : decode cX11_bothNow 28 = .ok (.iload_n 3, 1) := by decide +kernel
theorem dX11_bothNow_29 : decode cX11_bothNow 29 = .ok (.iload 4, 2) := by decide +kernel
theorem dX11_bothNow_31 : decode cX11_bothNow 31 = .ok (.iadd, 1) := by decide +kernel
theorem dX11_bothNow_32 : decode cX11_bothNow 32 = .ok (.ireturn, 1) := by decide +kernel
def X11_bothNow (l1 : Int) (l2 : Int) (μ : Mm) : Rs := bd (X11_leastNow l1 μ) fun v1 μ2 => bd (X11_leastNow l2 μ2) fun v4 μ5 => if v1 = (-1) then (some ((-1), μ5)) else (if v4 = (-1) then (some ((-1), μ5)) else (some (iA v1 v4, μ5)))
set_option maxHeartbeats 4000000 in
set_option maxRecDepth 100000 in
theorem kX11_bothNow (d : Nat) (hd : 135 ≤ d) {l1 : Int} {l2 : Int} {μ : Mm} {r : Int} {μ' : Mm} (h : X11_bothNow l1 l2 μ = some (r, μ')) : CC d mX11_bothNow [vR 70, vI l1, vI l2] μ r μ' := by
  unfold X11_bothNow at h
  refine V_enter (by decide) (Nat.le_of_ble_eq_true rfl) ?_
  show VV d mX11_bothNow 0 [some (vR 70), some (vI l1), some (vI l2), none, none] [] μ r μ'
  refine V_aload_n (q := 1) dX11_bothNow_0 rfl rfl rfl ?_
  refine V_iload_n (q := 2) dX11_bothNow_1 rfl rfl rfl ?_
  obtain ⟨v1, μ2, hc3, h⟩ := bd_i h
  refine V_cV1 (q := 5) (v := vI v1) (kX11_leastNow (d - 1) (by omega) hc3) (by omega) mv_X11_366 rfl rfl rfl rfl rfl rfl dX11_bothNow_2 rfl ?_
  refine V_istore_n (q := 6) dX11_bothNow_5 rfl (Nat.le_of_ble_eq_true rfl) trivial rfl ?_
  refine V_aload_n (q := 7) dX11_bothNow_6 rfl rfl rfl ?_
  refine V_iload_n (q := 8) dX11_bothNow_7 rfl rfl rfl ?_
  obtain ⟨v4, μ5, hc6, h⟩ := bd_i h
  refine V_cV1 (q := 11) (v := vI v4) (kX11_leastNow (d - 1) (by omega) hc6) (by omega) mv_X11_366 rfl rfl rfl rfl rfl rfl dX11_bothNow_8 rfl ?_
  refine V_istore (q := 13) dX11_bothNow_11 (Nat.le_of_ble_eq_true rfl) trivial rfl ?_
  refine V_iload_n (q := 14) dX11_bothNow_13 rfl rfl rfl ?_
  refine V_iconst (q := 15) dX11_bothNow_14 rfl rfl ?_
  refine V_icmpeq (q := 24) (q2 := 18) dX11_bothNow_15 (by decide) rfl (fun hc7 => ?_) (fun hc7 => ?_)
  · have h := ifT hc7 h
    refine V_iconst (q := 25) dX11_bothNow_24 rfl rfl ?_
    refine V_goto (q := 32) dX11_bothNow_25 (by decide) ?_
    exact V_iret rfl h dX11_bothNow_32
  · have h := ifF hc7 h
    refine V_iload (q := 20) dX11_bothNow_18 rfl rfl ?_
    refine V_iconst (q := 21) dX11_bothNow_20 rfl rfl ?_
    refine V_icmpne (q := 28) (q2 := 24) dX11_bothNow_21 (by decide) rfl (fun hc8 => ?_) (fun hc8 => ?_)
    · have h := ifF hc8 h
      refine V_iload_n (q := 29) dX11_bothNow_28 rfl rfl rfl ?_
      refine V_iload (q := 31) dX11_bothNow_29 rfl rfl ?_
      refine V_iadd (q := 32) dX11_bothNow_31 rfl ?_
      exact V_iret rfl h dX11_bothNow_32
    · have h := ifT hc8 h
      refine V_iconst (q := 25) dX11_bothNow_24 rfl rfl ?_
      refine V_goto (q := 32) dX11_bothNow_25 (by decide) ?_
      exact V_iret rfl h dX11_bothNow_32
abbrev mX11_exchange : Mth := (yX11_exchange, cX11_exchange, 9, some .int)
theorem mi_X11_exchange : Cond.instanceMethod yX11_exchange ∈ tG ∧ Cond.selects yX11_exchange.cls yX11_exchange yX11_exchange ∈ tG ∧ Cond.initialized yX11_exchange.cls ∈ tG ∧ Cond.code yX11_exchange cX11_exchange 9 (some .int) ∈ tG ∧ (yX11_exchange.cls ≠ "java/lang/invoke/MethodHandle" ∧ yX11_exchange.cls ≠ "java/lang/invoke/VarHandle" ∧ (parseMethodDescriptor yX11_exchange.desc).map (fun d => d.parameters.length) = some 3) ∧ 9 ≤ 60 := ⟨(tG_of (List.mem_of_getElem? (i := 1649) (by decide +kernel)) (by decide +kernel)), (tG_of (List.mem_of_getElem? (i := 1650) (by decide +kernel)) (by decide +kernel)), (tG_of (List.mem_of_getElem? (i := 112) (by decide +kernel)) (by decide +kernel)), (tG_of (List.mem_of_getElem? (i := 1651) (by decide +kernel)) (by decide +kernel)), ⟨by decide, by decide, by decide +kernel⟩, by decide⟩
theorem dX11_exchange_0 : decode cX11_exchange 0 = .ok (.aload_n 0, 1) := by decide +kernel
theorem dX11_exchange_1 : decode cX11_exchange 1 = .ok (.iload_n 1, 1) := by decide +kernel
theorem dX11_exchange_2 : decode cX11_exchange 2 = .ok (.invokevirtual 335, 3) := by decide +kernel
theorem dX11_exchange_5 : decode cX11_exchange 5 = .ok (.ifCond .eq 25, 3) := by decide +kernel
theorem dX11_exchange_8 : decode cX11_exchange 8 = .ok (.aload_n 0, 1) := by decide +kernel
theorem dX11_exchange_9 : decode cX11_exchange 9 = .ok (.iload_n 2, 1) := by decide +kernel
theorem dX11_exchange_10 : decode cX11_exchange 10 = .ok (.invokevirtual 335, 3) := by decide +kernel
theorem dX11_exchange_13 : decode cX11_exchange 13 = .ok (.ifCond .eq 17, 3) := by decide +kernel
theorem dX11_exchange_16 : decode cX11_exchange 16 = .ok (.iload_n 1, 1) := by decide +kernel
theorem dX11_exchange_17 : decode cX11_exchange 17 = .ok (.iload_n 2, 1) := by decide +kernel
theorem dX11_exchange_18 : decode cX11_exchange 18 = .ok (.if_icmp .eq 12, 3) := by decide +kernel
theorem dX11_exchange_21 : decode cX11_exchange 21 = .ok (.iload_n 3, 1) := by decide +kernel
theorem dX11_exchange_22 : decode cX11_exchange 22 = .ok (.iconst 0, 1) := by decide +kernel
theorem dX11_exchange_23 : decode cX11_exchange 23 = .ok (.iconst 1, 1) := by decide +kernel
theorem dX11_exchange_24 : decode cX11_exchange 24 = .ok (.invokestatic 213, 3) := by decide +kernel
theorem dX11_exchange_27 : decode cX11_exchange 27 = .ok (.ifCond .ne 5, 3) := by decide +kernel
theorem dX11_exchange_30 : decode cX11_exchange 30 = .ok (.iconst (-1), 1) := by decide +kernel
theorem dX11_exchange_31 : decode cX11_exchange 31 = .ok (.ireturn, 1) := by decide +kernel
theorem dX11_exchange_32 : decode cX11_exchange 32 = .ok (.iconst 0, 1) := by decide +kernel
theorem dX11_exchange_33 : decode cX11_exchange 33 = .ok (.istore 4, 2) := by decide +kernel
theorem dX11_exchange_35 : decode cX11_exchange 35 = .ok (.aload_n 0, 1) := by decide +kernel
theorem dX11_exchange_36 : decode cX11_exchange 36 = .ok (.iload_n 1, 1) := by decide +kernel
theorem dX11_exchange_37 : decode cX11_exchange 37 = .ok (.iload_n 2, 1) := by decide +kernel
theorem dX11_exchange_38 : decode cX11_exchange 38 = .ok (.invokevirtual 369, 3) := by decide +kernel
theorem dX11_exchange_41 : decode cX11_exchange 41 = .ok (.istore 5, 2) := by decide +kernel
theorem dX11_exchange_43 : decode cX11_exchange 43 = .ok (.iconst 0, 1) := by decide +kernel
theorem dX11_exchange_44 : decode cX11_exchange 44 = .ok (.istore 6, 2) := by decide +kernel
theorem dX11_exchange_46 : decode cX11_exchange 46 = .ok (.iload 6, 2) := by decide +kernel
theorem dX11_exchange_48 : decode cX11_exchange 48 = .ok (.bipush 8, 2) := by decide +kernel
theorem dX11_exchange_50 : decode cX11_exchange 50 = .ok (.if_icmp .ge 103, 3) := by decide +kernel
theorem dX11_exchange_53 : decode cX11_exchange 53 = .ok (.iload 6, 2) := by decide +kernel
theorem dX11_exchange_55 : decode cX11_exchange 55 = .ok (.iconst 1, 1) := by decide +kernel
theorem dX11_exchange_56 : decode cX11_exchange 56 = .ok (.iadd, 1) := by decide +kernel
theorem dX11_exchange_57 : decode cX11_exchange 57 = .ok (.istore 7, 2) := by decide +kernel
theorem dX11_exchange_59 : decode cX11_exchange 59 = .ok (.iload 7, 2) := by decide +kernel
theorem dX11_exchange_61 : decode cX11_exchange 61 = .ok (.bipush 8, 2) := by decide +kernel
theorem dX11_exchange_63 : decode cX11_exchange 63 = .ok (.if_icmp .ge 84, 3) := by decide +kernel
theorem dX11_exchange_66 : decode cX11_exchange 66 = .ok (.aload_n 0, 1) := by decide +kernel
theorem dX11_exchange_67 : decode cX11_exchange 67 = .ok (.iload 6, 2) := by decide +kernel
theorem dX11_exchange_69 : decode cX11_exchange 69 = .ok (.invokevirtual 284, 3) := by decide +kernel
theorem dX11_exchange_72 : decode cX11_exchange 72 = .ok (.ifCond .eq 69, 3) := by decide +kernel
theorem dX11_exchange_75 : decode cX11_exchange 75 = .ok (.aload_n 0, 1) := by decide +kernel
theorem dX11_exchange_76 : decode cX11_exchange 76 = .ok (.iload 7, 2) := by decide +kernel
theorem dX11_exchange_78 : decode cX11_exchange 78 = .ok (.invokevirtual 284, 3) := by decide +kernel
theorem dX11_exchange_81 : decode cX11_exchange 81 = .ok (.ifCond .eq 60, 3) := by decide +kernel
theorem dX11_exchange_84 : decode cX11_exchange 84 = .ok (.aload_n 0, 1) := by decide +kernel
theorem dX11_exchange_85 : decode cX11_exchange 85 = .ok (.iload 6, 2) := by decide +kernel
theorem dX11_exchange_87 : decode cX11_exchange 87 = .ok (.iload 7, 2) := by decide +kernel
theorem dX11_exchange_89 : decode cX11_exchange 89 = .ok (.invokevirtual 313, 3) := by decide +kernel
theorem dX11_exchange_92 : decode cX11_exchange 92 = .ok (.aload_n 0, 1) := by decide +kernel
theorem dX11_exchange_93 : decode cX11_exchange 93 = .ok (.iload_n 1, 1) := by decide +kernel
theorem dX11_exchange_94 : decode cX11_exchange 94 = .ok (.iload_n 2, 1) := by decide +kernel
theorem dX11_exchange_95 : decode cX11_exchange 95 = .ok (.invokevirtual 369, 3) := by decide +kernel
theorem dX11_exchange_98 : decode cX11_exchange 98 = .ok (.istore 8, 2) := by decide +kernel
theorem dX11_exchange_100 : decode cX11_exchange 100 = .ok (.aload_n 0, 1) := by decide +kernel
theorem dX11_exchange_101 : decode cX11_exchange 101 = .ok (.iload 6, 2) := by decide +kernel
theorem dX11_exchange_103 : decode cX11_exchange 103 = .ok (.iload 7, 2) := by decide +kernel
theorem dX11_exchange_105 : decode cX11_exchange 105 = .ok (.invokevirtual 313, 3) := by decide +kernel
theorem dX11_exchange_108 : decode cX11_exchange 108 = .ok (.iload 8, 2) := by decide +kernel
theorem dX11_exchange_110 : decode cX11_exchange 110 = .ok (.iconst (-1), 1) := by decide +kernel
theorem dX11_exchange_111 : decode cX11_exchange 111 = .ok (.if_icmp .eq 30, 3) := by decide +kernel
theorem dX11_exchange_114 : decode cX11_exchange 114 = .ok (.iload 5, 2) := by decide +kernel
theorem dX11_exchange_116 : decode cX11_exchange 116 = .ok (.iconst (-1), 1) := by decide +kernel
theorem dX11_exchange_117 : decode cX11_exchange 117 = .ok (.if_icmp .eq 10, 3) := by decide +kernel
theorem dX11_exchange_120 : decode cX11_exchange 120 = .ok (.iload 8, 2) := by decide +kernel
theorem dX11_exchange_122 : decode cX11_exchange 122 = .ok (.iload 5, 2) := by decide +kernel
theorem dX11_exchange_124 : decode cX11_exchange 124 = .ok (.if_icmp .ge 17, 3) := by decide +kernel
theorem dX11_exchange_127 : decode cX11_exchange 127 = .ok (.bipush 10, 2) := by decide +kernel
theorem dX11_exchange_129 : decode cX11_exchange 129 = .ok (.iload 6, 2) := by decide +kernel
theorem dX11_exchange_131 : decode cX11_exchange 131 = .ok (.imul, 1) := by decide +kernel
theorem dX11_exchange_132 : decode cX11_exchange 132 = .ok (.iload 7, 2) := by decide +kernel
theorem dX11_exchange_134 : decode cX11_exchange 134 = .ok (.iadd, 1) := by decide +kernel
theorem dX11_exchange_135 : decode cX11_exchange 135 = .ok (.istore 4, 2) := by decide +kernel
theorem dX11_exchange_137 : decode cX11_exchange 137 = .ok (.iload 8, 2) := by decide +kernel
theorem dX11_exchange_139 : decode cX11_exchange 139 = .ok (.istore 5, 2) := by decide +kernel
theorem dX11_exchange_141 : decode cX11_exchange 141 = .ok (.iinc 7 1, 3) := by decide +kernel
theorem dX11_exchange_144 : decode cX11_exchange 144 = .ok (.goto (-85), 3) := by decide +kernel
theorem dX11_exchange_147 : decode cX11_exchange 147 = .ok (.iinc 6 1, 3) := by decide +kernel
theorem dX11_exchange_150 : decode cX11_exchange 150 = .ok (.goto (-104), 3) := by decide +kernel
theorem dX11_exchange_153 : decode cX11_exchange 153 = .ok (.iload 5, 2) := by decide +kernel
theorem dX11_exchange_155 : decode cX11_exchange 155 = .ok (.iconst (-1), 1) := by decide +kernel
theorem dX11_exchange_156 : decode cX11_exchange 156 = .ok (.if_icmp .ne 7, 3) := by decide +kernel
theorem dX11_exchange_159 : decode cX11_exchange 159 = .ok (.iconst (-1), 1) := by decide +kernel
theorem dX11_exchange_160 : decode cX11_exchange 160 = .ok (.goto 14, 3) := by decide +kernel
theorem dX11_exchange_163 : decode cX11_exchange 163 = .ok (.iload_n 3, 1) := by decide +kernel
theorem dX11_exchange_164 : decode cX11_exchange 164 = .ok (.ifCond .ne 8, 3) := by decide +kernel
theorem dX11_exchange_167 : decode cX11_exchange 167 = .ok (.iload 4, 2) := by decide +kernel
theorem dX11_exchange_169 : decode cX11_exchange 169 = .ok (.goto 5, 3) := by decide +kernel
theorem dX11_exchange_172 : decode cX11_exchange 172 = .ok (.iload 5, 2) := by decide +kernel
theorem dX11_exchange_174 : decode cX11_exchange 174 = .ok (.ireturn, 1) := by decide +kernel
def X11_exchange_J127 (k59 : Int → Int → Int → Mm → Rs) (l1 : Int) (l2 : Int) (l3 : Int) (l6 : Int) (l7 : Int) (l8 : Int) (μ : Mm) : Rs := lt_ (iA (iM 10 l6) l7) fun v38 => k59 v38 l8 (iA l7 1) μ
def X11_exchange_L59 (l1 : Int) (l2 : Int) (l3 : Int) (l6 : Int) (k147 : Int → Int → Mm → Rs) : Nat → Int → Int → Int → Mm → Rs
  | 0, _, _, _, _ => none
  | n + 1, l4, l5, l7, μ => if 8 ≤ l7 then (k147 l4 l5 μ) else (bd (X11_isCrank l6 μ) fun v19 μ20 => if v19 = 0 then (X11_exchange_L59 l1 l2 l3 l6 k147 n l4 l5 (iA l7 1) μ20) else (bd (X11_isCrank l7 μ20) fun v23 μ24 => if v23 = 0 then (X11_exchange_L59 l1 l2 l3 l6 k147 n l4 l5 (iA l7 1) μ24) else (bd (X11_change l6 l7 μ24) fun v27 μ28 => bd (X11_bothNow l1 l2 μ28) fun v30 μ31 => bd (X11_change l6 l7 μ31) fun v33 μ34 => if v30 = (-1) then (X11_exchange_L59 l1 l2 l3 l6 k147 n l4 l5 (iA l7 1) μ34) else (if l5 = (-1) then (X11_exchange_J127 (fun w4 w5 w7 μq => X11_exchange_L59 l1 l2 l3 l6 k147 n w4 w5 w7 μq) l1 l2 l3 l6 l7 v30 μ34) else (if l5 ≤ v30 then (X11_exchange_L59 l1 l2 l3 l6 k147 n l4 l5 (iA l7 1) μ34) else (X11_exchange_J127 (fun w4 w5 w7 μq => X11_exchange_L59 l1 l2 l3 l6 k147 n w4 w5 w7 μq) l1 l2 l3 l6 l7 v30 μ34))))))
def X11_exchange_L46 (l1 : Int) (l2 : Int) (l3 : Int) (k153 : Int → Int → Mm → Rs) : Nat → Int → Int → Int → Mm → Rs
  | 0, _, _, _, _ => none
  | n + 1, l4, l5, l6, μ => if 8 ≤ l6 then (k153 l4 l5 μ) else (X11_exchange_L59 l1 l2 l3 l6 (fun v40 v41 μ42 => X11_exchange_L46 l1 l2 l3 k153 n v40 v41 (iA l6 1) μ42) FU l4 l5 (iA l6 1) μ)
def X11_exchange (l1 : Int) (l2 : Int) (l3 : Int) (μ : Mm) : Rs := bd (X11_isReady l1 μ) fun v1 μ2 => if v1 = 0 then (some ((-1), μ2)) else (bd (X11_isReady l2 μ2) fun v5 μ6 => if v5 = 0 then (some ((-1), μ6)) else (if l1 = l2 then (some ((-1), μ6)) else (bd (X11_in l3 0 1 μ6) fun v10 μ11 => if v10 = 0 then (some ((-1), μ11)) else (bd (X11_bothNow l1 l2 μ11) fun v14 μ15 => X11_exchange_L46 l1 l2 l3 (fun v43 v44 μ45 => if v44 = (-1) then (some ((-1), μ45)) else (if l3 = 0 then (some (v43, μ45)) else (some (v44, μ45)))) FU 0 v14 0 μ15))))
set_option maxHeartbeats 4000000 in
set_option maxRecDepth 100000 in
theorem kX11_exchange_J127 (d : Nat) (hd : 136 ≤ d) {k59 : Int → Int → Int → Mm → Rs} {l1 : Int} {l2 : Int} {l3 : Int} {l6 : Int} {l7 : Int} {l8 : Int} {μ : Mm} {r : Int} {μ' : Mm} (hk_59 : ∀ (v4 v5 v7 : Int) (μ1 : Mm), k59 v4 v5 v7 μ1 = some (r, μ') → VV d mX11_exchange 59 [some (vR 70), some (vI l1), some (vI l2), some (vI l3), some (vI v4), some (vI v5), some (vI l6), some (vI v7), none] [] μ1 r μ') (h : X11_exchange_J127 k59 l1 l2 l3 l6 l7 l8 μ = some (r, μ')) : VV d mX11_exchange 127 [some (vR 70), some (vI l1), some (vI l2), some (vI l3), none, none, some (vI l6), some (vI l7), some (vI l8)] [] μ r μ' := by
  unfold X11_exchange_J127 at h
  refine V_bipush (q := 129) dX11_exchange_127 rfl rfl rfl ?_
  refine V_iload (q := 131) dX11_exchange_129 rfl rfl ?_
  refine V_imul (q := 132) dX11_exchange_131 rfl ?_
  refine V_iload (q := 134) dX11_exchange_132 rfl rfl ?_
  refine V_iadd (q := 135) dX11_exchange_134 rfl ?_
  have h := lt_i h
  refine V_istore (q := 137) dX11_exchange_135 (Nat.le_of_ble_eq_true rfl) trivial rfl ?_
  refine V_iload (q := 139) dX11_exchange_137 rfl rfl ?_
  refine V_istore (q := 141) dX11_exchange_139 (Nat.le_of_ble_eq_true rfl) trivial rfl ?_
  refine V_iinc (q := 144) dX11_exchange_141 rfl (Nat.le_of_ble_eq_true rfl) trivial rfl ?_
  refine V_goto (q := 59) dX11_exchange_144 (by decide) ?_
  exact V_weak (hk_59 _ _ _ _ h) (sb_s rfl (sb_s rfl (sb_s rfl (sb_s rfl (sb_s rfl (sb_s rfl (sb_s rfl (sb_s rfl (sb_n sb_0)))))))))
set_option maxHeartbeats 4000000 in
set_option maxRecDepth 100000 in
theorem kX11_exchange_L59 (d : Nat) (hd : 136 ≤ d) {l1 : Int} {l2 : Int} {l3 : Int} {l6 : Int} {k147 : Int → Int → Mm → Rs} {r : Int} {μ' : Mm} (hk_147 : ∀ (v4 v5 : Int) (μ1 : Mm), k147 v4 v5 μ1 = some (r, μ') → VV d mX11_exchange 147 [some (vR 70), some (vI l1), some (vI l2), some (vI l3), some (vI v4), some (vI v5), some (vI l6), none, none] [] μ1 r μ') : ∀ (n : Nat) {l4 l5 l7 : Int} {μ : Mm}, X11_exchange_L59 l1 l2 l3 l6 k147 n l4 l5 l7 μ = some (r, μ') → VV d mX11_exchange 59 [some (vR 70), some (vI l1), some (vI l2), some (vI l3), some (vI l4), some (vI l5), some (vI l6), some (vI l7), none] [] μ r μ' := by
  intro n
  induction n with
  | zero => intro l4 l5 l7 μ h; rw [X11_exchange_L59] at h; cases h
  | succ n ih =>
    intro l4 l5 l7 μ h
    rw [X11_exchange_L59] at h
    refine V_iload (q := 61) dX11_exchange_59 rfl rfl ?_
    refine V_bipush (q := 63) dX11_exchange_61 rfl rfl rfl ?_
    refine V_icmpge (q := 147) (q2 := 66) dX11_exchange_63 (by decide) rfl (fun hc18 => ?_) (fun hc18 => ?_)
    · have h := ifT hc18 h
      exact V_weak (hk_147 _ _ _ h) (sb_s rfl (sb_s rfl (sb_s rfl (sb_s rfl (sb_s rfl (sb_s rfl (sb_s rfl (sb_n (sb_n sb_0)))))))))
    · have h := ifF hc18 h
      refine V_aload_n (q := 67) dX11_exchange_66 rfl rfl rfl ?_
      refine V_iload (q := 69) dX11_exchange_67 rfl rfl ?_
      obtain ⟨v19, μ20, hc21, h⟩ := bd_i h
      refine V_cV1 (q := 72) (v := vI v19) (kX11_isCrank (d - 1) (by omega) hc21) (by omega) mv_X11_284 rfl rfl rfl rfl rfl rfl dX11_exchange_69 rfl ?_
      refine V_ifeq (q := 141) (q2 := 75) dX11_exchange_72 (by decide) rfl (fun hc22 => ?_) (fun hc22 => ?_)
      · have h := ifT hc22 h
        refine V_iinc (q := 144) dX11_exchange_141 rfl (Nat.le_of_ble_eq_true rfl) trivial rfl ?_
        refine V_goto (q := 59) dX11_exchange_144 (by decide) ?_
        exact V_weak (ih h) (sb_s rfl (sb_s rfl (sb_s rfl (sb_s rfl (sb_s rfl (sb_s rfl (sb_s rfl (sb_s rfl (sb_n sb_0)))))))))
      · have h := ifF hc22 h
        refine V_aload_n (q := 76) dX11_exchange_75 rfl rfl rfl ?_
        refine V_iload (q := 78) dX11_exchange_76 rfl rfl ?_
        obtain ⟨v23, μ24, hc25, h⟩ := bd_i h
        refine V_cV1 (q := 81) (v := vI v23) (kX11_isCrank (d - 1) (by omega) hc25) (by omega) mv_X11_284 rfl rfl rfl rfl rfl rfl dX11_exchange_78 rfl ?_
        refine V_ifeq (q := 141) (q2 := 84) dX11_exchange_81 (by decide) rfl (fun hc26 => ?_) (fun hc26 => ?_)
        · have h := ifT hc26 h
          refine V_iinc (q := 144) dX11_exchange_141 rfl (Nat.le_of_ble_eq_true rfl) trivial rfl ?_
          refine V_goto (q := 59) dX11_exchange_144 (by decide) ?_
          exact V_weak (ih h) (sb_s rfl (sb_s rfl (sb_s rfl (sb_s rfl (sb_s rfl (sb_s rfl (sb_s rfl (sb_s rfl (sb_n sb_0)))))))))
        · have h := ifF hc26 h
          refine V_aload_n (q := 85) dX11_exchange_84 rfl rfl rfl ?_
          refine V_iload (q := 87) dX11_exchange_85 rfl rfl ?_
          refine V_iload (q := 89) dX11_exchange_87 rfl rfl ?_
          obtain ⟨v27, μ28, hc29, h⟩ := bd_i h
          refine V_cV0 (q := 92) (kX11_change (d - 1) (by omega) hc29) (by omega) mv_X11_313 rfl rfl rfl rfl rfl rfl dX11_exchange_89 rfl ?_
          refine V_aload_n (q := 93) dX11_exchange_92 rfl rfl rfl ?_
          refine V_iload_n (q := 94) dX11_exchange_93 rfl rfl rfl ?_
          refine V_iload_n (q := 95) dX11_exchange_94 rfl rfl rfl ?_
          obtain ⟨v30, μ31, hc32, h⟩ := bd_i h
          refine V_cV1 (q := 98) (v := vI v30) (kX11_bothNow (d - 1) (by omega) hc32) (by omega) mv_X11_369 rfl rfl rfl rfl rfl rfl dX11_exchange_95 rfl ?_
          refine V_istore (q := 100) dX11_exchange_98 (Nat.le_of_ble_eq_true rfl) trivial rfl ?_
          refine V_aload_n (q := 101) dX11_exchange_100 rfl rfl rfl ?_
          refine V_iload (q := 103) dX11_exchange_101 rfl rfl ?_
          refine V_iload (q := 105) dX11_exchange_103 rfl rfl ?_
          obtain ⟨v33, μ34, hc35, h⟩ := bd_i h
          refine V_cV0 (q := 108) (kX11_change (d - 1) (by omega) hc35) (by omega) mv_X11_313 rfl rfl rfl rfl rfl rfl dX11_exchange_105 rfl ?_
          refine V_iload (q := 110) dX11_exchange_108 rfl rfl ?_
          refine V_iconst (q := 111) dX11_exchange_110 rfl rfl ?_
          refine V_icmpeq (q := 141) (q2 := 114) dX11_exchange_111 (by decide) rfl (fun hc36 => ?_) (fun hc36 => ?_)
          · have h := ifT hc36 h
            refine V_iinc (q := 144) dX11_exchange_141 rfl (Nat.le_of_ble_eq_true rfl) trivial rfl ?_
            refine V_goto (q := 59) dX11_exchange_144 (by decide) ?_
            exact V_weak (ih h) (sb_s rfl (sb_s rfl (sb_s rfl (sb_s rfl (sb_s rfl (sb_s rfl (sb_s rfl (sb_s rfl (sb_n sb_0)))))))))
          · have h := ifF hc36 h
            refine V_iload (q := 116) dX11_exchange_114 rfl rfl ?_
            refine V_iconst (q := 117) dX11_exchange_116 rfl rfl ?_
            refine V_icmpeq (q := 127) (q2 := 120) dX11_exchange_117 (by decide) rfl (fun hc37 => ?_) (fun hc37 => ?_)
            · have h := ifT hc37 h
              exact V_weak (kX11_exchange_J127 d hd (fun _ _ _ _ h => ih h) h) (sb_s rfl (sb_s rfl (sb_s rfl (sb_s rfl (sb_n (sb_n (sb_s rfl (sb_s rfl (sb_s rfl sb_0)))))))))
            · have h := ifF hc37 h
              refine V_iload (q := 122) dX11_exchange_120 rfl rfl ?_
              refine V_iload (q := 124) dX11_exchange_122 rfl rfl ?_
              refine V_icmpge (q := 141) (q2 := 127) dX11_exchange_124 (by decide) rfl (fun hc39 => ?_) (fun hc39 => ?_)
              · have h := ifT hc39 h
                refine V_iinc (q := 144) dX11_exchange_141 rfl (Nat.le_of_ble_eq_true rfl) trivial rfl ?_
                refine V_goto (q := 59) dX11_exchange_144 (by decide) ?_
                exact V_weak (ih h) (sb_s rfl (sb_s rfl (sb_s rfl (sb_s rfl (sb_s rfl (sb_s rfl (sb_s rfl (sb_s rfl (sb_n sb_0)))))))))
              · have h := ifF hc39 h
                exact V_weak (kX11_exchange_J127 d hd (fun _ _ _ _ h => ih h) h) (sb_s rfl (sb_s rfl (sb_s rfl (sb_s rfl (sb_n (sb_n (sb_s rfl (sb_s rfl (sb_s rfl sb_0)))))))))
set_option maxHeartbeats 4000000 in
set_option maxRecDepth 100000 in
theorem kX11_exchange_L46 (d : Nat) (hd : 136 ≤ d) {l1 : Int} {l2 : Int} {l3 : Int} {k153 : Int → Int → Mm → Rs} {r : Int} {μ' : Mm} (hk_153 : ∀ (v4 v5 : Int) (μ1 : Mm), k153 v4 v5 μ1 = some (r, μ') → VV d mX11_exchange 153 [none, none, none, some (vI l3), some (vI v4), some (vI v5), none, none, none] [] μ1 r μ') : ∀ (n : Nat) {l4 l5 l6 : Int} {μ : Mm}, X11_exchange_L46 l1 l2 l3 k153 n l4 l5 l6 μ = some (r, μ') → VV d mX11_exchange 46 [some (vR 70), some (vI l1), some (vI l2), some (vI l3), some (vI l4), some (vI l5), some (vI l6), none, none] [] μ r μ' := by
  intro n
  induction n with
  | zero => intro l4 l5 l6 μ h; rw [X11_exchange_L46] at h; cases h
  | succ n ih =>
    intro l4 l5 l6 μ h
    rw [X11_exchange_L46] at h
    refine V_iload (q := 48) dX11_exchange_46 rfl rfl ?_
    refine V_bipush (q := 50) dX11_exchange_48 rfl rfl rfl ?_
    refine V_icmpge (q := 153) (q2 := 53) dX11_exchange_50 (by decide) rfl (fun hc17 => ?_) (fun hc17 => ?_)
    · have h := ifT hc17 h
      exact V_weak (hk_153 _ _ _ h) (sb_n (sb_n (sb_n (sb_s rfl (sb_s rfl (sb_s rfl (sb_n (sb_n (sb_n sb_0)))))))))
    · have h := ifF hc17 h
      refine V_iload (q := 55) dX11_exchange_53 rfl rfl ?_
      refine V_iconst (q := 56) dX11_exchange_55 rfl rfl ?_
      refine V_iadd (q := 57) dX11_exchange_56 rfl ?_
      refine V_istore (q := 59) dX11_exchange_57 (Nat.le_of_ble_eq_true rfl) trivial rfl ?_
      refine V_weak (kX11_exchange_L59 d hd (fun v40 v41 μ42 h => ?_) FU h) (sb_s rfl (sb_s rfl (sb_s rfl (sb_s rfl (sb_s rfl (sb_s rfl (sb_s rfl (sb_s rfl (sb_n sb_0)))))))))
      refine V_iinc (q := 150) dX11_exchange_147 rfl (Nat.le_of_ble_eq_true rfl) trivial rfl ?_
      refine V_goto (q := 46) dX11_exchange_150 (by decide) ?_
      exact V_weak (ih h) (sb_s rfl (sb_s rfl (sb_s rfl (sb_s rfl (sb_s rfl (sb_s rfl (sb_s rfl (sb_n (sb_n sb_0)))))))))
set_option maxHeartbeats 4000000 in
set_option maxRecDepth 100000 in
theorem kX11_exchange (d : Nat) (hd : 136 ≤ d) {l1 : Int} {l2 : Int} {l3 : Int} {μ : Mm} {r : Int} {μ' : Mm} (h : X11_exchange l1 l2 l3 μ = some (r, μ')) : CC d mX11_exchange [vR 70, vI l1, vI l2, vI l3] μ r μ' := by
  unfold X11_exchange at h
  refine V_enter (by decide) (Nat.le_of_ble_eq_true rfl) ?_
  show VV d mX11_exchange 0 [some (vR 70), some (vI l1), some (vI l2), some (vI l3), none, none, none, none, none] [] μ r μ'
  refine V_aload_n (q := 1) dX11_exchange_0 rfl rfl rfl ?_
  refine V_iload_n (q := 2) dX11_exchange_1 rfl rfl rfl ?_
  obtain ⟨v1, μ2, hc3, h⟩ := bd_i h
  refine V_cV1 (q := 5) (v := vI v1) (kX11_isReady (d - 1) (by omega) hc3) (by omega) mv_X11_335 rfl rfl rfl rfl rfl rfl dX11_exchange_2 rfl ?_
  refine V_ifeq (q := 30) (q2 := 8) dX11_exchange_5 (by decide) rfl (fun hc4 => ?_) (fun hc4 => ?_)
  · have h := ifT hc4 h
    refine V_iconst (q := 31) dX11_exchange_30 rfl rfl ?_
    exact V_iret rfl h dX11_exchange_31
  · have h := ifF hc4 h
    refine V_aload_n (q := 9) dX11_exchange_8 rfl rfl rfl ?_
    refine V_iload_n (q := 10) dX11_exchange_9 rfl rfl rfl ?_
    obtain ⟨v5, μ6, hc7, h⟩ := bd_i h
    refine V_cV1 (q := 13) (v := vI v5) (kX11_isReady (d - 1) (by omega) hc7) (by omega) mv_X11_335 rfl rfl rfl rfl rfl rfl dX11_exchange_10 rfl ?_
    refine V_ifeq (q := 30) (q2 := 16) dX11_exchange_13 (by decide) rfl (fun hc8 => ?_) (fun hc8 => ?_)
    · have h := ifT hc8 h
      refine V_iconst (q := 31) dX11_exchange_30 rfl rfl ?_
      exact V_iret rfl h dX11_exchange_31
    · have h := ifF hc8 h
      refine V_iload_n (q := 17) dX11_exchange_16 rfl rfl rfl ?_
      refine V_iload_n (q := 18) dX11_exchange_17 rfl rfl rfl ?_
      refine V_icmpeq (q := 30) (q2 := 21) dX11_exchange_18 (by decide) rfl (fun hc9 => ?_) (fun hc9 => ?_)
      · have h := ifT hc9 h
        refine V_iconst (q := 31) dX11_exchange_30 rfl rfl ?_
        exact V_iret rfl h dX11_exchange_31
      · have h := ifF hc9 h
        refine V_iload_n (q := 22) dX11_exchange_21 rfl rfl rfl ?_
        refine V_iconst (q := 23) dX11_exchange_22 rfl rfl ?_
        refine V_iconst (q := 24) dX11_exchange_23 rfl rfl ?_
        obtain ⟨v10, μ11, hc12, h⟩ := bd_i h
        refine V_cS1 (q := 27) (v := vI v10) (kX11_in (d - 1) (by omega) hc12) (by omega) mv_X11_213 rfl rfl rfl rfl dX11_exchange_24 rfl ?_
        refine V_ifne (q := 32) (q2 := 30) dX11_exchange_27 (by decide) rfl (fun hc13 => ?_) (fun hc13 => ?_)
        · have h := ifF hc13 h
          refine V_iconst (q := 33) dX11_exchange_32 rfl rfl ?_
          refine V_istore (q := 35) dX11_exchange_33 (Nat.le_of_ble_eq_true rfl) trivial rfl ?_
          refine V_aload_n (q := 36) dX11_exchange_35 rfl rfl rfl ?_
          refine V_iload_n (q := 37) dX11_exchange_36 rfl rfl rfl ?_
          refine V_iload_n (q := 38) dX11_exchange_37 rfl rfl rfl ?_
          obtain ⟨v14, μ15, hc16, h⟩ := bd_i h
          refine V_cV1 (q := 41) (v := vI v14) (kX11_bothNow (d - 1) (by omega) hc16) (by omega) mv_X11_369 rfl rfl rfl rfl rfl rfl dX11_exchange_38 rfl ?_
          refine V_istore (q := 43) dX11_exchange_41 (Nat.le_of_ble_eq_true rfl) trivial rfl ?_
          refine V_iconst (q := 44) dX11_exchange_43 rfl rfl ?_
          refine V_istore (q := 46) dX11_exchange_44 (Nat.le_of_ble_eq_true rfl) trivial rfl ?_
          refine V_weak (kX11_exchange_L46 d hd (fun v43 v44 μ45 h => ?_) FU h) (sb_s rfl (sb_s rfl (sb_s rfl (sb_s rfl (sb_s rfl (sb_s rfl (sb_s rfl (sb_n (sb_n sb_0)))))))))
          refine V_iload (q := 155) dX11_exchange_153 rfl rfl ?_
          refine V_iconst (q := 156) dX11_exchange_155 rfl rfl ?_
          refine V_icmpne (q := 163) (q2 := 159) dX11_exchange_156 (by decide) rfl (fun hc46 => ?_) (fun hc46 => ?_)
          · have h := ifF hc46 h
            refine V_iload_n (q := 164) dX11_exchange_163 rfl rfl rfl ?_
            refine V_ifne (q := 172) (q2 := 167) dX11_exchange_164 (by decide) rfl (fun hc47 => ?_) (fun hc47 => ?_)
            · have h := ifF hc47 h
              refine V_iload (q := 174) dX11_exchange_172 rfl rfl ?_
              exact V_iret rfl h dX11_exchange_174
            · have h := ifT hc47 h
              refine V_iload (q := 169) dX11_exchange_167 rfl rfl ?_
              refine V_goto (q := 174) dX11_exchange_169 (by decide) ?_
              exact V_iret rfl h dX11_exchange_174
          · have h := ifT hc46 h
            refine V_iconst (q := 160) dX11_exchange_159 rfl rfl ?_
            refine V_goto (q := 174) dX11_exchange_160 (by decide) ?_
            exact V_iret rfl h dX11_exchange_174
        · have h := ifT hc13 h
          refine V_iconst (q := 31) dX11_exchange_30 rfl rfl ?_
          exact V_iret rfl h dX11_exchange_31
abbrev mX11_skip : Mth := (yX11_skip, cX11_skip, 10, some .int)
theorem mi_X11_skip : Cond.instanceMethod yX11_skip ∈ tG ∧ Cond.selects yX11_skip.cls yX11_skip yX11_skip ∈ tG ∧ Cond.initialized yX11_skip.cls ∈ tG ∧ Cond.code yX11_skip cX11_skip 10 (some .int) ∈ tG ∧ (yX11_skip.cls ≠ "java/lang/invoke/MethodHandle" ∧ yX11_skip.cls ≠ "java/lang/invoke/VarHandle" ∧ (parseMethodDescriptor yX11_skip.desc).map (fun d => d.parameters.length) = some 3) ∧ 10 ≤ 60 := ⟨(tG_of (List.mem_of_getElem? (i := 1657) (by decide +kernel)) (by decide +kernel)), (tG_of (List.mem_of_getElem? (i := 1658) (by decide +kernel)) (by decide +kernel)), (tG_of (List.mem_of_getElem? (i := 112) (by decide +kernel)) (by decide +kernel)), (tG_of (List.mem_of_getElem? (i := 1659) (by decide +kernel)) (by decide +kernel)), ⟨by decide, by decide, by decide +kernel⟩, by decide⟩
theorem dX11_skip_0 : decode cX11_skip 0 = .ok (.aload_n 0, 1) := by decide +kernel
theorem dX11_skip_1 : decode cX11_skip 1 = .ok (.iload_n 1, 1) := by decide +kernel
theorem dX11_skip_2 : decode cX11_skip 2 = .ok (.invokevirtual 335, 3) := by decide +kernel
theorem dX11_skip_5 : decode cX11_skip 5 = .ok (.ifCond .eq 31, 3) := by decide +kernel
theorem dX11_skip_8 : decode cX11_skip 8 = .ok (.iload_n 2, 1) := by decide +kernel
theorem dX11_skip_9 : decode cX11_skip 9 = .ok (.iconst 1, 1) := by decide +kernel
theorem dX11_skip_10 : decode cX11_skip 10 = .ok (.aload_n 0, 1) := by decide +kernel
theorem dX11_skip_11 : decode cX11_skip 11 = .ok (.getfield 316, 3) := by decide +kernel
theorem dX11_skip_14 : decode cX11_skip 14 = .ok (.iconst 1, 1) := by decide +kernel
theorem dX11_skip_15 : decode cX11_skip 15 = .ok (.isub, 1) := by decide +kernel
theorem dX11_skip_16 : decode cX11_skip 16 = .ok (.invokestatic 213, 3) := by decide +kernel
theorem dX11_skip_19 : decode cX11_skip 19 = .ok (.ifCond .eq 17, 3) := by decide +kernel
theorem dX11_skip_22 : decode cX11_skip 22 = .ok (.iload_n 3, 1) := by decide +kernel
theorem dX11_skip_23 : decode cX11_skip 23 = .ok (.iload_n 2, 1) := by decide +kernel
theorem dX11_skip_24 : decode cX11_skip 24 = .ok (.aload_n 0, 1) := by decide +kernel
theorem dX11_skip_25 : decode cX11_skip 25 = .ok (.getfield 316, 3) := by decide +kernel
theorem dX11_skip_28 : decode cX11_skip 28 = .ok (.iconst 1, 1) := by decide +kernel
theorem dX11_skip_29 : decode cX11_skip 29 = .ok (.isub, 1) := by decide +kernel
theorem dX11_skip_30 : decode cX11_skip 30 = .ok (.invokestatic 213, 3) := by decide +kernel
theorem dX11_skip_33 : decode cX11_skip 33 = .ok (.ifCond .ne 5, 3) := by decide +kernel
theorem dX11_skip_36 : decode cX11_skip 36 = .ok (.iconst (-1), 1) := by decide +kernel
theorem dX11_skip_37 : decode cX11_skip 37 = .ok (.ireturn, 1) := by decide +kernel
theorem dX11_skip_38 : decode cX11_skip 38 = .ok (.aload_n 0, 1) := by decide +kernel
theorem dX11_skip_39 : decode cX11_skip 39 = .ok (.getfield 68, 3) := by decide +kernel
theorem dX11_skip_42 : decode cX11_skip 42 = .ok (.iload_n 3, 1) := by decide +kernel
theorem dX11_skip_43 : decode cX11_skip 43 = .ok (.iaload, 1) := by decide +kernel
theorem dX11_skip_44 : decode cX11_skip 44 = .ok (.aload_n 0, 1) := by decide +kernel
theorem dX11_skip_45 : decode cX11_skip 45 = .ok (.getfield 68, 3) := by decide +kernel
theorem dX11_skip_48 : decode cX11_skip 48 = .ok (.iload_n 2, 1) := by decide +kernel
theorem dX11_skip_49 : decode cX11_skip 49 = .ok (.iconst 1, 1) := by decide +kernel
theorem dX11_skip_50 : decode cX11_skip 50 = .ok (.isub, 1) := by decide +kernel
theorem dX11_skip_51 : decode cX11_skip 51 = .ok (.iaload, 1) := by decide +kernel
theorem dX11_skip_52 : decode cX11_skip 52 = .ok (.isub, 1) := by decide +kernel
theorem dX11_skip_53 : decode cX11_skip 53 = .ok (.istore 4, 2) := by decide +kernel
theorem dX11_skip_55 : decode cX11_skip 55 = .ok (.aload_n 0, 1) := by decide +kernel
theorem dX11_skip_56 : decode cX11_skip 56 = .ok (.getfield 316, 3) := by decide +kernel
theorem dX11_skip_59 : decode cX11_skip 59 = .ok (.istore 5, 2) := by decide +kernel
theorem dX11_skip_61 : decode cX11_skip 61 = .ok (.iconst 0, 1) := by decide +kernel
theorem dX11_skip_62 : decode cX11_skip 62 = .ok (.istore 6, 2) := by decide +kernel
theorem dX11_skip_64 : decode cX11_skip 64 = .ok (.iconst 0, 1) := by decide +kernel
theorem dX11_skip_65 : decode cX11_skip 65 = .ok (.istore 7, 2) := by decide +kernel
theorem dX11_skip_67 : decode cX11_skip 67 = .ok (.iconst 0, 1) := by decide +kernel
theorem dX11_skip_68 : decode cX11_skip 68 = .ok (.istore 8, 2) := by decide +kernel
theorem dX11_skip_70 : decode cX11_skip 70 = .ok (.iload 8, 2) := by decide +kernel
theorem dX11_skip_72 : decode cX11_skip 72 = .ok (.aload_n 0, 1) := by decide +kernel
theorem dX11_skip_73 : decode cX11_skip 73 = .ok (.getfield 316, 3) := by decide +kernel
theorem dX11_skip_76 : decode cX11_skip 76 = .ok (.if_icmp .ge 118, 3) := by decide +kernel
theorem dX11_skip_79 : decode cX11_skip 79 = .ok (.iload 8, 2) := by decide +kernel
theorem dX11_skip_81 : decode cX11_skip 81 = .ok (.iload_n 2, 1) := by decide +kernel
theorem dX11_skip_82 : decode cX11_skip 82 = .ok (.if_icmp .lt 9, 3) := by decide +kernel
theorem dX11_skip_85 : decode cX11_skip 85 = .ok (.iload 8, 2) := by decide +kernel
theorem dX11_skip_87 : decode cX11_skip 87 = .ok (.iload_n 3, 1) := by decide +kernel
theorem dX11_skip_88 : decode cX11_skip 88 = .ok (.if_icmp .le 100, 3) := by decide +kernel
theorem dX11_skip_91 : decode cX11_skip 91 = .ok (.aload_n 0, 1) := by decide +kernel
theorem dX11_skip_92 : decode cX11_skip 92 = .ok (.getfield 71, 3) := by decide +kernel
theorem dX11_skip_95 : decode cX11_skip 95 = .ok (.bipush 8, 2) := by decide +kernel
theorem dX11_skip_97 : decode cX11_skip 97 = .ok (.iload 5, 2) := by decide +kernel
theorem dX11_skip_99 : decode cX11_skip 99 = .ok (.imul, 1) := by decide +kernel
theorem dX11_skip_100 : decode cX11_skip 100 = .ok (.iload 8, 2) := by decide +kernel
theorem dX11_skip_102 : decode cX11_skip 102 = .ok (.iadd, 1) := by decide +kernel
theorem dX11_skip_103 : decode cX11_skip 103 = .ok (.iaload, 1) := by decide +kernel
theorem dX11_skip_104 : decode cX11_skip 104 = .ok (.iconst (-1), 1) := by decide +kernel
theorem dX11_skip_105 : decode cX11_skip 105 = .ok (.if_icmp .ne 5, 3) := by decide +kernel
theorem dX11_skip_108 : decode cX11_skip 108 = .ok (.iconst (-1), 1) := by decide +kernel
theorem dX11_skip_109 : decode cX11_skip 109 = .ok (.ireturn, 1) := by decide +kernel
theorem dX11_skip_110 : decode cX11_skip 110 = .ok (.iload 8, 2) := by decide +kernel
theorem dX11_skip_112 : decode cX11_skip 112 = .ok (.iload_n 3, 1) := by decide +kernel
theorem dX11_skip_113 : decode cX11_skip 113 = .ok (.if_icmp .le 16, 3) := by decide +kernel
theorem dX11_skip_116 : decode cX11_skip 116 = .ok (.aload_n 0, 1) := by decide +kernel
theorem dX11_skip_117 : decode cX11_skip 117 = .ok (.getfield 68, 3) := by decide +kernel
theorem dX11_skip_120 : decode cX11_skip 120 = .ok (.iload 8, 2) := by decide +kernel
theorem dX11_skip_122 : decode cX11_skip 122 = .ok (.iaload, 1) := by decide +kernel
theorem dX11_skip_123 : decode cX11_skip 123 = .ok (.iload 4, 2) := by decide +kernel
theorem dX11_skip_125 : decode cX11_skip 125 = .ok (.isub, 1) := by decide +kernel
theorem dX11_skip_126 : decode cX11_skip 126 = .ok (.goto 10, 3) := by decide +kernel
theorem dX11_skip_129 : decode cX11_skip 129 = .ok (.aload_n 0, 1) := by decide +kernel
theorem dX11_skip_130 : decode cX11_skip 130 = .ok (.getfield 68, 3) := by decide +kernel
theorem dX11_skip_133 : decode cX11_skip 133 = .ok (.iload 8, 2) := by decide +kernel
theorem dX11_skip_135 : decode cX11_skip 135 = .ok (.iaload, 1) := by decide +kernel
theorem dX11_skip_136 : decode cX11_skip 136 = .ok (.istore 9, 2) := by decide +kernel
theorem dX11_skip_138 : decode cX11_skip 138 = .ok (.iload 6, 2) := by decide +kernel
theorem dX11_skip_140 : decode cX11_skip 140 = .ok (.aload_n 0, 1) := by decide +kernel
theorem dX11_skip_141 : decode cX11_skip 141 = .ok (.getfield 71, 3) := by decide +kernel
theorem dX11_skip_144 : decode cX11_skip 144 = .ok (.bipush 8, 2) := by decide +kernel
theorem dX11_skip_146 : decode cX11_skip 146 = .ok (.iload 5, 2) := by decide +kernel
theorem dX11_skip_148 : decode cX11_skip 148 = .ok (.imul, 1) := by decide +kernel
theorem dX11_skip_149 : decode cX11_skip 149 = .ok (.iload 8, 2) := by decide +kernel
theorem dX11_skip_151 : decode cX11_skip 151 = .ok (.iadd, 1) := by decide +kernel
theorem dX11_skip_152 : decode cX11_skip 152 = .ok (.iaload, 1) := by decide +kernel
theorem dX11_skip_153 : decode cX11_skip 153 = .ok (.aload_n 0, 1) := by decide +kernel
theorem dX11_skip_154 : decode cX11_skip 154 = .ok (.getfield 319, 3) := by decide +kernel
theorem dX11_skip_157 : decode cX11_skip 157 = .ok (.imul, 1) := by decide +kernel
theorem dX11_skip_158 : decode cX11_skip 158 = .ok (.iadd, 1) := by decide +kernel
theorem dX11_skip_159 : decode cX11_skip 159 = .ok (.aload_n 0, 1) := by decide +kernel
theorem dX11_skip_160 : decode cX11_skip 160 = .ok (.getfield 74, 3) := by decide +kernel
theorem dX11_skip_163 : decode cX11_skip 163 = .ok (.iload 8, 2) := by decide +kernel
theorem dX11_skip_165 : decode cX11_skip 165 = .ok (.iaload, 1) := by decide +kernel
theorem dX11_skip_166 : decode cX11_skip 166 = .ok (.iadd, 1) := by decide +kernel
theorem dX11_skip_167 : decode cX11_skip 167 = .ok (.iload 9, 2) := by decide +kernel
theorem dX11_skip_169 : decode cX11_skip 169 = .ok (.invokestatic 302, 3) := by decide +kernel
theorem dX11_skip_172 : decode cX11_skip 172 = .ok (.istore 6, 2) := by decide +kernel
theorem dX11_skip_174 : decode cX11_skip 174 = .ok (.iload 7, 2) := by decide +kernel
theorem dX11_skip_176 : decode cX11_skip 176 = .ok (.iload 6, 2) := by decide +kernel
theorem dX11_skip_178 : decode cX11_skip 178 = .ok (.iload 9, 2) := by decide +kernel
theorem dX11_skip_180 : decode cX11_skip 180 = .ok (.isub, 1) := by decide +kernel
theorem dX11_skip_181 : decode cX11_skip 181 = .ok (.iadd, 1) := by decide +kernel
theorem dX11_skip_182 : decode cX11_skip 182 = .ok (.istore 7, 2) := by decide +kernel
theorem dX11_skip_184 : decode cX11_skip 184 = .ok (.iload 8, 2) := by decide +kernel
theorem dX11_skip_186 : decode cX11_skip 186 = .ok (.istore 5, 2) := by decide +kernel
theorem dX11_skip_188 : decode cX11_skip 188 = .ok (.iinc 8 1, 3) := by decide +kernel
theorem dX11_skip_191 : decode cX11_skip 191 = .ok (.goto (-121), 3) := by decide +kernel
theorem dX11_skip_194 : decode cX11_skip 194 = .ok (.iload 7, 2) := by decide +kernel
theorem dX11_skip_196 : decode cX11_skip 196 = .ok (.ireturn, 1) := by decide +kernel
def X11_skip_J136 (k70 : Int → Int → Int → Int → Mm → Rs) (l2 : Int) (l3 : Int) (l4 : Int) (l5 : Int) (l6 : Int) (l7 : Int) (l8 : Int) (s0 : Int) (μ : Mm) : Rs := ldA μ 89 (iA (iM 8 l5) l8) fun v25 => ldA μ 90 l8 fun v27 => bd (J9_max_7cf53 (iA (iA l6 (iM v25 (μ 70 38))) v27) s0 μ) fun v29 μ30 => lt_ (iA l7 (iS v29 s0)) fun v32 => k70 l8 v29 v32 (iA l8 1) μ30
def X11_skip_J91 (k70 : Int → Int → Int → Int → Mm → Rs) (l2 : Int) (l3 : Int) (l4 : Int) (l5 : Int) (l6 : Int) (l7 : Int) (l8 : Int) (μ : Mm) : Rs := ldA μ 89 (iA (iM 8 l5) l8) fun v19 => if v19 = (-1) then (some ((-1), μ)) else (if l8 ≤ l3 then (ldA μ 88 l8 fun v23 => X11_skip_J136 (fun w5 w6 w7 w8 μq => k70 w5 w6 w7 w8 μq) l2 l3 l4 l5 l6 l7 l8 v23 μ) else (ldA μ 88 l8 fun v33 => X11_skip_J136 (fun w5 w6 w7 w8 μq => k70 w5 w6 w7 w8 μq) l2 l3 l4 l5 l6 l7 l8 (iS v33 l4) μ))
def X11_skip_L70 (l2 : Int) (l3 : Int) (l4 : Int) : Nat → Int → Int → Int → Int → Mm → Rs
  | 0, _, _, _, _, _ => none
  | n + 1, l5, l6, l7, l8, μ => if (μ 70 37) ≤ l8 then (some (l7, μ)) else (if l8 < l2 then (X11_skip_J91 (fun w5 w6 w7 w8 μq => X11_skip_L70 l2 l3 l4 n w5 w6 w7 w8 μq) l2 l3 l4 l5 l6 l7 l8 μ) else (if l8 ≤ l3 then (X11_skip_L70 l2 l3 l4 n l5 l6 l7 (iA l8 1) μ) else (X11_skip_J91 (fun w5 w6 w7 w8 μq => X11_skip_L70 l2 l3 l4 n w5 w6 w7 w8 μq) l2 l3 l4 l5 l6 l7 l8 μ)))
def X11_skip (l1 : Int) (l2 : Int) (l3 : Int) (μ : Mm) : Rs := bd (X11_isReady l1 μ) fun v1 μ2 => if v1 = 0 then (some ((-1), μ2)) else (bd (X11_in l2 1 (iS (μ2 70 37) 1) μ2) fun v5 μ6 => if v5 = 0 then (some ((-1), μ6)) else (bd (X11_in l3 l2 (iS (μ6 70 37) 1) μ6) fun v9 μ10 => if v9 = 0 then (some ((-1), μ10)) else (ldA μ10 88 l3 fun v13 => ldA μ10 88 (iS l2 1) fun v15 => X11_skip_L70 l2 l3 (iS v13 v15) FU (μ10 70 37) 0 0 0 μ10)))
set_option maxHeartbeats 4000000 in
set_option maxRecDepth 100000 in
theorem kX11_skip_J136 (d : Nat) (hd : 8 ≤ d) {k70 : Int → Int → Int → Int → Mm → Rs} {l2 : Int} {l3 : Int} {l4 : Int} {l5 : Int} {l6 : Int} {l7 : Int} {l8 : Int} {s0 : Int} {μ : Mm} {r : Int} {μ' : Mm} (hk_70 : ∀ (v5 v6 v7 v8 : Int) (μ1 : Mm), k70 v5 v6 v7 v8 μ1 = some (r, μ') → VV d mX11_skip 70 [some (vR 70), none, some (vI l2), some (vI l3), some (vI l4), some (vI v5), some (vI v6), some (vI v7), some (vI v8), none] [] μ1 r μ') (h : X11_skip_J136 k70 l2 l3 l4 l5 l6 l7 l8 s0 μ = some (r, μ')) : VV d mX11_skip 136 [some (vR 70), none, some (vI l2), some (vI l3), some (vI l4), some (vI l5), some (vI l6), some (vI l7), some (vI l8), none] [vI s0] μ r μ' := by
  unfold X11_skip_J136 at h
  refine V_istore (q := 138) dX11_skip_136 (Nat.le_of_ble_eq_true rfl) trivial rfl ?_
  refine V_iload (q := 140) dX11_skip_138 rfl rfl ?_
  refine V_aload_n (q := 141) dX11_skip_140 rfl rfl rfl ?_
  refine V_getO (q := 144) (t := 89) fl_X11_71 rfl rfl rfl rfl dX11_skip_141 rfl ?_
  refine V_bipush (q := 146) dX11_skip_144 rfl rfl rfl ?_
  refine V_iload (q := 148) dX11_skip_146 rfl rfl ?_
  refine V_imul (q := 149) dX11_skip_148 rfl ?_
  refine V_iload (q := 151) dX11_skip_149 rfl rfl ?_
  refine V_iadd (q := 152) dX11_skip_151 rfl ?_
  obtain ⟨hi26, h⟩ := ldA_i h
  refine V_iaload (q := 153) rfl hi26 dX11_skip_152 rfl ?_
  refine V_aload_n (q := 154) dX11_skip_153 rfl rfl rfl ?_
  refine V_getI (q := 157) fl_X11_319 rfl rfl rfl dX11_skip_154 rfl ?_
  refine V_imul (q := 158) dX11_skip_157 rfl ?_
  refine V_iadd (q := 159) dX11_skip_158 rfl ?_
  refine V_aload_n (q := 160) dX11_skip_159 rfl rfl rfl ?_
  refine V_getO (q := 163) (t := 90) fl_X11_74 rfl rfl rfl rfl dX11_skip_160 rfl ?_
  refine V_iload (q := 165) dX11_skip_163 rfl rfl ?_
  obtain ⟨hi28, h⟩ := ldA_i h
  refine V_iaload (q := 166) rfl hi28 dX11_skip_165 rfl ?_
  refine V_iadd (q := 167) dX11_skip_166 rfl ?_
  refine V_iload (q := 169) dX11_skip_167 rfl rfl ?_
  obtain ⟨v29, μ30, hc31, h⟩ := bd_i h
  refine V_cS1 (q := 172) (v := vI v29) (kJ9_max_7cf53 (d - 1) (by omega) hc31) (by omega) mv_X11_302 rfl rfl rfl rfl dX11_skip_169 rfl ?_
  refine V_istore (q := 174) dX11_skip_172 (Nat.le_of_ble_eq_true rfl) trivial rfl ?_
  refine V_iload (q := 176) dX11_skip_174 rfl rfl ?_
  refine V_iload (q := 178) dX11_skip_176 rfl rfl ?_
  refine V_iload (q := 180) dX11_skip_178 rfl rfl ?_
  refine V_isub (q := 181) dX11_skip_180 rfl ?_
  refine V_iadd (q := 182) dX11_skip_181 rfl ?_
  have h := lt_i h
  refine V_istore (q := 184) dX11_skip_182 (Nat.le_of_ble_eq_true rfl) trivial rfl ?_
  refine V_iload (q := 186) dX11_skip_184 rfl rfl ?_
  refine V_istore (q := 188) dX11_skip_186 (Nat.le_of_ble_eq_true rfl) trivial rfl ?_
  refine V_iinc (q := 191) dX11_skip_188 rfl (Nat.le_of_ble_eq_true rfl) trivial rfl ?_
  refine V_goto (q := 70) dX11_skip_191 (by decide) ?_
  exact V_weak (hk_70 _ _ _ _ _ h) (sb_s rfl (sb_n (sb_s rfl (sb_s rfl (sb_s rfl (sb_s rfl (sb_s rfl (sb_s rfl (sb_s rfl (sb_n sb_0))))))))))
set_option maxHeartbeats 4000000 in
set_option maxRecDepth 100000 in
theorem kX11_skip_J91 (d : Nat) (hd : 8 ≤ d) {k70 : Int → Int → Int → Int → Mm → Rs} {l2 : Int} {l3 : Int} {l4 : Int} {l5 : Int} {l6 : Int} {l7 : Int} {l8 : Int} {μ : Mm} {r : Int} {μ' : Mm} (hk_70 : ∀ (v5 v6 v7 v8 : Int) (μ1 : Mm), k70 v5 v6 v7 v8 μ1 = some (r, μ') → VV d mX11_skip 70 [some (vR 70), none, some (vI l2), some (vI l3), some (vI l4), some (vI v5), some (vI v6), some (vI v7), some (vI v8), none] [] μ1 r μ') (h : X11_skip_J91 k70 l2 l3 l4 l5 l6 l7 l8 μ = some (r, μ')) : VV d mX11_skip 91 [some (vR 70), none, some (vI l2), some (vI l3), some (vI l4), some (vI l5), some (vI l6), some (vI l7), some (vI l8), none] [] μ r μ' := by
  unfold X11_skip_J91 at h
  refine V_aload_n (q := 92) dX11_skip_91 rfl rfl rfl ?_
  refine V_getO (q := 95) (t := 89) fl_X11_71 rfl rfl rfl rfl dX11_skip_92 rfl ?_
  refine V_bipush (q := 97) dX11_skip_95 rfl rfl rfl ?_
  refine V_iload (q := 99) dX11_skip_97 rfl rfl ?_
  refine V_imul (q := 100) dX11_skip_99 rfl ?_
  refine V_iload (q := 102) dX11_skip_100 rfl rfl ?_
  refine V_iadd (q := 103) dX11_skip_102 rfl ?_
  obtain ⟨hi20, h⟩ := ldA_i h
  refine V_iaload (q := 104) rfl hi20 dX11_skip_103 rfl ?_
  refine V_iconst (q := 105) dX11_skip_104 rfl rfl ?_
  refine V_icmpne (q := 110) (q2 := 108) dX11_skip_105 (by decide) rfl (fun hc21 => ?_) (fun hc21 => ?_)
  · have h := ifF hc21 h
    refine V_iload (q := 112) dX11_skip_110 rfl rfl ?_
    refine V_iload_n (q := 113) dX11_skip_112 rfl rfl rfl ?_
    refine V_icmple (q := 129) (q2 := 116) dX11_skip_113 (by decide) rfl (fun hc22 => ?_) (fun hc22 => ?_)
    · have h := ifT hc22 h
      refine V_aload_n (q := 130) dX11_skip_129 rfl rfl rfl ?_
      refine V_getO (q := 133) (t := 88) fl_X11_68 rfl rfl rfl rfl dX11_skip_130 rfl ?_
      refine V_iload (q := 135) dX11_skip_133 rfl rfl ?_
      obtain ⟨hi24, h⟩ := ldA_i h
      refine V_iaload (q := 136) rfl hi24 dX11_skip_135 rfl ?_
      exact V_weak (kX11_skip_J136 d hd (fun _ _ _ _ _ h => hk_70 _ _ _ _ _ h) h) (sb_s rfl (sb_n (sb_s rfl (sb_s rfl (sb_s rfl (sb_s rfl (sb_s rfl (sb_s rfl (sb_s rfl (sb_n sb_0))))))))))
    · have h := ifF hc22 h
      refine V_aload_n (q := 117) dX11_skip_116 rfl rfl rfl ?_
      refine V_getO (q := 120) (t := 88) fl_X11_68 rfl rfl rfl rfl dX11_skip_117 rfl ?_
      refine V_iload (q := 122) dX11_skip_120 rfl rfl ?_
      obtain ⟨hi34, h⟩ := ldA_i h
      refine V_iaload (q := 123) rfl hi34 dX11_skip_122 rfl ?_
      refine V_iload (q := 125) dX11_skip_123 rfl rfl ?_
      refine V_isub (q := 126) dX11_skip_125 rfl ?_
      refine V_goto (q := 136) dX11_skip_126 (by decide) ?_
      exact V_weak (kX11_skip_J136 d hd (fun _ _ _ _ _ h => hk_70 _ _ _ _ _ h) h) (sb_s rfl (sb_n (sb_s rfl (sb_s rfl (sb_s rfl (sb_s rfl (sb_s rfl (sb_s rfl (sb_s rfl (sb_n sb_0))))))))))
  · have h := ifT hc21 h
    refine V_iconst (q := 109) dX11_skip_108 rfl rfl ?_
    exact V_iret rfl h dX11_skip_109
set_option maxHeartbeats 4000000 in
set_option maxRecDepth 100000 in
theorem kX11_skip_L70 (d : Nat) (hd : 8 ≤ d) {l2 : Int} {l3 : Int} {l4 : Int} {r : Int} {μ' : Mm} : ∀ (n : Nat) {l5 l6 l7 l8 : Int} {μ : Mm}, X11_skip_L70 l2 l3 l4 n l5 l6 l7 l8 μ = some (r, μ') → VV d mX11_skip 70 [some (vR 70), none, some (vI l2), some (vI l3), some (vI l4), some (vI l5), some (vI l6), some (vI l7), some (vI l8), none] [] μ r μ' := by
  intro n
  induction n with
  | zero => intro l5 l6 l7 l8 μ h; rw [X11_skip_L70] at h; cases h
  | succ n ih =>
    intro l5 l6 l7 l8 μ h
    rw [X11_skip_L70] at h
    refine V_iload (q := 72) dX11_skip_70 rfl rfl ?_
    refine V_aload_n (q := 73) dX11_skip_72 rfl rfl rfl ?_
    refine V_getI (q := 76) fl_X11_316 rfl rfl rfl dX11_skip_73 rfl ?_
    refine V_icmpge (q := 194) (q2 := 79) dX11_skip_76 (by decide) rfl (fun hc17 => ?_) (fun hc17 => ?_)
    · have h := ifT hc17 h
      refine V_iload (q := 196) dX11_skip_194 rfl rfl ?_
      exact V_iret rfl h dX11_skip_196
    · have h := ifF hc17 h
      refine V_iload (q := 81) dX11_skip_79 rfl rfl ?_
      refine V_iload_n (q := 82) dX11_skip_81 rfl rfl rfl ?_
      refine V_icmplt (q := 91) (q2 := 85) dX11_skip_82 (by decide) rfl (fun hc18 => ?_) (fun hc18 => ?_)
      · have h := ifT hc18 h
        exact V_weak (kX11_skip_J91 d hd (fun _ _ _ _ _ h => ih h) h) (sb_s rfl (sb_n (sb_s rfl (sb_s rfl (sb_s rfl (sb_s rfl (sb_s rfl (sb_s rfl (sb_s rfl (sb_n sb_0))))))))))
      · have h := ifF hc18 h
        refine V_iload (q := 87) dX11_skip_85 rfl rfl ?_
        refine V_iload_n (q := 88) dX11_skip_87 rfl rfl rfl ?_
        refine V_icmple (q := 188) (q2 := 91) dX11_skip_88 (by decide) rfl (fun hc35 => ?_) (fun hc35 => ?_)
        · have h := ifT hc35 h
          refine V_iinc (q := 191) dX11_skip_188 rfl (Nat.le_of_ble_eq_true rfl) trivial rfl ?_
          refine V_goto (q := 70) dX11_skip_191 (by decide) ?_
          exact V_weak (ih h) (sb_s rfl (sb_n (sb_s rfl (sb_s rfl (sb_s rfl (sb_s rfl (sb_s rfl (sb_s rfl (sb_s rfl (sb_n sb_0))))))))))
        · have h := ifF hc35 h
          exact V_weak (kX11_skip_J91 d hd (fun _ _ _ _ _ h => ih h) h) (sb_s rfl (sb_n (sb_s rfl (sb_s rfl (sb_s rfl (sb_s rfl (sb_s rfl (sb_s rfl (sb_s rfl (sb_n sb_0))))))))))
set_option maxHeartbeats 4000000 in
set_option maxRecDepth 100000 in
theorem kX11_skip (d : Nat) (hd : 8 ≤ d) {l1 : Int} {l2 : Int} {l3 : Int} {μ : Mm} {r : Int} {μ' : Mm} (h : X11_skip l1 l2 l3 μ = some (r, μ')) : CC d mX11_skip [vR 70, vI l1, vI l2, vI l3] μ r μ' := by
  unfold X11_skip at h
  refine V_enter (by decide) (Nat.le_of_ble_eq_true rfl) ?_
  show VV d mX11_skip 0 [some (vR 70), some (vI l1), some (vI l2), some (vI l3), none, none, none, none, none, none] [] μ r μ'
  refine V_aload_n (q := 1) dX11_skip_0 rfl rfl rfl ?_
  refine V_iload_n (q := 2) dX11_skip_1 rfl rfl rfl ?_
  obtain ⟨v1, μ2, hc3, h⟩ := bd_i h
  refine V_cV1 (q := 5) (v := vI v1) (kX11_isReady (d - 1) (by omega) hc3) (by omega) mv_X11_335 rfl rfl rfl rfl rfl rfl dX11_skip_2 rfl ?_
  refine V_ifeq (q := 36) (q2 := 8) dX11_skip_5 (by decide) rfl (fun hc4 => ?_) (fun hc4 => ?_)
  · have h := ifT hc4 h
    refine V_iconst (q := 37) dX11_skip_36 rfl rfl ?_
    exact V_iret rfl h dX11_skip_37
  · have h := ifF hc4 h
    refine V_iload_n (q := 9) dX11_skip_8 rfl rfl rfl ?_
    refine V_iconst (q := 10) dX11_skip_9 rfl rfl ?_
    refine V_aload_n (q := 11) dX11_skip_10 rfl rfl rfl ?_
    refine V_getI (q := 14) fl_X11_316 rfl rfl rfl dX11_skip_11 rfl ?_
    refine V_iconst (q := 15) dX11_skip_14 rfl rfl ?_
    refine V_isub (q := 16) dX11_skip_15 rfl ?_
    obtain ⟨v5, μ6, hc7, h⟩ := bd_i h
    refine V_cS1 (q := 19) (v := vI v5) (kX11_in (d - 1) (by omega) hc7) (by omega) mv_X11_213 rfl rfl rfl rfl dX11_skip_16 rfl ?_
    refine V_ifeq (q := 36) (q2 := 22) dX11_skip_19 (by decide) rfl (fun hc8 => ?_) (fun hc8 => ?_)
    · have h := ifT hc8 h
      refine V_iconst (q := 37) dX11_skip_36 rfl rfl ?_
      exact V_iret rfl h dX11_skip_37
    · have h := ifF hc8 h
      refine V_iload_n (q := 23) dX11_skip_22 rfl rfl rfl ?_
      refine V_iload_n (q := 24) dX11_skip_23 rfl rfl rfl ?_
      refine V_aload_n (q := 25) dX11_skip_24 rfl rfl rfl ?_
      refine V_getI (q := 28) fl_X11_316 rfl rfl rfl dX11_skip_25 rfl ?_
      refine V_iconst (q := 29) dX11_skip_28 rfl rfl ?_
      refine V_isub (q := 30) dX11_skip_29 rfl ?_
      obtain ⟨v9, μ10, hc11, h⟩ := bd_i h
      refine V_cS1 (q := 33) (v := vI v9) (kX11_in (d - 1) (by omega) hc11) (by omega) mv_X11_213 rfl rfl rfl rfl dX11_skip_30 rfl ?_
      refine V_ifne (q := 38) (q2 := 36) dX11_skip_33 (by decide) rfl (fun hc12 => ?_) (fun hc12 => ?_)
      · have h := ifF hc12 h
        refine V_aload_n (q := 39) dX11_skip_38 rfl rfl rfl ?_
        refine V_getO (q := 42) (t := 88) fl_X11_68 rfl rfl rfl rfl dX11_skip_39 rfl ?_
        refine V_iload_n (q := 43) dX11_skip_42 rfl rfl rfl ?_
        obtain ⟨hi14, h⟩ := ldA_i h
        refine V_iaload (q := 44) rfl hi14 dX11_skip_43 rfl ?_
        refine V_aload_n (q := 45) dX11_skip_44 rfl rfl rfl ?_
        refine V_getO (q := 48) (t := 88) fl_X11_68 rfl rfl rfl rfl dX11_skip_45 rfl ?_
        refine V_iload_n (q := 49) dX11_skip_48 rfl rfl rfl ?_
        refine V_iconst (q := 50) dX11_skip_49 rfl rfl ?_
        refine V_isub (q := 51) dX11_skip_50 rfl ?_
        obtain ⟨hi16, h⟩ := ldA_i h
        refine V_iaload (q := 52) rfl hi16 dX11_skip_51 rfl ?_
        refine V_isub (q := 53) dX11_skip_52 rfl ?_
        refine V_istore (q := 55) dX11_skip_53 (Nat.le_of_ble_eq_true rfl) trivial rfl ?_
        refine V_aload_n (q := 56) dX11_skip_55 rfl rfl rfl ?_
        refine V_getI (q := 59) fl_X11_316 rfl rfl rfl dX11_skip_56 rfl ?_
        refine V_istore (q := 61) dX11_skip_59 (Nat.le_of_ble_eq_true rfl) trivial rfl ?_
        refine V_iconst (q := 62) dX11_skip_61 rfl rfl ?_
        refine V_istore (q := 64) dX11_skip_62 (Nat.le_of_ble_eq_true rfl) trivial rfl ?_
        refine V_iconst (q := 65) dX11_skip_64 rfl rfl ?_
        refine V_istore (q := 67) dX11_skip_65 (Nat.le_of_ble_eq_true rfl) trivial rfl ?_
        refine V_iconst (q := 68) dX11_skip_67 rfl rfl ?_
        refine V_istore (q := 70) dX11_skip_68 (Nat.le_of_ble_eq_true rfl) trivial rfl ?_
        exact V_weak (kX11_skip_L70 d hd  FU h) (sb_s rfl (sb_n (sb_s rfl (sb_s rfl (sb_s rfl (sb_s rfl (sb_s rfl (sb_s rfl (sb_s rfl (sb_n sb_0))))))))))
      · have h := ifT hc12 h
        refine V_iconst (q := 37) dX11_skip_36 rfl rfl ?_
        exact V_iret rfl h dX11_skip_37
abbrev mX11_book : Mth := (yX11_book, cX11_book, 3, some .int)
theorem mi_X11_book : Cond.instanceMethod yX11_book ∈ tG ∧ Cond.selects yX11_book.cls yX11_book yX11_book ∈ tG ∧ Cond.initialized yX11_book.cls ∈ tG ∧ Cond.code yX11_book cX11_book 3 (some .int) ∈ tG ∧ (yX11_book.cls ≠ "java/lang/invoke/MethodHandle" ∧ yX11_book.cls ≠ "java/lang/invoke/VarHandle" ∧ (parseMethodDescriptor yX11_book.desc).map (fun d => d.parameters.length) = some 0) ∧ 3 ≤ 60 := ⟨(tG_of (List.mem_of_getElem? (i := 1666) (by decide +kernel)) (by decide +kernel)), (tG_of (List.mem_of_getElem? (i := 95) (by decide +kernel)) (by decide +kernel)), (tG_of (List.mem_of_getElem? (i := 112) (by decide +kernel)) (by decide +kernel)), (tG_of (List.mem_of_getElem? (i := 1667) (by decide +kernel)) (by decide +kernel)), ⟨by decide, by decide, by decide +kernel⟩, by decide⟩
theorem mv_X11_372 : mV RX11 372 mX11_book 0 := ⟨(tG_of (List.mem_of_getElem? (i := 1664) (by decide +kernel)) (by decide +kernel)), mi_X11_book⟩
theorem dX11_book_0 : decode cX11_book 0 = .ok (.iconst 0, 1) := by decide +kernel
theorem dX11_book_1 : decode cX11_book 1 = .ok (.istore_n 1, 1) := by decide +kernel
theorem dX11_book_2 : decode cX11_book 2 = .ok (.iconst 0, 1) := by decide +kernel
theorem dX11_book_3 : decode cX11_book 3 = .ok (.istore_n 2, 1) := by decide +kernel
theorem dX11_book_4 : decode cX11_book 4 = .ok (.iload_n 2, 1) := by decide +kernel
theorem dX11_book_5 : decode cX11_book 5 = .ok (.aload_n 0, 1) := by decide +kernel
theorem dX11_book_6 : decode cX11_book 6 = .ok (.getfield 316, 3) := by decide +kernel
theorem dX11_book_9 : decode cX11_book 9 = .ok (.if_icmp .ge 16, 3) := by decide +kernel
theorem dX11_book_12 : decode cX11_book 12 = .ok (.bipush 10, 2) := by decide +kernel
theorem dX11_book_14 : decode cX11_book 14 = .ok (.iload_n 1, 1) := by decide +kernel
theorem dX11_book_15 : decode cX11_book 15 = .ok (.imul, 1) := by decide +kernel
theorem dX11_book_16 : decode cX11_book 16 = .ok (.iload_n 2, 1) := by decide +kernel
theorem dX11_book_17 : decode cX11_book 17 = .ok (.iadd, 1) := by decide +kernel
theorem dX11_book_18 : decode cX11_book 18 = .ok (.istore_n 1, 1) := by decide +kernel
theorem dX11_book_19 : decode cX11_book 19 = .ok (.iinc 2 1, 3) := by decide +kernel
theorem dX11_book_22 : decode cX11_book 22 = .ok (.goto (-18), 3) := by decide +kernel
theorem dX11_book_25 : decode cX11_book 25 = .ok (.iload_n 1, 1) := by decide +kernel
theorem dX11_book_26 : decode cX11_book 26 = .ok (.ireturn, 1) := by decide +kernel
def X11_book_L4 : Nat → Int → Int → Mm → Rs
  | 0, _, _, _ => none
  | n + 1, l1, l2, μ => if (μ 70 37) ≤ l2 then (some (l1, μ)) else (lt_ (iA (iM 10 l1) l2) fun v2 => X11_book_L4 n v2 (iA l2 1) μ)
def X11_book (μ : Mm) : Rs := X11_book_L4 FU 0 0 μ
set_option maxHeartbeats 4000000 in
set_option maxRecDepth 100000 in
theorem kX11_book_L4 (d : Nat) (hd : 1 ≤ d) {r : Int} {μ' : Mm} : ∀ (n : Nat) {l1 l2 : Int} {μ : Mm}, X11_book_L4 n l1 l2 μ = some (r, μ') → VV d mX11_book 4 [some (vR 70), some (vI l1), some (vI l2)] [] μ r μ' := by
  intro n
  induction n with
  | zero => intro l1 l2 μ h; rw [X11_book_L4] at h; cases h
  | succ n ih =>
    intro l1 l2 μ h
    rw [X11_book_L4] at h
    refine V_iload_n (q := 5) dX11_book_4 rfl rfl rfl ?_
    refine V_aload_n (q := 6) dX11_book_5 rfl rfl rfl ?_
    refine V_getI (q := 9) fl_X11_316 rfl rfl rfl dX11_book_6 rfl ?_
    refine V_icmpge (q := 25) (q2 := 12) dX11_book_9 (by decide) rfl (fun hc1 => ?_) (fun hc1 => ?_)
    · have h := ifT hc1 h
      refine V_iload_n (q := 26) dX11_book_25 rfl rfl rfl ?_
      exact V_iret rfl h dX11_book_26
    · have h := ifF hc1 h
      refine V_bipush (q := 14) dX11_book_12 rfl rfl rfl ?_
      refine V_iload_n (q := 15) dX11_book_14 rfl rfl rfl ?_
      refine V_imul (q := 16) dX11_book_15 rfl ?_
      refine V_iload_n (q := 17) dX11_book_16 rfl rfl rfl ?_
      refine V_iadd (q := 18) dX11_book_17 rfl ?_
      have h := lt_i h
      refine V_istore_n (q := 19) dX11_book_18 rfl (Nat.le_of_ble_eq_true rfl) trivial rfl ?_
      refine V_iinc (q := 22) dX11_book_19 rfl (Nat.le_of_ble_eq_true rfl) trivial rfl ?_
      refine V_goto (q := 4) dX11_book_22 (by decide) ?_
      exact V_weak (ih h) (sb_s rfl (sb_s rfl (sb_s rfl sb_0)))
set_option maxHeartbeats 4000000 in
set_option maxRecDepth 100000 in
theorem kX11_book (d : Nat) (hd : 1 ≤ d) {μ : Mm} {r : Int} {μ' : Mm} (h : X11_book μ = some (r, μ')) : CC d mX11_book [vR 70] μ r μ' := by
  unfold X11_book at h
  refine V_enter (by decide) (Nat.le_of_ble_eq_true rfl) ?_
  show VV d mX11_book 0 [some (vR 70), none, none] [] μ r μ'
  refine V_iconst (q := 1) dX11_book_0 rfl rfl ?_
  refine V_istore_n (q := 2) dX11_book_1 rfl (Nat.le_of_ble_eq_true rfl) trivial rfl ?_
  refine V_iconst (q := 3) dX11_book_2 rfl rfl ?_
  refine V_istore_n (q := 4) dX11_book_3 rfl (Nat.le_of_ble_eq_true rfl) trivial rfl ?_
  exact V_weak (kX11_book_L4 d hd  FU h) (sb_s rfl (sb_s rfl (sb_s rfl sb_0)))
abbrev mX11_nights : Mth := (yX11_nights, cX11_nights, 8, some .int)
theorem mi_X11_nights : Cond.instanceMethod yX11_nights ∈ tG ∧ Cond.selects yX11_nights.cls yX11_nights yX11_nights ∈ tG ∧ Cond.initialized yX11_nights.cls ∈ tG ∧ Cond.code yX11_nights cX11_nights 8 (some .int) ∈ tG ∧ (yX11_nights.cls ≠ "java/lang/invoke/MethodHandle" ∧ yX11_nights.cls ≠ "java/lang/invoke/VarHandle" ∧ (parseMethodDescriptor yX11_nights.desc).map (fun d => d.parameters.length) = some 3) ∧ 8 ≤ 60 := ⟨(tG_of (List.mem_of_getElem? (i := 1661) (by decide +kernel)) (by decide +kernel)), (tG_of (List.mem_of_getElem? (i := 1662) (by decide +kernel)) (by decide +kernel)), (tG_of (List.mem_of_getElem? (i := 112) (by decide +kernel)) (by decide +kernel)), (tG_of (List.mem_of_getElem? (i := 1663) (by decide +kernel)) (by decide +kernel)), ⟨by decide, by decide, by decide +kernel⟩, by decide⟩
theorem dX11_nights_0 : decode cX11_nights 0 = .ok (.aload_n 0, 1) := by decide +kernel
theorem dX11_nights_1 : decode cX11_nights 1 = .ok (.iload_n 1, 1) := by decide +kernel
theorem dX11_nights_2 : decode cX11_nights 2 = .ok (.invokevirtual 335, 3) := by decide +kernel
theorem dX11_nights_5 : decode cX11_nights 5 = .ok (.ifCond .eq 22, 3) := by decide +kernel
theorem dX11_nights_8 : decode cX11_nights 8 = .ok (.iload_n 2, 1) := by decide +kernel
theorem dX11_nights_9 : decode cX11_nights 9 = .ok (.iconst 1, 1) := by decide +kernel
theorem dX11_nights_10 : decode cX11_nights 10 = .ok (.bipush 30, 2) := by decide +kernel
theorem dX11_nights_12 : decode cX11_nights 12 = .ok (.invokestatic 213, 3) := by decide +kernel
theorem dX11_nights_15 : decode cX11_nights 15 = .ok (.ifCond .eq 12, 3) := by decide +kernel
theorem dX11_nights_18 : decode cX11_nights 18 = .ok (.iload_n 3, 1) := by decide +kernel
theorem dX11_nights_19 : decode cX11_nights 19 = .ok (.iconst 0, 1) := by decide +kernel
theorem dX11_nights_20 : decode cX11_nights 20 = .ok (.iconst 1, 1) := by decide +kernel
theorem dX11_nights_21 : decode cX11_nights 21 = .ok (.invokestatic 213, 3) := by decide +kernel
theorem dX11_nights_24 : decode cX11_nights 24 = .ok (.ifCond .ne 5, 3) := by decide +kernel
theorem dX11_nights_27 : decode cX11_nights 27 = .ok (.iconst (-1), 1) := by decide +kernel
theorem dX11_nights_28 : decode cX11_nights 28 = .ok (.ireturn, 1) := by decide +kernel
theorem dX11_nights_29 : decode cX11_nights 29 = .ok (.iconst (-1), 1) := by decide +kernel
theorem dX11_nights_30 : decode cX11_nights 30 = .ok (.istore 4, 2) := by decide +kernel
theorem dX11_nights_32 : decode cX11_nights 32 = .ok (.iconst 0, 1) := by decide +kernel
theorem dX11_nights_33 : decode cX11_nights 33 = .ok (.istore 5, 2) := by decide +kernel
theorem dX11_nights_35 : decode cX11_nights 35 = .ok (.iconst 0, 1) := by decide +kernel
theorem dX11_nights_36 : decode cX11_nights 36 = .ok (.istore 6, 2) := by decide +kernel
theorem dX11_nights_38 : decode cX11_nights 38 = .ok (.iload 6, 2) := by decide +kernel
theorem dX11_nights_40 : decode cX11_nights 40 = .ok (.iload_n 2, 1) := by decide +kernel
theorem dX11_nights_41 : decode cX11_nights 41 = .ok (.if_icmp .ge 61, 3) := by decide +kernel
theorem dX11_nights_44 : decode cX11_nights 44 = .ok (.aload_n 0, 1) := by decide +kernel
theorem dX11_nights_45 : decode cX11_nights 45 = .ok (.iload_n 1, 1) := by decide +kernel
theorem dX11_nights_46 : decode cX11_nights 46 = .ok (.iload 6, 2) := by decide +kernel
theorem dX11_nights_48 : decode cX11_nights 48 = .ok (.invokevirtual 310, 3) := by decide +kernel
theorem dX11_nights_51 : decode cX11_nights 51 = .ok (.aload_n 0, 1) := by decide +kernel
theorem dX11_nights_52 : decode cX11_nights 52 = .ok (.aload_n 0, 1) := by decide +kernel
theorem dX11_nights_53 : decode cX11_nights 53 = .ok (.invokevirtual 372, 3) := by decide +kernel
theorem dX11_nights_56 : decode cX11_nights 56 = .ok (.invokevirtual 341, 3) := by decide +kernel
theorem dX11_nights_59 : decode cX11_nights 59 = .ok (.ifCond .ne 5, 3) := by decide +kernel
theorem dX11_nights_62 : decode cX11_nights 62 = .ok (.iconst (-1), 1) := by decide +kernel
theorem dX11_nights_63 : decode cX11_nights 63 = .ok (.ireturn, 1) := by decide +kernel
theorem dX11_nights_64 : decode cX11_nights 64 = .ok (.aload_n 0, 1) := by decide +kernel
theorem dX11_nights_65 : decode cX11_nights 65 = .ok (.aload_n 0, 1) := by decide +kernel
theorem dX11_nights_66 : decode cX11_nights 66 = .ok (.invokevirtual 372, 3) := by decide +kernel
theorem dX11_nights_69 : decode cX11_nights 69 = .ok (.iconst 0, 1) := by decide +kernel
theorem dX11_nights_70 : decode cX11_nights 70 = .ok (.invokevirtual 344, 3) := by decide +kernel
theorem dX11_nights_73 : decode cX11_nights 73 = .ok (.istore 7, 2) := by decide +kernel
theorem dX11_nights_75 : decode cX11_nights 75 = .ok (.iload 4, 2) := by decide +kernel
theorem dX11_nights_77 : decode cX11_nights 77 = .ok (.iconst (-1), 1) := by decide +kernel
theorem dX11_nights_78 : decode cX11_nights 78 = .ok (.if_icmp .eq 10, 3) := by decide +kernel
theorem dX11_nights_81 : decode cX11_nights 81 = .ok (.iload 7, 2) := by decide +kernel
theorem dX11_nights_83 : decode cX11_nights 83 = .ok (.iload 5, 2) := by decide +kernel
theorem dX11_nights_85 : decode cX11_nights 85 = .ok (.if_icmp .le 11, 3) := by decide +kernel
theorem dX11_nights_88 : decode cX11_nights 88 = .ok (.iload 6, 2) := by decide +kernel
theorem dX11_nights_90 : decode cX11_nights 90 = .ok (.istore 4, 2) := by decide +kernel
theorem dX11_nights_92 : decode cX11_nights 92 = .ok (.iload 7, 2) := by decide +kernel
theorem dX11_nights_94 : decode cX11_nights 94 = .ok (.istore 5, 2) := by decide +kernel
theorem dX11_nights_96 : decode cX11_nights 96 = .ok (.iinc 6 1, 3) := by decide +kernel
theorem dX11_nights_99 : decode cX11_nights 99 = .ok (.goto (-61), 3) := by decide +kernel
theorem dX11_nights_102 : decode cX11_nights 102 = .ok (.iload_n 3, 1) := by decide +kernel
theorem dX11_nights_103 : decode cX11_nights 103 = .ok (.ifCond .ne 8, 3) := by decide +kernel
theorem dX11_nights_106 : decode cX11_nights 106 = .ok (.iload 4, 2) := by decide +kernel
theorem dX11_nights_108 : decode cX11_nights 108 = .ok (.goto 5, 3) := by decide +kernel
theorem dX11_nights_111 : decode cX11_nights 111 = .ok (.iload 5, 2) := by decide +kernel
theorem dX11_nights_113 : decode cX11_nights 113 = .ok (.ireturn, 1) := by decide +kernel
def X11_nights_L38 (l1 : Int) (l2 : Int) (l3 : Int) (k102 : Int → Int → Mm → Rs) : Nat → Int → Int → Int → Mm → Rs
  | 0, _, _, _, _ => none
  | n + 1, l4, l5, l6, μ => if l2 ≤ l6 then (k102 l4 l5 μ) else (bd (X11_layTimes l1 l6 μ) fun v14 μ15 => bd (X11_book μ15) fun v17 μ18 => bd (X11_go v17 μ18) fun v20 μ21 => if v20 = 0 then (some ((-1), μ21)) else (bd (X11_book μ21) fun v24 μ25 => bd (X11_tellOf v24 0 μ25) fun v27 μ28 => if l4 = (-1) then (X11_nights_L38 l1 l2 l3 k102 n l6 v27 (iA l6 1) μ28) else (if v27 ≤ l5 then (X11_nights_L38 l1 l2 l3 k102 n l4 l5 (iA l6 1) μ28) else (X11_nights_L38 l1 l2 l3 k102 n l6 v27 (iA l6 1) μ28))))
def X11_nights (l1 : Int) (l2 : Int) (l3 : Int) (μ : Mm) : Rs := bd (X11_isReady l1 μ) fun v1 μ2 => if v1 = 0 then (some ((-1), μ2)) else (bd (X11_in l2 1 30 μ2) fun v5 μ6 => if v5 = 0 then (some ((-1), μ6)) else (bd (X11_in l3 0 1 μ6) fun v9 μ10 => if v9 = 0 then (some ((-1), μ10)) else (X11_nights_L38 l1 l2 l3 (fun v32 v33 μ34 => if l3 = 0 then (some (v32, μ34)) else (some (v33, μ34))) FU (-1) 0 0 μ10)))
set_option maxHeartbeats 4000000 in
set_option maxRecDepth 100000 in
theorem kX11_nights_L38 (d : Nat) (hd : 8 ≤ d) {l1 : Int} {l2 : Int} {l3 : Int} {k102 : Int → Int → Mm → Rs} {r : Int} {μ' : Mm} (hk_102 : ∀ (v4 v5 : Int) (μ1 : Mm), k102 v4 v5 μ1 = some (r, μ') → VV d mX11_nights 102 [none, none, none, some (vI l3), some (vI v4), some (vI v5), none, none] [] μ1 r μ') : ∀ (n : Nat) {l4 l5 l6 : Int} {μ : Mm}, X11_nights_L38 l1 l2 l3 k102 n l4 l5 l6 μ = some (r, μ') → VV d mX11_nights 38 [some (vR 70), some (vI l1), some (vI l2), some (vI l3), some (vI l4), some (vI l5), some (vI l6), none] [] μ r μ' := by
  intro n
  induction n with
  | zero => intro l4 l5 l6 μ h; rw [X11_nights_L38] at h; cases h
  | succ n ih =>
    intro l4 l5 l6 μ h
    rw [X11_nights_L38] at h
    refine V_iload (q := 40) dX11_nights_38 rfl rfl ?_
    refine V_iload_n (q := 41) dX11_nights_40 rfl rfl rfl ?_
    refine V_icmpge (q := 102) (q2 := 44) dX11_nights_41 (by decide) rfl (fun hc13 => ?_) (fun hc13 => ?_)
    · have h := ifT hc13 h
      exact V_weak (hk_102 _ _ _ h) (sb_n (sb_n (sb_n (sb_s rfl (sb_s rfl (sb_s rfl (sb_n (sb_n sb_0))))))))
    · have h := ifF hc13 h
      refine V_aload_n (q := 45) dX11_nights_44 rfl rfl rfl ?_
      refine V_iload_n (q := 46) dX11_nights_45 rfl rfl rfl ?_
      refine V_iload (q := 48) dX11_nights_46 rfl rfl ?_
      obtain ⟨v14, μ15, hc16, h⟩ := bd_i h
      refine V_cV0 (q := 51) (kX11_layTimes (d - 1) (by omega) hc16) (by omega) mv_X11_310 rfl rfl rfl rfl rfl rfl dX11_nights_48 rfl ?_
      refine V_aload_n (q := 52) dX11_nights_51 rfl rfl rfl ?_
      refine V_aload_n (q := 53) dX11_nights_52 rfl rfl rfl ?_
      obtain ⟨v17, μ18, hc19, h⟩ := bd_i h
      refine V_cV1 (q := 56) (v := vI v17) (kX11_book (d - 1) (by omega) hc19) (by omega) mv_X11_372 rfl rfl rfl rfl rfl rfl dX11_nights_53 rfl ?_
      obtain ⟨v20, μ21, hc22, h⟩ := bd_i h
      refine V_cV1 (q := 59) (v := vI v20) (kX11_go (d - 1) (by omega) hc22) (by omega) mv_X11_341 rfl rfl rfl rfl rfl rfl dX11_nights_56 rfl ?_
      refine V_ifne (q := 64) (q2 := 62) dX11_nights_59 (by decide) rfl (fun hc23 => ?_) (fun hc23 => ?_)
      · have h := ifF hc23 h
        refine V_aload_n (q := 65) dX11_nights_64 rfl rfl rfl ?_
        refine V_aload_n (q := 66) dX11_nights_65 rfl rfl rfl ?_
        obtain ⟨v24, μ25, hc26, h⟩ := bd_i h
        refine V_cV1 (q := 69) (v := vI v24) (kX11_book (d - 1) (by omega) hc26) (by omega) mv_X11_372 rfl rfl rfl rfl rfl rfl dX11_nights_66 rfl ?_
        refine V_iconst (q := 70) dX11_nights_69 rfl rfl ?_
        obtain ⟨v27, μ28, hc29, h⟩ := bd_i h
        refine V_cV1 (q := 73) (v := vI v27) (kX11_tellOf (d - 1) (by omega) hc29) (by omega) mv_X11_344 rfl rfl rfl rfl rfl rfl dX11_nights_70 rfl ?_
        refine V_istore (q := 75) dX11_nights_73 (Nat.le_of_ble_eq_true rfl) trivial rfl ?_
        refine V_iload (q := 77) dX11_nights_75 rfl rfl ?_
        refine V_iconst (q := 78) dX11_nights_77 rfl rfl ?_
        refine V_icmpeq (q := 88) (q2 := 81) dX11_nights_78 (by decide) rfl (fun hc30 => ?_) (fun hc30 => ?_)
        · have h := ifT hc30 h
          refine V_iload (q := 90) dX11_nights_88 rfl rfl ?_
          refine V_istore (q := 92) dX11_nights_90 (Nat.le_of_ble_eq_true rfl) trivial rfl ?_
          refine V_iload (q := 94) dX11_nights_92 rfl rfl ?_
          refine V_istore (q := 96) dX11_nights_94 (Nat.le_of_ble_eq_true rfl) trivial rfl ?_
          refine V_iinc (q := 99) dX11_nights_96 rfl (Nat.le_of_ble_eq_true rfl) trivial rfl ?_
          refine V_goto (q := 38) dX11_nights_99 (by decide) ?_
          exact V_weak (ih h) (sb_s rfl (sb_s rfl (sb_s rfl (sb_s rfl (sb_s rfl (sb_s rfl (sb_s rfl (sb_n sb_0))))))))
        · have h := ifF hc30 h
          refine V_iload (q := 83) dX11_nights_81 rfl rfl ?_
          refine V_iload (q := 85) dX11_nights_83 rfl rfl ?_
          refine V_icmple (q := 96) (q2 := 88) dX11_nights_85 (by decide) rfl (fun hc31 => ?_) (fun hc31 => ?_)
          · have h := ifT hc31 h
            refine V_iinc (q := 99) dX11_nights_96 rfl (Nat.le_of_ble_eq_true rfl) trivial rfl ?_
            refine V_goto (q := 38) dX11_nights_99 (by decide) ?_
            exact V_weak (ih h) (sb_s rfl (sb_s rfl (sb_s rfl (sb_s rfl (sb_s rfl (sb_s rfl (sb_s rfl (sb_n sb_0))))))))
          · have h := ifF hc31 h
            refine V_iload (q := 90) dX11_nights_88 rfl rfl ?_
            refine V_istore (q := 92) dX11_nights_90 (Nat.le_of_ble_eq_true rfl) trivial rfl ?_
            refine V_iload (q := 94) dX11_nights_92 rfl rfl ?_
            refine V_istore (q := 96) dX11_nights_94 (Nat.le_of_ble_eq_true rfl) trivial rfl ?_
            refine V_iinc (q := 99) dX11_nights_96 rfl (Nat.le_of_ble_eq_true rfl) trivial rfl ?_
            refine V_goto (q := 38) dX11_nights_99 (by decide) ?_
            exact V_weak (ih h) (sb_s rfl (sb_s rfl (sb_s rfl (sb_s rfl (sb_s rfl (sb_s rfl (sb_s rfl (sb_n sb_0))))))))
      · have h := ifT hc23 h
        refine V_iconst (q := 63) dX11_nights_62 rfl rfl ?_
        exact V_iret rfl h dX11_nights_63
set_option maxHeartbeats 4000000 in
set_option maxRecDepth 100000 in
theorem kX11_nights (d : Nat) (hd : 8 ≤ d) {l1 : Int} {l2 : Int} {l3 : Int} {μ : Mm} {r : Int} {μ' : Mm} (h : X11_nights l1 l2 l3 μ = some (r, μ')) : CC d mX11_nights [vR 70, vI l1, vI l2, vI l3] μ r μ' := by
  unfold X11_nights at h
  refine V_enter (by decide) (Nat.le_of_ble_eq_true rfl) ?_
  show VV d mX11_nights 0 [some (vR 70), some (vI l1), some (vI l2), some (vI l3), none, none, none, none] [] μ r μ'
  refine V_aload_n (q := 1) dX11_nights_0 rfl rfl rfl ?_
  refine V_iload_n (q := 2) dX11_nights_1 rfl rfl rfl ?_
  obtain ⟨v1, μ2, hc3, h⟩ := bd_i h
  refine V_cV1 (q := 5) (v := vI v1) (kX11_isReady (d - 1) (by omega) hc3) (by omega) mv_X11_335 rfl rfl rfl rfl rfl rfl dX11_nights_2 rfl ?_
  refine V_ifeq (q := 27) (q2 := 8) dX11_nights_5 (by decide) rfl (fun hc4 => ?_) (fun hc4 => ?_)
  · have h := ifT hc4 h
    refine V_iconst (q := 28) dX11_nights_27 rfl rfl ?_
    exact V_iret rfl h dX11_nights_28
  · have h := ifF hc4 h
    refine V_iload_n (q := 9) dX11_nights_8 rfl rfl rfl ?_
    refine V_iconst (q := 10) dX11_nights_9 rfl rfl ?_
    refine V_bipush (q := 12) dX11_nights_10 rfl rfl rfl ?_
    obtain ⟨v5, μ6, hc7, h⟩ := bd_i h
    refine V_cS1 (q := 15) (v := vI v5) (kX11_in (d - 1) (by omega) hc7) (by omega) mv_X11_213 rfl rfl rfl rfl dX11_nights_12 rfl ?_
    refine V_ifeq (q := 27) (q2 := 18) dX11_nights_15 (by decide) rfl (fun hc8 => ?_) (fun hc8 => ?_)
    · have h := ifT hc8 h
      refine V_iconst (q := 28) dX11_nights_27 rfl rfl ?_
      exact V_iret rfl h dX11_nights_28
    · have h := ifF hc8 h
      refine V_iload_n (q := 19) dX11_nights_18 rfl rfl rfl ?_
      refine V_iconst (q := 20) dX11_nights_19 rfl rfl ?_
      refine V_iconst (q := 21) dX11_nights_20 rfl rfl ?_
      obtain ⟨v9, μ10, hc11, h⟩ := bd_i h
      refine V_cS1 (q := 24) (v := vI v9) (kX11_in (d - 1) (by omega) hc11) (by omega) mv_X11_213 rfl rfl rfl rfl dX11_nights_21 rfl ?_
      refine V_ifne (q := 29) (q2 := 27) dX11_nights_24 (by decide) rfl (fun hc12 => ?_) (fun hc12 => ?_)
      · have h := ifF hc12 h
        refine V_iconst (q := 30) dX11_nights_29 rfl rfl ?_
        refine V_istore (q := 32) dX11_nights_30 (Nat.le_of_ble_eq_true rfl) trivial rfl ?_
        refine V_iconst (q := 33) dX11_nights_32 rfl rfl ?_
        refine V_istore (q := 35) dX11_nights_33 (Nat.le_of_ble_eq_true rfl) trivial rfl ?_
        refine V_iconst (q := 36) dX11_nights_35 rfl rfl ?_
        refine V_istore (q := 38) dX11_nights_36 (Nat.le_of_ble_eq_true rfl) trivial rfl ?_
        refine V_weak (kX11_nights_L38 d hd (fun v32 v33 μ34 h => ?_) FU h) (sb_s rfl (sb_s rfl (sb_s rfl (sb_s rfl (sb_s rfl (sb_s rfl (sb_s rfl (sb_n sb_0))))))))
        refine V_iload_n (q := 103) dX11_nights_102 rfl rfl rfl ?_
        refine V_ifne (q := 111) (q2 := 106) dX11_nights_103 (by decide) rfl (fun hc35 => ?_) (fun hc35 => ?_)
        · have h := ifF hc35 h
          refine V_iload (q := 113) dX11_nights_111 rfl rfl ?_
          exact V_iret rfl h dX11_nights_113
        · have h := ifT hc35 h
          refine V_iload (q := 108) dX11_nights_106 rfl rfl ?_
          refine V_goto (q := 113) dX11_nights_108 (by decide) ?_
          exact V_iret rfl h dX11_nights_113
      · have h := ifT hc12 h
        refine V_iconst (q := 28) dX11_nights_27 rfl rfl ?_
        exact V_iret rfl h dX11_nights_28
abbrev mX11_thud : Mth := (yX11_thud, cX11_thud, 3, some .int)
theorem mi_X11_thud : Cond.instanceMethod yX11_thud ∈ tG ∧ Cond.selects yX11_thud.cls yX11_thud yX11_thud ∈ tG ∧ Cond.initialized yX11_thud.cls ∈ tG ∧ Cond.code yX11_thud cX11_thud 3 (some .int) ∈ tG ∧ (yX11_thud.cls ≠ "java/lang/invoke/MethodHandle" ∧ yX11_thud.cls ≠ "java/lang/invoke/VarHandle" ∧ (parseMethodDescriptor yX11_thud.desc).map (fun d => d.parameters.length) = some 2) ∧ 3 ≤ 60 := ⟨(tG_of (List.mem_of_getElem? (i := 1669) (by decide +kernel)) (by decide +kernel)), (tG_of (List.mem_of_getElem? (i := 1670) (by decide +kernel)) (by decide +kernel)), (tG_of (List.mem_of_getElem? (i := 112) (by decide +kernel)) (by decide +kernel)), (tG_of (List.mem_of_getElem? (i := 1671) (by decide +kernel)) (by decide +kernel)), ⟨by decide, by decide, by decide +kernel⟩, by decide⟩
theorem dX11_thud_0 : decode cX11_thud 0 = .ok (.aload_n 0, 1) := by decide +kernel
theorem dX11_thud_1 : decode cX11_thud 1 = .ok (.iload_n 2, 1) := by decide +kernel
theorem dX11_thud_2 : decode cX11_thud 2 = .ok (.invokevirtual 284, 3) := by decide +kernel
theorem dX11_thud_5 : decode cX11_thud 5 = .ok (.ifCond .eq 23, 3) := by decide +kernel
theorem dX11_thud_8 : decode cX11_thud 8 = .ok (.iload_n 1, 1) := by decide +kernel
theorem dX11_thud_9 : decode cX11_thud 9 = .ok (.iconst 0, 1) := by decide +kernel
theorem dX11_thud_10 : decode cX11_thud 10 = .ok (.sipush 999, 3) := by decide +kernel
theorem dX11_thud_13 : decode cX11_thud 13 = .ok (.invokestatic 213, 3) := by decide +kernel
theorem dX11_thud_16 : decode cX11_thud 16 = .ok (.ifCond .eq 12, 3) := by decide +kernel
theorem dX11_thud_19 : decode cX11_thud 19 = .ok (.aload_n 0, 1) := by decide +kernel
theorem dX11_thud_20 : decode cX11_thud 20 = .ok (.getfield 261, 3) := by decide +kernel
theorem dX11_thud_23 : decode cX11_thud 23 = .ok (.bipush 10, 2) := by decide +kernel
theorem dX11_thud_25 : decode cX11_thud 25 = .ok (.if_icmp .ne 5, 3) := by decide +kernel
theorem dX11_thud_28 : decode cX11_thud 28 = .ok (.iconst (-1), 1) := by decide +kernel
theorem dX11_thud_29 : decode cX11_thud 29 = .ok (.ireturn, 1) := by decide +kernel
theorem dX11_thud_30 : decode cX11_thud 30 = .ok (.aload_n 0, 1) := by decide +kernel
theorem dX11_thud_31 : decode cX11_thud 31 = .ok (.getfield 83, 3) := by decide +kernel
theorem dX11_thud_34 : decode cX11_thud 34 = .ok (.aload_n 0, 1) := by decide +kernel
theorem dX11_thud_35 : decode cX11_thud 35 = .ok (.getfield 261, 3) := by decide +kernel
theorem dX11_thud_38 : decode cX11_thud 38 = .ok (.iload_n 1, 1) := by decide +kernel
theorem dX11_thud_39 : decode cX11_thud 39 = .ok (.iastore, 1) := by decide +kernel
theorem dX11_thud_40 : decode cX11_thud 40 = .ok (.aload_n 0, 1) := by decide +kernel
theorem dX11_thud_41 : decode cX11_thud 41 = .ok (.getfield 86, 3) := by decide +kernel
theorem dX11_thud_44 : decode cX11_thud 44 = .ok (.aload_n 0, 1) := by decide +kernel
theorem dX11_thud_45 : decode cX11_thud 45 = .ok (.getfield 261, 3) := by decide +kernel
theorem dX11_thud_48 : decode cX11_thud 48 = .ok (.iload_n 2, 1) := by decide +kernel
theorem dX11_thud_49 : decode cX11_thud 49 = .ok (.iastore, 1) := by decide +kernel
theorem dX11_thud_50 : decode cX11_thud 50 = .ok (.aload_n 0, 1) := by decide +kernel
theorem dX11_thud_51 : decode cX11_thud 51 = .ok (.dup, 1) := by decide +kernel
theorem dX11_thud_52 : decode cX11_thud 52 = .ok (.getfield 261, 3) := by decide +kernel
theorem dX11_thud_55 : decode cX11_thud 55 = .ok (.iconst 1, 1) := by decide +kernel
theorem dX11_thud_56 : decode cX11_thud 56 = .ok (.iadd, 1) := by decide +kernel
theorem dX11_thud_57 : decode cX11_thud 57 = .ok (.putfield 261, 3) := by decide +kernel
theorem dX11_thud_60 : decode cX11_thud 60 = .ok (.aload_n 0, 1) := by decide +kernel
theorem dX11_thud_61 : decode cX11_thud 61 = .ok (.getfield 261, 3) := by decide +kernel
theorem dX11_thud_64 : decode cX11_thud 64 = .ok (.ireturn, 1) := by decide +kernel
def X11_thud (l1 : Int) (l2 : Int) (μ : Mm) : Rs := bd (X11_isCrank l2 μ) fun v1 μ2 => if v1 = 0 then (some ((-1), μ2)) else (bd (X11_in l1 0 999 μ2) fun v5 μ6 => if v5 = 0 then (some ((-1), μ6)) else (if (μ6 70 45) = 10 then (some ((-1), μ6)) else (stA μ6 93 (μ6 70 45) l1 fun μ10 => stA μ10 94 (μ10 70 45) l2 fun μ12 => sF μ12 70 45 (iA (μ12 70 45) 1) fun μ14 => some (μ14 70 45, μ14))))
set_option maxHeartbeats 4000000 in
set_option maxRecDepth 100000 in
theorem kX11_thud (d : Nat) (hd : 4 ≤ d) {l1 : Int} {l2 : Int} {μ : Mm} {r : Int} {μ' : Mm} (h : X11_thud l1 l2 μ = some (r, μ')) : CC d mX11_thud [vR 70, vI l1, vI l2] μ r μ' := by
  unfold X11_thud at h
  refine V_enter (by decide) (Nat.le_of_ble_eq_true rfl) ?_
  show VV d mX11_thud 0 [some (vR 70), some (vI l1), some (vI l2)] [] μ r μ'
  refine V_aload_n (q := 1) dX11_thud_0 rfl rfl rfl ?_
  refine V_iload_n (q := 2) dX11_thud_1 rfl rfl rfl ?_
  obtain ⟨v1, μ2, hc3, h⟩ := bd_i h
  refine V_cV1 (q := 5) (v := vI v1) (kX11_isCrank (d - 1) (by omega) hc3) (by omega) mv_X11_284 rfl rfl rfl rfl rfl rfl dX11_thud_2 rfl ?_
  refine V_ifeq (q := 28) (q2 := 8) dX11_thud_5 (by decide) rfl (fun hc4 => ?_) (fun hc4 => ?_)
  · have h := ifT hc4 h
    refine V_iconst (q := 29) dX11_thud_28 rfl rfl ?_
    exact V_iret rfl h dX11_thud_29
  · have h := ifF hc4 h
    refine V_iload_n (q := 9) dX11_thud_8 rfl rfl rfl ?_
    refine V_iconst (q := 10) dX11_thud_9 rfl rfl ?_
    refine V_sipush (q := 13) dX11_thud_10 rfl rfl rfl ?_
    obtain ⟨v5, μ6, hc7, h⟩ := bd_i h
    refine V_cS1 (q := 16) (v := vI v5) (kX11_in (d - 1) (by omega) hc7) (by omega) mv_X11_213 rfl rfl rfl rfl dX11_thud_13 rfl ?_
    refine V_ifeq (q := 28) (q2 := 19) dX11_thud_16 (by decide) rfl (fun hc8 => ?_) (fun hc8 => ?_)
    · have h := ifT hc8 h
      refine V_iconst (q := 29) dX11_thud_28 rfl rfl ?_
      exact V_iret rfl h dX11_thud_29
    · have h := ifF hc8 h
      refine V_aload_n (q := 20) dX11_thud_19 rfl rfl rfl ?_
      refine V_getI (q := 23) fl_X11_261 rfl rfl rfl dX11_thud_20 rfl ?_
      refine V_bipush (q := 25) dX11_thud_23 rfl rfl rfl ?_
      refine V_icmpne (q := 30) (q2 := 28) dX11_thud_25 (by decide) rfl (fun hc9 => ?_) (fun hc9 => ?_)
      · have h := ifF hc9 h
        refine V_aload_n (q := 31) dX11_thud_30 rfl rfl rfl ?_
        refine V_getO (q := 34) (t := 93) fl_X11_83 rfl rfl rfl rfl dX11_thud_31 rfl ?_
        refine V_aload_n (q := 35) dX11_thud_34 rfl rfl rfl ?_
        refine V_getI (q := 38) fl_X11_261 rfl rfl rfl dX11_thud_35 rfl ?_
        refine V_iload_n (q := 39) dX11_thud_38 rfl rfl rfl ?_
        obtain ⟨hi11, h⟩ := stA_i h
        refine V_iastore (q := 40) rfl hi11 dX11_thud_39 rfl ?_
        refine V_aload_n (q := 41) dX11_thud_40 rfl rfl rfl ?_
        refine V_getO (q := 44) (t := 94) fl_X11_86 rfl rfl rfl rfl dX11_thud_41 rfl ?_
        refine V_aload_n (q := 45) dX11_thud_44 rfl rfl rfl ?_
        refine V_getI (q := 48) fl_X11_261 rfl rfl rfl dX11_thud_45 rfl ?_
        refine V_iload_n (q := 49) dX11_thud_48 rfl rfl rfl ?_
        obtain ⟨hi13, h⟩ := stA_i h
        refine V_iastore (q := 50) rfl hi13 dX11_thud_49 rfl ?_
        refine V_aload_n (q := 51) dX11_thud_50 rfl rfl rfl ?_
        refine V_dup (q := 52) dX11_thud_51 trivial rfl ?_
        refine V_getI (q := 55) fl_X11_261 rfl rfl rfl dX11_thud_52 rfl ?_
        refine V_iconst (q := 56) dX11_thud_55 rfl rfl ?_
        refine V_iadd (q := 57) dX11_thud_56 rfl ?_
        have h := sF_i h
        refine V_putI (q := 60) fl_X11_261 rfl rfl rfl dX11_thud_57 rfl ?_
        refine V_aload_n (q := 61) dX11_thud_60 rfl rfl rfl ?_
        refine V_getI (q := 64) fl_X11_261 rfl rfl rfl dX11_thud_61 rfl ?_
        exact V_iret rfl h dX11_thud_64
      · have h := ifT hc9 h
        refine V_iconst (q := 29) dX11_thud_28 rfl rfl ?_
        exact V_iret rfl h dX11_thud_29
abbrev mX11_fits : Mth := (yX11_fits, cX11_fits, 5, some .boolean)
theorem mi_X11_fits : Cond.instanceMethod yX11_fits ∈ tG ∧ Cond.selects yX11_fits.cls yX11_fits yX11_fits ∈ tG ∧ Cond.initialized yX11_fits.cls ∈ tG ∧ Cond.code yX11_fits cX11_fits 5 (some .boolean) ∈ tG ∧ (yX11_fits.cls ≠ "java/lang/invoke/MethodHandle" ∧ yX11_fits.cls ≠ "java/lang/invoke/VarHandle" ∧ (parseMethodDescriptor yX11_fits.desc).map (fun d => d.parameters.length) = some 1) ∧ 5 ≤ 60 := ⟨(tG_of (List.mem_of_getElem? (i := 1682) (by decide +kernel)) (by decide +kernel)), (tG_of (List.mem_of_getElem? (i := 97) (by decide +kernel)) (by decide +kernel)), (tG_of (List.mem_of_getElem? (i := 112) (by decide +kernel)) (by decide +kernel)), (tG_of (List.mem_of_getElem? (i := 1683) (by decide +kernel)) (by decide +kernel)), ⟨by decide, by decide, by decide +kernel⟩, by decide⟩
theorem mv_X11_375 : mV RX11 375 mX11_fits 1 := ⟨(tG_of (List.mem_of_getElem? (i := 1680) (by decide +kernel)) (by decide +kernel)), mi_X11_fits⟩
theorem dX11_fits_0 : decode cX11_fits 0 = .ok (.iconst 0, 1) := by decide +kernel
theorem dX11_fits_1 : decode cX11_fits 1 = .ok (.istore_n 2, 1) := by decide +kernel
theorem dX11_fits_2 : decode cX11_fits 2 = .ok (.iload_n 2, 1) := by decide +kernel
theorem dX11_fits_3 : decode cX11_fits 3 = .ok (.aload_n 0, 1) := by decide +kernel
theorem dX11_fits_4 : decode cX11_fits 4 = .ok (.getfield 261, 3) := by decide +kernel
theorem dX11_fits_7 : decode cX11_fits 7 = .ok (.if_icmp .ge 92, 3) := by decide +kernel
theorem dX11_fits_10 : decode cX11_fits 10 = .ok (.iconst 0, 1) := by decide +kernel
theorem dX11_fits_11 : decode cX11_fits 11 = .ok (.istore_n 3, 1) := by decide +kernel
theorem dX11_fits_12 : decode cX11_fits 12 = .ok (.iconst 0, 1) := by decide +kernel
theorem dX11_fits_13 : decode cX11_fits 13 = .ok (.istore 4, 2) := by decide +kernel
theorem dX11_fits_15 : decode cX11_fits 15 = .ok (.iload 4, 2) := by decide +kernel
theorem dX11_fits_17 : decode cX11_fits 17 = .ok (.aload_n 0, 1) := by decide +kernel
theorem dX11_fits_18 : decode cX11_fits 18 = .ok (.getfield 316, 3) := by decide +kernel
theorem dX11_fits_21 : decode cX11_fits 21 = .ok (.if_icmp .ge 66, 3) := by decide +kernel
theorem dX11_fits_24 : decode cX11_fits 24 = .ok (.iload_n 3, 1) := by decide +kernel
theorem dX11_fits_25 : decode cX11_fits 25 = .ok (.ifCond .ne 50, 3) := by decide +kernel
theorem dX11_fits_28 : decode cX11_fits 28 = .ok (.aload_n 0, 1) := by decide +kernel
theorem dX11_fits_29 : decode cX11_fits 29 = .ok (.getfield 46, 3) := by decide +kernel
theorem dX11_fits_32 : decode cX11_fits 32 = .ok (.bipush 8, 2) := by decide +kernel
theorem dX11_fits_34 : decode cX11_fits 34 = .ok (.iload_n 1, 1) := by decide +kernel
theorem dX11_fits_35 : decode cX11_fits 35 = .ok (.imul, 1) := by decide +kernel
theorem dX11_fits_36 : decode cX11_fits 36 = .ok (.iload 4, 2) := by decide +kernel
theorem dX11_fits_38 : decode cX11_fits 38 = .ok (.iadd, 1) := by decide +kernel
theorem dX11_fits_39 : decode cX11_fits 39 = .ok (.iaload, 1) := by decide +kernel
theorem dX11_fits_40 : decode cX11_fits 40 = .ok (.aload_n 0, 1) := by decide +kernel
theorem dX11_fits_41 : decode cX11_fits 41 = .ok (.getfield 86, 3) := by decide +kernel
theorem dX11_fits_44 : decode cX11_fits 44 = .ok (.iload_n 2, 1) := by decide +kernel
theorem dX11_fits_45 : decode cX11_fits 45 = .ok (.iaload, 1) := by decide +kernel
theorem dX11_fits_46 : decode cX11_fits 46 = .ok (.if_icmp .ne 33, 3) := by decide +kernel
theorem dX11_fits_49 : decode cX11_fits 49 = .ok (.aload_n 0, 1) := by decide +kernel
theorem dX11_fits_50 : decode cX11_fits 50 = .ok (.getfield 83, 3) := by decide +kernel
theorem dX11_fits_53 : decode cX11_fits 53 = .ok (.iload_n 2, 1) := by decide +kernel
theorem dX11_fits_54 : decode cX11_fits 54 = .ok (.iaload, 1) := by decide +kernel
theorem dX11_fits_55 : decode cX11_fits 55 = .ok (.aload_n 0, 1) := by decide +kernel
theorem dX11_fits_56 : decode cX11_fits 56 = .ok (.getfield 77, 3) := by decide +kernel
theorem dX11_fits_59 : decode cX11_fits 59 = .ok (.iload 4, 2) := by decide +kernel
theorem dX11_fits_61 : decode cX11_fits 61 = .ok (.iaload, 1) := by decide +kernel
theorem dX11_fits_62 : decode cX11_fits 62 = .ok (.aload_n 0, 1) := by decide +kernel
theorem dX11_fits_63 : decode cX11_fits 63 = .ok (.getfield 80, 3) := by decide +kernel
theorem dX11_fits_66 : decode cX11_fits 66 = .ok (.iload 4, 2) := by decide +kernel
theorem dX11_fits_68 : decode cX11_fits 68 = .ok (.iaload, 1) := by decide +kernel
theorem dX11_fits_69 : decode cX11_fits 69 = .ok (.invokestatic 213, 3) := by decide +kernel
theorem dX11_fits_72 : decode cX11_fits 72 = .ok (.ifCond .eq 7, 3) := by decide +kernel
theorem dX11_fits_75 : decode cX11_fits 75 = .ok (.iconst 1, 1) := by decide +kernel
theorem dX11_fits_76 : decode cX11_fits 76 = .ok (.goto 4, 3) := by decide +kernel
theorem dX11_fits_79 : decode cX11_fits 79 = .ok (.iconst 0, 1) := by decide +kernel
theorem dX11_fits_80 : decode cX11_fits 80 = .ok (.istore_n 3, 1) := by decide +kernel
theorem dX11_fits_81 : decode cX11_fits 81 = .ok (.iinc 4 1, 3) := by decide +kernel
theorem dX11_fits_84 : decode cX11_fits 84 = .ok (.goto (-69), 3) := by decide +kernel
theorem dX11_fits_87 : decode cX11_fits 87 = .ok (.iload_n 3, 1) := by decide +kernel
theorem dX11_fits_88 : decode cX11_fits 88 = .ok (.ifCond .ne 5, 3) := by decide +kernel
theorem dX11_fits_91 : decode cX11_fits 91 = .ok (.iconst 0, 1) := by decide +kernel
theorem dX11_fits_92 : decode cX11_fits 92 = .ok (.ireturn, 1) := by decide +kernel
theorem dX11_fits_93 : decode cX11_fits 93 = .ok (.iinc 2 1, 3) := by decide +kernel
theorem dX11_fits_96 : decode cX11_fits 96 = .ok (.goto (-94), 3) := by decide +kernel
theorem dX11_fits_99 : decode cX11_fits 99 = .ok (.iconst 1, 1) := by decide +kernel
theorem dX11_fits_100 : decode cX11_fits 100 = .ok (.ireturn, 1) := by decide +kernel
def X11_fits_L15 (l1 : Int) (l2 : Int) (k87 : Int → Mm → Rs) : Nat → Int → Int → Mm → Rs
  | 0, _, _, _ => none
  | n + 1, l3, l4, μ => if (μ 70 37) ≤ l4 then (k87 l3 μ) else (if l3 = 0 then (ldA μ 83 (iA (iM 8 l1) l4) fun v4 => ldA μ 94 l2 fun v6 => if v4 = v6 then (ldA μ 93 l2 fun v9 => ldA μ 91 l4 fun v11 => ldA μ 92 l4 fun v13 => bd (X11_in v9 v11 v13 μ) fun v15 μ16 => if v15 = 0 then (X11_fits_L15 l1 l2 k87 n 0 (iA l4 1) μ16) else (X11_fits_L15 l1 l2 k87 n 1 (iA l4 1) μ16)) else (X11_fits_L15 l1 l2 k87 n 0 (iA l4 1) μ)) else (X11_fits_L15 l1 l2 k87 n 1 (iA l4 1) μ))
def X11_fits_L2 (l1 : Int) : Nat → Int → Mm → Rs
  | 0, _, _ => none
  | n + 1, l2, μ => if (μ 70 45) ≤ l2 then (some (1, μ)) else (X11_fits_L15 l1 l2 (fun v19 μ20 => if v19 = 0 then (some (0, μ20)) else (X11_fits_L2 l1 n (iA l2 1) μ20)) FU 0 0 μ)
def X11_fits (l1 : Int) (μ : Mm) : Rs := X11_fits_L2 l1 FU 0 μ
set_option maxHeartbeats 4000000 in
set_option maxRecDepth 100000 in
theorem kX11_fits_L15 (d : Nat) (hd : 2 ≤ d) {l1 : Int} {l2 : Int} {k87 : Int → Mm → Rs} {r : Int} {μ' : Mm} (hk_87 : ∀ (v3 : Int) (μ1 : Mm), k87 v3 μ1 = some (r, μ') → VV d mX11_fits 87 [some (vR 70), some (vI l1), some (vI l2), some (vI v3), none] [] μ1 r μ') : ∀ (n : Nat) {l3 l4 : Int} {μ : Mm}, X11_fits_L15 l1 l2 k87 n l3 l4 μ = some (r, μ') → VV d mX11_fits 15 [some (vR 70), some (vI l1), some (vI l2), some (vI l3), some (vI l4)] [] μ r μ' := by
  intro n
  induction n with
  | zero => intro l3 l4 μ h; rw [X11_fits_L15] at h; cases h
  | succ n ih =>
    intro l3 l4 μ h
    rw [X11_fits_L15] at h
    refine V_iload (q := 17) dX11_fits_15 rfl rfl ?_
    refine V_aload_n (q := 18) dX11_fits_17 rfl rfl rfl ?_
    refine V_getI (q := 21) fl_X11_316 rfl rfl rfl dX11_fits_18 rfl ?_
    refine V_icmpge (q := 87) (q2 := 24) dX11_fits_21 (by decide) rfl (fun hc2 => ?_) (fun hc2 => ?_)
    · have h := ifT hc2 h
      exact V_weak (hk_87 _ _ h) (sb_s rfl (sb_s rfl (sb_s rfl (sb_s rfl (sb_n sb_0)))))
    · have h := ifF hc2 h
      refine V_iload_n (q := 25) dX11_fits_24 rfl rfl rfl ?_
      refine V_ifne (q := 75) (q2 := 28) dX11_fits_25 (by decide) rfl (fun hc3 => ?_) (fun hc3 => ?_)
      · have h := ifF hc3 h
        refine V_iconst (q := 76) dX11_fits_75 rfl rfl ?_
        refine V_goto (q := 80) dX11_fits_76 (by decide) ?_
        refine V_istore_n (q := 81) dX11_fits_80 rfl (Nat.le_of_ble_eq_true rfl) trivial rfl ?_
        refine V_iinc (q := 84) dX11_fits_81 rfl (Nat.le_of_ble_eq_true rfl) trivial rfl ?_
        refine V_goto (q := 15) dX11_fits_84 (by decide) ?_
        exact V_weak (ih h) (sb_s rfl (sb_s rfl (sb_s rfl (sb_s rfl (sb_s rfl sb_0)))))
      · have h := ifT hc3 h
        refine V_aload_n (q := 29) dX11_fits_28 rfl rfl rfl ?_
        refine V_getO (q := 32) (t := 83) fl_X11_46 rfl rfl rfl rfl dX11_fits_29 rfl ?_
        refine V_bipush (q := 34) dX11_fits_32 rfl rfl rfl ?_
        refine V_iload_n (q := 35) dX11_fits_34 rfl rfl rfl ?_
        refine V_imul (q := 36) dX11_fits_35 rfl ?_
        refine V_iload (q := 38) dX11_fits_36 rfl rfl ?_
        refine V_iadd (q := 39) dX11_fits_38 rfl ?_
        obtain ⟨hi5, h⟩ := ldA_i h
        refine V_iaload (q := 40) rfl hi5 dX11_fits_39 rfl ?_
        refine V_aload_n (q := 41) dX11_fits_40 rfl rfl rfl ?_
        refine V_getO (q := 44) (t := 94) fl_X11_86 rfl rfl rfl rfl dX11_fits_41 rfl ?_
        refine V_iload_n (q := 45) dX11_fits_44 rfl rfl rfl ?_
        obtain ⟨hi7, h⟩ := ldA_i h
        refine V_iaload (q := 46) rfl hi7 dX11_fits_45 rfl ?_
        refine V_icmpne (q := 79) (q2 := 49) dX11_fits_46 (by decide) rfl (fun hc8 => ?_) (fun hc8 => ?_)
        · have h := ifF hc8 h
          refine V_iconst (q := 80) dX11_fits_79 rfl rfl ?_
          refine V_istore_n (q := 81) dX11_fits_80 rfl (Nat.le_of_ble_eq_true rfl) trivial rfl ?_
          refine V_iinc (q := 84) dX11_fits_81 rfl (Nat.le_of_ble_eq_true rfl) trivial rfl ?_
          refine V_goto (q := 15) dX11_fits_84 (by decide) ?_
          exact V_weak (ih h) (sb_s rfl (sb_s rfl (sb_s rfl (sb_s rfl (sb_s rfl sb_0)))))
        · have h := ifT hc8 h
          refine V_aload_n (q := 50) dX11_fits_49 rfl rfl rfl ?_
          refine V_getO (q := 53) (t := 93) fl_X11_83 rfl rfl rfl rfl dX11_fits_50 rfl ?_
          refine V_iload_n (q := 54) dX11_fits_53 rfl rfl rfl ?_
          obtain ⟨hi10, h⟩ := ldA_i h
          refine V_iaload (q := 55) rfl hi10 dX11_fits_54 rfl ?_
          refine V_aload_n (q := 56) dX11_fits_55 rfl rfl rfl ?_
          refine V_getO (q := 59) (t := 91) fl_X11_77 rfl rfl rfl rfl dX11_fits_56 rfl ?_
          refine V_iload (q := 61) dX11_fits_59 rfl rfl ?_
          obtain ⟨hi12, h⟩ := ldA_i h
          refine V_iaload (q := 62) rfl hi12 dX11_fits_61 rfl ?_
          refine V_aload_n (q := 63) dX11_fits_62 rfl rfl rfl ?_
          refine V_getO (q := 66) (t := 92) fl_X11_80 rfl rfl rfl rfl dX11_fits_63 rfl ?_
          refine V_iload (q := 68) dX11_fits_66 rfl rfl ?_
          obtain ⟨hi14, h⟩ := ldA_i h
          refine V_iaload (q := 69) rfl hi14 dX11_fits_68 rfl ?_
          obtain ⟨v15, μ16, hc17, h⟩ := bd_i h
          refine V_cS1 (q := 72) (v := vI v15) (kX11_in (d - 1) (by omega) hc17) (by omega) mv_X11_213 rfl rfl rfl rfl dX11_fits_69 rfl ?_
          refine V_ifeq (q := 79) (q2 := 75) dX11_fits_72 (by decide) rfl (fun hc18 => ?_) (fun hc18 => ?_)
          · have h := ifT hc18 h
            refine V_iconst (q := 80) dX11_fits_79 rfl rfl ?_
            refine V_istore_n (q := 81) dX11_fits_80 rfl (Nat.le_of_ble_eq_true rfl) trivial rfl ?_
            refine V_iinc (q := 84) dX11_fits_81 rfl (Nat.le_of_ble_eq_true rfl) trivial rfl ?_
            refine V_goto (q := 15) dX11_fits_84 (by decide) ?_
            exact V_weak (ih h) (sb_s rfl (sb_s rfl (sb_s rfl (sb_s rfl (sb_s rfl sb_0)))))
          · have h := ifF hc18 h
            refine V_iconst (q := 76) dX11_fits_75 rfl rfl ?_
            refine V_goto (q := 80) dX11_fits_76 (by decide) ?_
            refine V_istore_n (q := 81) dX11_fits_80 rfl (Nat.le_of_ble_eq_true rfl) trivial rfl ?_
            refine V_iinc (q := 84) dX11_fits_81 rfl (Nat.le_of_ble_eq_true rfl) trivial rfl ?_
            refine V_goto (q := 15) dX11_fits_84 (by decide) ?_
            exact V_weak (ih h) (sb_s rfl (sb_s rfl (sb_s rfl (sb_s rfl (sb_s rfl sb_0)))))
set_option maxHeartbeats 4000000 in
set_option maxRecDepth 100000 in
theorem kX11_fits_L2 (d : Nat) (hd : 2 ≤ d) {l1 : Int} {r : Int} {μ' : Mm} : ∀ (n : Nat) {l2 : Int} {μ : Mm}, X11_fits_L2 l1 n l2 μ = some (r, μ') → VV d mX11_fits 2 [some (vR 70), some (vI l1), some (vI l2), none, none] [] μ r μ' := by
  intro n
  induction n with
  | zero => intro l2 μ h; rw [X11_fits_L2] at h; cases h
  | succ n ih =>
    intro l2 μ h
    rw [X11_fits_L2] at h
    refine V_iload_n (q := 3) dX11_fits_2 rfl rfl rfl ?_
    refine V_aload_n (q := 4) dX11_fits_3 rfl rfl rfl ?_
    refine V_getI (q := 7) fl_X11_261 rfl rfl rfl dX11_fits_4 rfl ?_
    refine V_icmpge (q := 99) (q2 := 10) dX11_fits_7 (by decide) rfl (fun hc1 => ?_) (fun hc1 => ?_)
    · have h := ifT hc1 h
      refine V_iconst (q := 100) dX11_fits_99 rfl rfl ?_
      exact V_zret rfl (Or.inr rfl) h dX11_fits_100
    · have h := ifF hc1 h
      refine V_iconst (q := 11) dX11_fits_10 rfl rfl ?_
      refine V_istore_n (q := 12) dX11_fits_11 rfl (Nat.le_of_ble_eq_true rfl) trivial rfl ?_
      refine V_iconst (q := 13) dX11_fits_12 rfl rfl ?_
      refine V_istore (q := 15) dX11_fits_13 (Nat.le_of_ble_eq_true rfl) trivial rfl ?_
      refine V_weak (kX11_fits_L15 d hd (fun v19 μ20 h => ?_) FU h) (sb_s rfl (sb_s rfl (sb_s rfl (sb_s rfl (sb_s rfl sb_0)))))
      refine V_iload_n (q := 88) dX11_fits_87 rfl rfl rfl ?_
      refine V_ifne (q := 93) (q2 := 91) dX11_fits_88 (by decide) rfl (fun hc21 => ?_) (fun hc21 => ?_)
      · have h := ifF hc21 h
        refine V_iinc (q := 96) dX11_fits_93 rfl (Nat.le_of_ble_eq_true rfl) trivial rfl ?_
        refine V_goto (q := 2) dX11_fits_96 (by decide) ?_
        exact V_weak (ih h) (sb_s rfl (sb_s rfl (sb_s rfl (sb_n (sb_n sb_0)))))
      · have h := ifT hc21 h
        refine V_iconst (q := 92) dX11_fits_91 rfl rfl ?_
        exact V_zret rfl (Or.inl rfl) h dX11_fits_92
set_option maxHeartbeats 4000000 in
set_option maxRecDepth 100000 in
theorem kX11_fits (d : Nat) (hd : 2 ≤ d) {l1 : Int} {μ : Mm} {r : Int} {μ' : Mm} (h : X11_fits l1 μ = some (r, μ')) : CC d mX11_fits [vR 70, vI l1] μ r μ' := by
  unfold X11_fits at h
  refine V_enter (by decide) (Nat.le_of_ble_eq_true rfl) ?_
  show VV d mX11_fits 0 [some (vR 70), some (vI l1), none, none, none] [] μ r μ'
  refine V_iconst (q := 1) dX11_fits_0 rfl rfl ?_
  refine V_istore_n (q := 2) dX11_fits_1 rfl (Nat.le_of_ble_eq_true rfl) trivial rfl ?_
  exact V_weak (kX11_fits_L2 d hd  FU h) (sb_s rfl (sb_s rfl (sb_s rfl (sb_n (sb_n sb_0)))))
abbrev mX11_fitFrom : Mth := (yX11_fitFrom, cX11_fitFrom, 6, none)
theorem mi_X11_fitFrom : Cond.instanceMethod yX11_fitFrom ∈ tG ∧ Cond.selects yX11_fitFrom.cls yX11_fitFrom yX11_fitFrom ∈ tG ∧ Cond.initialized yX11_fitFrom.cls ∈ tG ∧ Cond.code yX11_fitFrom cX11_fitFrom 6 (none) ∈ tG ∧ (yX11_fitFrom.cls ≠ "java/lang/invoke/MethodHandle" ∧ yX11_fitFrom.cls ≠ "java/lang/invoke/VarHandle" ∧ (parseMethodDescriptor yX11_fitFrom.desc).map (fun d => d.parameters.length) = some 4) ∧ 6 ≤ 60 := ⟨(tG_of (List.mem_of_getElem? (i := 1678) (by decide +kernel)) (by decide +kernel)), (tG_of (List.mem_of_getElem? (i := 96) (by decide +kernel)) (by decide +kernel)), (tG_of (List.mem_of_getElem? (i := 112) (by decide +kernel)) (by decide +kernel)), (tG_of (List.mem_of_getElem? (i := 1679) (by decide +kernel)) (by decide +kernel)), ⟨by decide, by decide, by decide +kernel⟩, by decide⟩
theorem mv_X11_384 : mV RX11 384 mX11_fitFrom 4 := ⟨(tG_of (List.mem_of_getElem? (i := 1676) (by decide +kernel)) (by decide +kernel)), mi_X11_fitFrom⟩
theorem dX11_fitFrom_0 : decode cX11_fitFrom 0 = .ok (.iload_n 2, 1) := by decide +kernel
theorem dX11_fitFrom_1 : decode cX11_fitFrom 1 = .ok (.ifCond .ne 51, 3) := by decide +kernel
theorem dX11_fitFrom_4 : decode cX11_fitFrom 4 = .ok (.aload_n 0, 1) := by decide +kernel
theorem dX11_fitFrom_5 : decode cX11_fitFrom 5 = .ok (.iload_n 3, 1) := by decide +kernel
theorem dX11_fitFrom_6 : decode cX11_fitFrom 6 = .ok (.invokevirtual 341, 3) := by decide +kernel
theorem dX11_fitFrom_9 : decode cX11_fitFrom 9 = .ok (.ifCond .eq 42, 3) := by decide +kernel
theorem dX11_fitFrom_12 : decode cX11_fitFrom 12 = .ok (.aload_n 0, 1) := by decide +kernel
theorem dX11_fitFrom_13 : decode cX11_fitFrom 13 = .ok (.iload_n 1, 1) := by decide +kernel
theorem dX11_fitFrom_14 : decode cX11_fitFrom 14 = .ok (.invokevirtual 375, 3) := by decide +kernel
theorem dX11_fitFrom_17 : decode cX11_fitFrom 17 = .ok (.ifCond .eq 34, 3) := by decide +kernel
theorem dX11_fitFrom_20 : decode cX11_fitFrom 20 = .ok (.aload_n 0, 1) := by decide +kernel
theorem dX11_fitFrom_21 : decode cX11_fitFrom 21 = .ok (.aload_n 0, 1) := by decide +kernel
theorem dX11_fitFrom_22 : decode cX11_fitFrom 22 = .ok (.getfield 378, 3) := by decide +kernel
theorem dX11_fitFrom_25 : decode cX11_fitFrom 25 = .ok (.iload 4, 2) := by decide +kernel
theorem dX11_fitFrom_27 : decode cX11_fitFrom 27 = .ok (.if_icmp .ne 7, 3) := by decide +kernel
theorem dX11_fitFrom_30 : decode cX11_fitFrom 30 = .ok (.iload_n 3, 1) := by decide +kernel
theorem dX11_fitFrom_31 : decode cX11_fitFrom 31 = .ok (.goto 7, 3) := by decide +kernel
theorem dX11_fitFrom_34 : decode cX11_fitFrom 34 = .ok (.aload_n 0, 1) := by decide +kernel
theorem dX11_fitFrom_35 : decode cX11_fitFrom 35 = .ok (.getfield 381, 3) := by decide +kernel
theorem dX11_fitFrom_38 : decode cX11_fitFrom 38 = .ok (.putfield 381, 3) := by decide +kernel
theorem dX11_fitFrom_41 : decode cX11_fitFrom 41 = .ok (.aload_n 0, 1) := by decide +kernel
theorem dX11_fitFrom_42 : decode cX11_fitFrom 42 = .ok (.dup, 1) := by decide +kernel
theorem dX11_fitFrom_43 : decode cX11_fitFrom 43 = .ok (.getfield 378, 3) := by decide +kernel
theorem dX11_fitFrom_46 : decode cX11_fitFrom 46 = .ok (.iconst 1, 1) := by decide +kernel
theorem dX11_fitFrom_47 : decode cX11_fitFrom 47 = .ok (.iadd, 1) := by decide +kernel
theorem dX11_fitFrom_48 : decode cX11_fitFrom 48 = .ok (.putfield 378, 3) := by decide +kernel
theorem dX11_fitFrom_51 : decode cX11_fitFrom 51 = .ok (.return_, 1) := by decide +kernel
theorem dX11_fitFrom_52 : decode cX11_fitFrom 52 = .ok (.iconst 0, 1) := by decide +kernel
theorem dX11_fitFrom_53 : decode cX11_fitFrom 53 = .ok (.istore 5, 2) := by decide +kernel
theorem dX11_fitFrom_55 : decode cX11_fitFrom 55 = .ok (.iload 5, 2) := by decide +kernel
theorem dX11_fitFrom_57 : decode cX11_fitFrom 57 = .ok (.aload_n 0, 1) := by decide +kernel
theorem dX11_fitFrom_58 : decode cX11_fitFrom 58 = .ok (.getfield 316, 3) := by decide +kernel
theorem dX11_fitFrom_61 : decode cX11_fitFrom 61 = .ok (.if_icmp .ge 40, 3) := by decide +kernel
theorem dX11_fitFrom_64 : decode cX11_fitFrom 64 = .ok (.iload_n 2, 1) := by decide +kernel
theorem dX11_fitFrom_65 : decode cX11_fitFrom 65 = .ok (.iload 5, 2) := by decide +kernel
theorem dX11_fitFrom_67 : decode cX11_fitFrom 67 = .ok (.invokestatic 227, 3) := by decide +kernel
theorem dX11_fitFrom_70 : decode cX11_fitFrom 70 = .ok (.ifCond .eq 25, 3) := by decide +kernel
theorem dX11_fitFrom_73 : decode cX11_fitFrom 73 = .ok (.aload_n 0, 1) := by decide +kernel
theorem dX11_fitFrom_74 : decode cX11_fitFrom 74 = .ok (.iload_n 1, 1) := by decide +kernel
theorem dX11_fitFrom_75 : decode cX11_fitFrom 75 = .ok (.iload_n 2, 1) := by decide +kernel
theorem dX11_fitFrom_76 : decode cX11_fitFrom 76 = .ok (.iconst 1, 1) := by decide +kernel
theorem dX11_fitFrom_77 : decode cX11_fitFrom 77 = .ok (.iload 5, 2) := by decide +kernel
theorem dX11_fitFrom_79 : decode cX11_fitFrom 79 = .ok (.ishl, 1) := by decide +kernel
theorem dX11_fitFrom_80 : decode cX11_fitFrom 80 = .ok (.iconst (-1), 1) := by decide +kernel
theorem dX11_fitFrom_81 : decode cX11_fitFrom 81 = .ok (.ixor, 1) := by decide +kernel
theorem dX11_fitFrom_82 : decode cX11_fitFrom 82 = .ok (.iand, 1) := by decide +kernel
theorem dX11_fitFrom_83 : decode cX11_fitFrom 83 = .ok (.bipush 10, 2) := by decide +kernel
theorem dX11_fitFrom_85 : decode cX11_fitFrom 85 = .ok (.iload_n 3, 1) := by decide +kernel
theorem dX11_fitFrom_86 : decode cX11_fitFrom 86 = .ok (.imul, 1) := by decide +kernel
theorem dX11_fitFrom_87 : decode cX11_fitFrom 87 = .ok (.iload 5, 2) := by decide +kernel
theorem dX11_fitFrom_89 : decode cX11_fitFrom 89 = .ok (.iadd, 1) := by decide +kernel
theorem dX11_fitFrom_90 : decode cX11_fitFrom 90 = .ok (.iload 4, 2) := by decide +kernel
theorem dX11_fitFrom_92 : decode cX11_fitFrom 92 = .ok (.invokevirtual 384, 3) := by decide +kernel
theorem dX11_fitFrom_95 : decode cX11_fitFrom 95 = .ok (.iinc 5 1, 3) := by decide +kernel
theorem dX11_fitFrom_98 : decode cX11_fitFrom 98 = .ok (.goto (-43), 3) := by decide +kernel
theorem dX11_fitFrom_101 : decode cX11_fitFrom 101 = .ok (.return_, 1) := by decide +kernel
def X11_fitFrom_L55 (rec : Int → Int → Int → Int → Mm → Rs) (l1 : Int) (l2 : Int) (l3 : Int) (l4 : Int) : Nat → Int → Mm → Rs
  | 0, _, _ => none
  | n + 1, l5, μ => if (μ 70 37) ≤ l5 then (some (0, μ)) else (bd (X11_has l2 l5 μ) fun v3 μ4 => if v3 = 0 then (X11_fitFrom_L55 rec l1 l2 l3 l4 n (iA l5 1) μ4) else (bd (rec l1 (bA l2 (bX (bL 1 l5) (-1))) (iA (iM 10 l3) l5) l4 μ4) fun v7 μ8 => X11_fitFrom_L55 rec l1 l2 l3 l4 n (iA l5 1) μ8))
def X11_fitFrom : Nat → Int → Int → Int → Int → Mm → Rs
  | 0, _, _, _, _, _ => none
  | n + 1, l1, l2, l3, l4, μ => if l2 = 0 then (bd (X11_go l3 μ) fun v10 μ11 => if v10 = 0 then (some (0, μ11)) else (bd (X11_fits l1 μ11) fun v14 μ15 => if v14 = 0 then (some (0, μ15)) else (if (μ15 70 46) = l4 then (sF μ15 70 47 l3 fun μ21 => sF μ21 70 46 (iA (μ21 70 46) 1) fun μ22 => some (0, μ22)) else (sF μ15 70 47 (μ15 70 47) fun μ19 => sF μ19 70 46 (iA (μ19 70 46) 1) fun μ20 => some (0, μ20))))) else (X11_fitFrom_L55 (fun w0 w1 w2 w3 μq => X11_fitFrom n w0 w1 w2 w3 μq) l1 l2 l3 l4 FU 0 μ)
set_option maxHeartbeats 4000000 in
set_option maxRecDepth 100000 in
theorem kX11_fitFrom_L55 (d : Nat) (hd : d0 + 1 ≤ d) (hb : 5 ≤ d) {rec : Int → Int → Int → Int → Mm → Rs} (hrec : ∀ {q1 : Int} {q2 : Int} {q3 : Int} {q4 : Int} {μ1 : Mm} {r1 : Int} {μ2 : Mm}, rec q1 q2 q3 q4 μ1 = some (r1, μ2) → CC d0 mX11_fitFrom [vR 70, vI q1, vI q2, vI q3, vI q4] μ1 r1 μ2) {l1 : Int} {l2 : Int} {l3 : Int} {l4 : Int} {r : Int} {μ' : Mm} : ∀ (n : Nat) {l5 : Int} {μ : Mm}, X11_fitFrom_L55 rec l1 l2 l3 l4 n l5 μ = some (r, μ') → VV d mX11_fitFrom 55 [some (vR 70), some (vI l1), some (vI l2), some (vI l3), some (vI l4), some (vI l5)] [] μ r μ' := by
  intro n
  induction n with
  | zero => intro l5 μ h; rw [X11_fitFrom_L55] at h; cases h
  | succ n ih =>
    intro l5 μ h
    rw [X11_fitFrom_L55] at h
    refine V_iload (q := 57) dX11_fitFrom_55 rfl rfl ?_
    refine V_aload_n (q := 58) dX11_fitFrom_57 rfl rfl rfl ?_
    refine V_getI (q := 61) fl_X11_316 rfl rfl rfl dX11_fitFrom_58 rfl ?_
    refine V_icmpge (q := 101) (q2 := 64) dX11_fitFrom_61 (by decide) rfl (fun hc2 => ?_) (fun hc2 => ?_)
    · have h := ifT hc2 h
      exact V_vret rfl h dX11_fitFrom_101
    · have h := ifF hc2 h
      refine V_iload_n (q := 65) dX11_fitFrom_64 rfl rfl rfl ?_
      refine V_iload (q := 67) dX11_fitFrom_65 rfl rfl ?_
      obtain ⟨v3, μ4, hc5, h⟩ := bd_i h
      refine V_cS1 (q := 70) (v := vI v3) (kX11_has (d - 1) (by omega) hc5) (by omega) mv_X11_227 rfl rfl rfl rfl dX11_fitFrom_67 rfl ?_
      refine V_ifeq (q := 95) (q2 := 73) dX11_fitFrom_70 (by decide) rfl (fun hc6 => ?_) (fun hc6 => ?_)
      · have h := ifT hc6 h
        refine V_iinc (q := 98) dX11_fitFrom_95 rfl (Nat.le_of_ble_eq_true rfl) trivial rfl ?_
        refine V_goto (q := 55) dX11_fitFrom_98 (by decide) ?_
        exact V_weak (ih h) (sb_s rfl (sb_s rfl (sb_s rfl (sb_s rfl (sb_s rfl (sb_s rfl sb_0))))))
      · have h := ifF hc6 h
        refine V_aload_n (q := 74) dX11_fitFrom_73 rfl rfl rfl ?_
        refine V_iload_n (q := 75) dX11_fitFrom_74 rfl rfl rfl ?_
        refine V_iload_n (q := 76) dX11_fitFrom_75 rfl rfl rfl ?_
        refine V_iconst (q := 77) dX11_fitFrom_76 rfl rfl ?_
        refine V_iload (q := 79) dX11_fitFrom_77 rfl rfl ?_
        refine V_ishl (q := 80) dX11_fitFrom_79 rfl ?_
        refine V_iconst (q := 81) dX11_fitFrom_80 rfl rfl ?_
        refine V_ixor (q := 82) dX11_fitFrom_81 rfl ?_
        refine V_iand (q := 83) dX11_fitFrom_82 rfl ?_
        refine V_bipush (q := 85) dX11_fitFrom_83 rfl rfl rfl ?_
        refine V_iload_n (q := 86) dX11_fitFrom_85 rfl rfl rfl ?_
        refine V_imul (q := 87) dX11_fitFrom_86 rfl ?_
        refine V_iload (q := 89) dX11_fitFrom_87 rfl rfl ?_
        refine V_iadd (q := 90) dX11_fitFrom_89 rfl ?_
        refine V_iload (q := 92) dX11_fitFrom_90 rfl rfl ?_
        obtain ⟨v7, μ8, hc9, h⟩ := bd_i h
        refine V_cV0 (q := 95) (hrec hc9) (by omega) mv_X11_384 rfl rfl rfl rfl rfl rfl dX11_fitFrom_92 rfl ?_
        refine V_iinc (q := 98) dX11_fitFrom_95 rfl (Nat.le_of_ble_eq_true rfl) trivial rfl ?_
        refine V_goto (q := 55) dX11_fitFrom_98 (by decide) ?_
        exact V_weak (ih h) (sb_s rfl (sb_s rfl (sb_s rfl (sb_s rfl (sb_s rfl (sb_s rfl sb_0))))))
set_option maxHeartbeats 4000000 in
set_option maxRecDepth 100000 in
theorem kX11_fitFrom : ∀ (n d : Nat) (hd : 10 * n + 14 ≤ d) {l1 : Int} {l2 : Int} {l3 : Int} {l4 : Int} {μ : Mm} {r : Int} {μ' : Mm} (h : X11_fitFrom n l1 l2 l3 l4 μ = some (r, μ')), CC d mX11_fitFrom [vR 70, vI l1, vI l2, vI l3, vI l4] μ r μ' := by
  intro n
  induction n with
  | zero => intro d hd l1 l2 l3 l4   μ r μ' h; rw [X11_fitFrom] at h; cases h
  | succ n ih =>
    intro d hd l1 l2 l3 l4   μ r μ' h
    have hb : 5 ≤ d := by omega
    obtain ⟨d0, hd0⟩ : ∃ z, z = 10 * n + 14 := ⟨_, rfl⟩
    have hd : d0 + 10 ≤ d := by omega
    have hrec : ∀ {q1 : Int} {q2 : Int} {q3 : Int} {q4 : Int} {μ1 : Mm} {r1 : Int} {μ2 : Mm}, ((fun w0 w1 w2 w3 μq => X11_fitFrom n w0 w1 w2 w3 μq)) q1 q2 q3 q4 μ1 = some (r1, μ2) → CC d0 mX11_fitFrom [vR 70, vI q1, vI q2, vI q3, vI q4] μ1 r1 μ2 := fun h1 => ih d0 (by omega) h1
    rw [X11_fitFrom] at h
    refine V_enter (by decide) (Nat.le_of_ble_eq_true rfl) ?_
    show VV d mX11_fitFrom 0 [some (vR 70), some (vI l1), some (vI l2), some (vI l3), some (vI l4), none] [] μ r μ'
    refine V_iload_n (q := 1) dX11_fitFrom_0 rfl rfl rfl ?_
    refine V_ifne (q := 52) (q2 := 4) dX11_fitFrom_1 (by decide) rfl (fun hc1 => ?_) (fun hc1 => ?_)
    · have h := ifF hc1 h
      refine V_iconst (q := 53) dX11_fitFrom_52 rfl rfl ?_
      refine V_istore (q := 55) dX11_fitFrom_53 (Nat.le_of_ble_eq_true rfl) trivial rfl ?_
      exact V_weak (kX11_fitFrom_L55 d (by omega) hb hrec  FU h) (sb_s rfl (sb_s rfl (sb_s rfl (sb_s rfl (sb_s rfl (sb_s rfl sb_0))))))
    · have h := ifT hc1 h
      refine V_aload_n (q := 5) dX11_fitFrom_4 rfl rfl rfl ?_
      refine V_iload_n (q := 6) dX11_fitFrom_5 rfl rfl rfl ?_
      obtain ⟨v10, μ11, hc12, h⟩ := bd_i h
      refine V_cV1 (q := 9) (v := vI v10) (kX11_go (d - 1) (by omega) hc12) (by omega) mv_X11_341 rfl rfl rfl rfl rfl rfl dX11_fitFrom_6 rfl ?_
      refine V_ifeq (q := 51) (q2 := 12) dX11_fitFrom_9 (by decide) rfl (fun hc13 => ?_) (fun hc13 => ?_)
      · have h := ifT hc13 h
        exact V_vret rfl h dX11_fitFrom_51
      · have h := ifF hc13 h
        refine V_aload_n (q := 13) dX11_fitFrom_12 rfl rfl rfl ?_
        refine V_iload_n (q := 14) dX11_fitFrom_13 rfl rfl rfl ?_
        obtain ⟨v14, μ15, hc16, h⟩ := bd_i h
        refine V_cV1 (q := 17) (v := vI v14) (kX11_fits (d - 1) (by omega) hc16) (by omega) mv_X11_375 rfl rfl rfl rfl rfl rfl dX11_fitFrom_14 rfl ?_
        refine V_ifeq (q := 51) (q2 := 20) dX11_fitFrom_17 (by decide) rfl (fun hc17 => ?_) (fun hc17 => ?_)
        · have h := ifT hc17 h
          exact V_vret rfl h dX11_fitFrom_51
        · have h := ifF hc17 h
          refine V_aload_n (q := 21) dX11_fitFrom_20 rfl rfl rfl ?_
          refine V_aload_n (q := 22) dX11_fitFrom_21 rfl rfl rfl ?_
          refine V_getI (q := 25) fl_X11_378 rfl rfl rfl dX11_fitFrom_22 rfl ?_
          refine V_iload (q := 27) dX11_fitFrom_25 rfl rfl ?_
          refine V_icmpne (q := 34) (q2 := 30) dX11_fitFrom_27 (by decide) rfl (fun hc18 => ?_) (fun hc18 => ?_)
          · have h := ifF hc18 h
            refine V_aload_n (q := 35) dX11_fitFrom_34 rfl rfl rfl ?_
            refine V_getI (q := 38) fl_X11_381 rfl rfl rfl dX11_fitFrom_35 rfl ?_
            have h := sF_i h
            refine V_putI (q := 41) fl_X11_381 rfl rfl rfl dX11_fitFrom_38 rfl ?_
            refine V_aload_n (q := 42) dX11_fitFrom_41 rfl rfl rfl ?_
            refine V_dup (q := 43) dX11_fitFrom_42 trivial rfl ?_
            refine V_getI (q := 46) fl_X11_378 rfl rfl rfl dX11_fitFrom_43 rfl ?_
            refine V_iconst (q := 47) dX11_fitFrom_46 rfl rfl ?_
            refine V_iadd (q := 48) dX11_fitFrom_47 rfl ?_
            have h := sF_i h
            refine V_putI (q := 51) fl_X11_378 rfl rfl rfl dX11_fitFrom_48 rfl ?_
            exact V_vret rfl h dX11_fitFrom_51
          · have h := ifT hc18 h
            refine V_iload_n (q := 31) dX11_fitFrom_30 rfl rfl rfl ?_
            refine V_goto (q := 38) dX11_fitFrom_31 (by decide) ?_
            have h := sF_i h
            refine V_putI (q := 41) fl_X11_381 rfl rfl rfl dX11_fitFrom_38 rfl ?_
            refine V_aload_n (q := 42) dX11_fitFrom_41 rfl rfl rfl ?_
            refine V_dup (q := 43) dX11_fitFrom_42 trivial rfl ?_
            refine V_getI (q := 46) fl_X11_378 rfl rfl rfl dX11_fitFrom_43 rfl ?_
            refine V_iconst (q := 47) dX11_fitFrom_46 rfl rfl ?_
            refine V_iadd (q := 48) dX11_fitFrom_47 rfl ?_
            have h := sF_i h
            refine V_putI (q := 51) fl_X11_378 rfl rfl rfl dX11_fitFrom_48 rfl ?_
            exact V_vret rfl h dX11_fitFrom_51
abbrev mX11_fit : Mth := (yX11_fit, cX11_fit, 3, some .int)
theorem mi_X11_fit : Cond.instanceMethod yX11_fit ∈ tG ∧ Cond.selects yX11_fit.cls yX11_fit yX11_fit ∈ tG ∧ Cond.initialized yX11_fit.cls ∈ tG ∧ Cond.code yX11_fit cX11_fit 3 (some .int) ∈ tG ∧ (yX11_fit.cls ≠ "java/lang/invoke/MethodHandle" ∧ yX11_fit.cls ≠ "java/lang/invoke/VarHandle" ∧ (parseMethodDescriptor yX11_fit.desc).map (fun d => d.parameters.length) = some 2) ∧ 3 ≤ 60 := ⟨(tG_of (List.mem_of_getElem? (i := 1673) (by decide +kernel)) (by decide +kernel)), (tG_of (List.mem_of_getElem? (i := 1674) (by decide +kernel)) (by decide +kernel)), (tG_of (List.mem_of_getElem? (i := 112) (by decide +kernel)) (by decide +kernel)), (tG_of (List.mem_of_getElem? (i := 1675) (by decide +kernel)) (by decide +kernel)), ⟨by decide, by decide, by decide +kernel⟩, by decide⟩
theorem dX11_fit_0 : decode cX11_fit 0 = .ok (.aload_n 0, 1) := by decide +kernel
theorem dX11_fit_1 : decode cX11_fit 1 = .ok (.iload_n 1, 1) := by decide +kernel
theorem dX11_fit_2 : decode cX11_fit 2 = .ok (.invokevirtual 335, 3) := by decide +kernel
theorem dX11_fit_5 : decode cX11_fit 5 = .ok (.ifCond .ne 5, 3) := by decide +kernel
theorem dX11_fit_8 : decode cX11_fit 8 = .ok (.iconst (-1), 1) := by decide +kernel
theorem dX11_fit_9 : decode cX11_fit 9 = .ok (.ireturn, 1) := by decide +kernel
theorem dX11_fit_10 : decode cX11_fit 10 = .ok (.aload_n 0, 1) := by decide +kernel
theorem dX11_fit_11 : decode cX11_fit 11 = .ok (.iconst 0, 1) := by decide +kernel
theorem dX11_fit_12 : decode cX11_fit 12 = .ok (.putfield 378, 3) := by decide +kernel
theorem dX11_fit_15 : decode cX11_fit 15 = .ok (.aload_n 0, 1) := by decide +kernel
theorem dX11_fit_16 : decode cX11_fit 16 = .ok (.iconst (-1), 1) := by decide +kernel
theorem dX11_fit_17 : decode cX11_fit 17 = .ok (.putfield 381, 3) := by decide +kernel
theorem dX11_fit_20 : decode cX11_fit 20 = .ok (.aload_n 0, 1) := by decide +kernel
theorem dX11_fit_21 : decode cX11_fit 21 = .ok (.iload_n 1, 1) := by decide +kernel
theorem dX11_fit_22 : decode cX11_fit 22 = .ok (.aload_n 0, 1) := by decide +kernel
theorem dX11_fit_23 : decode cX11_fit 23 = .ok (.invokevirtual 357, 3) := by decide +kernel
theorem dX11_fit_26 : decode cX11_fit 26 = .ok (.iconst 0, 1) := by decide +kernel
theorem dX11_fit_27 : decode cX11_fit 27 = .ok (.iload_n 2, 1) := by decide +kernel
theorem dX11_fit_28 : decode cX11_fit 28 = .ok (.invokevirtual 384, 3) := by decide +kernel
theorem dX11_fit_31 : decode cX11_fit 31 = .ok (.iload_n 2, 1) := by decide +kernel
theorem dX11_fit_32 : decode cX11_fit 32 = .ok (.iconst (-1), 1) := by decide +kernel
theorem dX11_fit_33 : decode cX11_fit 33 = .ok (.if_icmp .ne 10, 3) := by decide +kernel
theorem dX11_fit_36 : decode cX11_fit 36 = .ok (.aload_n 0, 1) := by decide +kernel
theorem dX11_fit_37 : decode cX11_fit 37 = .ok (.getfield 378, 3) := by decide +kernel
theorem dX11_fit_40 : decode cX11_fit 40 = .ok (.goto 7, 3) := by decide +kernel
theorem dX11_fit_43 : decode cX11_fit 43 = .ok (.aload_n 0, 1) := by decide +kernel
theorem dX11_fit_44 : decode cX11_fit 44 = .ok (.getfield 381, 3) := by decide +kernel
theorem dX11_fit_47 : decode cX11_fit 47 = .ok (.ireturn, 1) := by decide +kernel
def X11_fit (l1 : Int) (l2 : Int) (μ : Mm) : Rs := bd (X11_isReady l1 μ) fun v1 μ2 => if v1 = 0 then (some ((-1), μ2)) else (sF μ2 70 46 0 fun μ5 => sF μ5 70 47 (-1) fun μ6 => bd (X11_all μ6) fun v7 μ8 => bd (X11_fitFrom RD l1 v7 0 l2 μ8) fun v10 μ11 => if l2 = (-1) then (some (μ11 70 46, μ11)) else (some (μ11 70 47, μ11)))
set_option maxHeartbeats 4000000 in
set_option maxRecDepth 100000 in
theorem kX11_fit (d : Nat) (hd : 135 ≤ d) {l1 : Int} {l2 : Int} {μ : Mm} {r : Int} {μ' : Mm} (h : X11_fit l1 l2 μ = some (r, μ')) : CC d mX11_fit [vR 70, vI l1, vI l2] μ r μ' := by
  unfold X11_fit at h
  refine V_enter (by decide) (Nat.le_of_ble_eq_true rfl) ?_
  show VV d mX11_fit 0 [some (vR 70), some (vI l1), some (vI l2)] [] μ r μ'
  refine V_aload_n (q := 1) dX11_fit_0 rfl rfl rfl ?_
  refine V_iload_n (q := 2) dX11_fit_1 rfl rfl rfl ?_
  obtain ⟨v1, μ2, hc3, h⟩ := bd_i h
  refine V_cV1 (q := 5) (v := vI v1) (kX11_isReady (d - 1) (by omega) hc3) (by omega) mv_X11_335 rfl rfl rfl rfl rfl rfl dX11_fit_2 rfl ?_
  refine V_ifne (q := 10) (q2 := 8) dX11_fit_5 (by decide) rfl (fun hc4 => ?_) (fun hc4 => ?_)
  · have h := ifF hc4 h
    refine V_aload_n (q := 11) dX11_fit_10 rfl rfl rfl ?_
    refine V_iconst (q := 12) dX11_fit_11 rfl rfl ?_
    have h := sF_i h
    refine V_putI (q := 15) fl_X11_378 rfl rfl rfl dX11_fit_12 rfl ?_
    refine V_aload_n (q := 16) dX11_fit_15 rfl rfl rfl ?_
    refine V_iconst (q := 17) dX11_fit_16 rfl rfl ?_
    have h := sF_i h
    refine V_putI (q := 20) fl_X11_381 rfl rfl rfl dX11_fit_17 rfl ?_
    refine V_aload_n (q := 21) dX11_fit_20 rfl rfl rfl ?_
    refine V_iload_n (q := 22) dX11_fit_21 rfl rfl rfl ?_
    refine V_aload_n (q := 23) dX11_fit_22 rfl rfl rfl ?_
    obtain ⟨v7, μ8, hc9, h⟩ := bd_i h
    refine V_cV1 (q := 26) (v := vI v7) (kX11_all (d - 1) (by omega) hc9) (by omega) mv_X11_357 rfl rfl rfl rfl rfl rfl dX11_fit_23 rfl ?_
    refine V_iconst (q := 27) dX11_fit_26 rfl rfl ?_
    refine V_iload_n (q := 28) dX11_fit_27 rfl rfl rfl ?_
    obtain ⟨v10, μ11, hc12, h⟩ := bd_i h
    refine V_cV0 (q := 31) (kX11_fitFrom RD (d - 1) (by unfold RD; omega) hc12) (by omega) mv_X11_384 rfl rfl rfl rfl rfl rfl dX11_fit_28 rfl ?_
    refine V_iload_n (q := 32) dX11_fit_31 rfl rfl rfl ?_
    refine V_iconst (q := 33) dX11_fit_32 rfl rfl ?_
    refine V_icmpne (q := 43) (q2 := 36) dX11_fit_33 (by decide) rfl (fun hc13 => ?_) (fun hc13 => ?_)
    · have h := ifF hc13 h
      refine V_aload_n (q := 44) dX11_fit_43 rfl rfl rfl ?_
      refine V_getI (q := 47) fl_X11_381 rfl rfl rfl dX11_fit_44 rfl ?_
      exact V_iret rfl h dX11_fit_47
    · have h := ifT hc13 h
      refine V_aload_n (q := 37) dX11_fit_36 rfl rfl rfl ?_
      refine V_getI (q := 40) fl_X11_378 rfl rfl rfl dX11_fit_37 rfl ?_
      refine V_goto (q := 47) dX11_fit_40 (by decide) ?_
      exact V_iret rfl h dX11_fit_47
  · have h := ifT hc4 h
    refine V_iconst (q := 9) dX11_fit_8 rfl rfl ?_
    exact V_iret rfl h dX11_fit_9
abbrev mX11_boy : Mth := (yX11_boy, cX11_boy, 10, some .int)
theorem mi_X11_boy : Cond.instanceMethod yX11_boy ∈ tG ∧ Cond.selects yX11_boy.cls yX11_boy yX11_boy ∈ tG ∧ Cond.initialized yX11_boy.cls ∈ tG ∧ Cond.code yX11_boy cX11_boy 10 (some .int) ∈ tG ∧ (yX11_boy.cls ≠ "java/lang/invoke/MethodHandle" ∧ yX11_boy.cls ≠ "java/lang/invoke/VarHandle" ∧ (parseMethodDescriptor yX11_boy.desc).map (fun d => d.parameters.length) = some 4) ∧ 10 ≤ 60 := ⟨(tG_of (List.mem_of_getElem? (i := 1685) (by decide +kernel)) (by decide +kernel)), (tG_of (List.mem_of_getElem? (i := 1686) (by decide +kernel)) (by decide +kernel)), (tG_of (List.mem_of_getElem? (i := 112) (by decide +kernel)) (by decide +kernel)), (tG_of (List.mem_of_getElem? (i := 1687) (by decide +kernel)) (by decide +kernel)), ⟨by decide, by decide, by decide +kernel⟩, by decide⟩
theorem dX11_boy_0 : decode cX11_boy 0 = .ok (.aload_n 0, 1) := by decide +kernel
theorem dX11_boy_1 : decode cX11_boy 1 = .ok (.iload_n 1, 1) := by decide +kernel
theorem dX11_boy_2 : decode cX11_boy 2 = .ok (.invokevirtual 335, 3) := by decide +kernel
theorem dX11_boy_5 : decode cX11_boy 5 = .ok (.ifCond .eq 31, 3) := by decide +kernel
theorem dX11_boy_8 : decode cX11_boy 8 = .ok (.aload_n 0, 1) := by decide +kernel
theorem dX11_boy_9 : decode cX11_boy 9 = .ok (.iload_n 2, 1) := by decide +kernel
theorem dX11_boy_10 : decode cX11_boy 10 = .ok (.invokevirtual 290, 3) := by decide +kernel
theorem dX11_boy_13 : decode cX11_boy 13 = .ok (.ifCond .eq 23, 3) := by decide +kernel
theorem dX11_boy_16 : decode cX11_boy 16 = .ok (.iload_n 3, 1) := by decide +kernel
theorem dX11_boy_17 : decode cX11_boy 17 = .ok (.iconst 1, 1) := by decide +kernel
theorem dX11_boy_18 : decode cX11_boy 18 = .ok (.bipush 9, 2) := by decide +kernel
theorem dX11_boy_20 : decode cX11_boy 20 = .ok (.invokestatic 213, 3) := by decide +kernel
theorem dX11_boy_23 : decode cX11_boy 23 = .ok (.ifCond .eq 13, 3) := by decide +kernel
theorem dX11_boy_26 : decode cX11_boy 26 = .ok (.iload 4, 2) := by decide +kernel
theorem dX11_boy_28 : decode cX11_boy 28 = .ok (.iconst 0, 1) := by decide +kernel
theorem dX11_boy_29 : decode cX11_boy 29 = .ok (.iconst 1, 1) := by decide +kernel
theorem dX11_boy_30 : decode cX11_boy 30 = .ok (.invokestatic 213, 3) := by decide +kernel
theorem dX11_boy_33 : decode cX11_boy 33 = .ok (.ifCond .ne 5, 3) := by decide +kernel
theorem dX11_boy_36 : decode cX11_boy 36 = .ok (.iconst (-1), 1) := by decide +kernel
theorem dX11_boy_37 : decode cX11_boy 37 = .ok (.ireturn, 1) := by decide +kernel
theorem dX11_boy_38 : decode cX11_boy 38 = .ok (.iconst 0, 1) := by decide +kernel
theorem dX11_boy_39 : decode cX11_boy 39 = .ok (.istore 5, 2) := by decide +kernel
theorem dX11_boy_41 : decode cX11_boy 41 = .ok (.iload 5, 2) := by decide +kernel
theorem dX11_boy_43 : decode cX11_boy 43 = .ok (.aload_n 0, 1) := by decide +kernel
theorem dX11_boy_44 : decode cX11_boy 44 = .ok (.invokevirtual 357, 3) := by decide +kernel
theorem dX11_boy_47 : decode cX11_boy 47 = .ok (.if_icmp .gt 23, 3) := by decide +kernel
theorem dX11_boy_50 : decode cX11_boy 50 = .ok (.aload_n 0, 1) := by decide +kernel
theorem dX11_boy_51 : decode cX11_boy 51 = .ok (.getfield 89, 3) := by decide +kernel
theorem dX11_boy_54 : decode cX11_boy 54 = .ok (.iload 5, 2) := by decide +kernel
theorem dX11_boy_56 : decode cX11_boy 56 = .ok (.aload_n 0, 1) := by decide +kernel
theorem dX11_boy_57 : decode cX11_boy 57 = .ok (.iconst 0, 1) := by decide +kernel
theorem dX11_boy_58 : decode cX11_boy 58 = .ok (.iload 5, 2) := by decide +kernel
theorem dX11_boy_60 : decode cX11_boy 60 = .ok (.invokevirtual 360, 3) := by decide +kernel
theorem dX11_boy_63 : decode cX11_boy 63 = .ok (.iastore, 1) := by decide +kernel
theorem dX11_boy_64 : decode cX11_boy 64 = .ok (.iinc 5 1, 3) := by decide +kernel
theorem dX11_boy_67 : decode cX11_boy 67 = .ok (.goto (-26), 3) := by decide +kernel
theorem dX11_boy_70 : decode cX11_boy 70 = .ok (.aload_n 0, 1) := by decide +kernel
theorem dX11_boy_71 : decode cX11_boy 71 = .ok (.iload_n 1, 1) := by decide +kernel
theorem dX11_boy_72 : decode cX11_boy 72 = .ok (.iload_n 2, 1) := by decide +kernel
theorem dX11_boy_73 : decode cX11_boy 73 = .ok (.iload_n 3, 1) := by decide +kernel
theorem dX11_boy_74 : decode cX11_boy 74 = .ok (.invokevirtual 322, 3) := by decide +kernel
theorem dX11_boy_77 : decode cX11_boy 77 = .ok (.iconst (-1), 1) := by decide +kernel
theorem dX11_boy_78 : decode cX11_boy 78 = .ok (.istore 5, 2) := by decide +kernel
theorem dX11_boy_80 : decode cX11_boy 80 = .ok (.iconst 0, 1) := by decide +kernel
theorem dX11_boy_81 : decode cX11_boy 81 = .ok (.istore 6, 2) := by decide +kernel
theorem dX11_boy_83 : decode cX11_boy 83 = .ok (.iconst 0, 1) := by decide +kernel
theorem dX11_boy_84 : decode cX11_boy 84 = .ok (.istore 7, 2) := by decide +kernel
theorem dX11_boy_86 : decode cX11_boy 86 = .ok (.iload 7, 2) := by decide +kernel
theorem dX11_boy_88 : decode cX11_boy 88 = .ok (.aload_n 0, 1) := by decide +kernel
theorem dX11_boy_89 : decode cX11_boy 89 = .ok (.invokevirtual 357, 3) := by decide +kernel
theorem dX11_boy_92 : decode cX11_boy 92 = .ok (.if_icmp .gt 73, 3) := by decide +kernel
theorem dX11_boy_95 : decode cX11_boy 95 = .ok (.aload_n 0, 1) := by decide +kernel
theorem dX11_boy_96 : decode cX11_boy 96 = .ok (.iconst 0, 1) := by decide +kernel
theorem dX11_boy_97 : decode cX11_boy 97 = .ok (.iload 7, 2) := by decide +kernel
theorem dX11_boy_99 : decode cX11_boy 99 = .ok (.invokevirtual 360, 3) := by decide +kernel
theorem dX11_boy_102 : decode cX11_boy 102 = .ok (.istore 8, 2) := by decide +kernel
theorem dX11_boy_104 : decode cX11_boy 104 = .ok (.aload_n 0, 1) := by decide +kernel
theorem dX11_boy_105 : decode cX11_boy 105 = .ok (.getfield 89, 3) := by decide +kernel
theorem dX11_boy_108 : decode cX11_boy 108 = .ok (.aload_n 0, 1) := by decide +kernel
theorem dX11_boy_109 : decode cX11_boy 109 = .ok (.invokevirtual 357, 3) := by decide +kernel
theorem dX11_boy_112 : decode cX11_boy 112 = .ok (.iload 7, 2) := by decide +kernel
theorem dX11_boy_114 : decode cX11_boy 114 = .ok (.iconst (-1), 1) := by decide +kernel
theorem dX11_boy_115 : decode cX11_boy 115 = .ok (.ixor, 1) := by decide +kernel
theorem dX11_boy_116 : decode cX11_boy 116 = .ok (.iand, 1) := by decide +kernel
theorem dX11_boy_117 : decode cX11_boy 117 = .ok (.iaload, 1) := by decide +kernel
theorem dX11_boy_118 : decode cX11_boy 118 = .ok (.istore 9, 2) := by decide +kernel
theorem dX11_boy_120 : decode cX11_boy 120 = .ok (.iload 8, 2) := by decide +kernel
theorem dX11_boy_122 : decode cX11_boy 122 = .ok (.iconst (-1), 1) := by decide +kernel
theorem dX11_boy_123 : decode cX11_boy 123 = .ok (.if_icmp .eq 36, 3) := by decide +kernel
theorem dX11_boy_126 : decode cX11_boy 126 = .ok (.iload 9, 2) := by decide +kernel
theorem dX11_boy_128 : decode cX11_boy 128 = .ok (.iconst (-1), 1) := by decide +kernel
theorem dX11_boy_129 : decode cX11_boy 129 = .ok (.if_icmp .eq 30, 3) := by decide +kernel
theorem dX11_boy_132 : decode cX11_boy 132 = .ok (.iload 5, 2) := by decide +kernel
theorem dX11_boy_134 : decode cX11_boy 134 = .ok (.iconst (-1), 1) := by decide +kernel
theorem dX11_boy_135 : decode cX11_boy 135 = .ok (.if_icmp .eq 13, 3) := by decide +kernel
theorem dX11_boy_138 : decode cX11_boy 138 = .ok (.iload 8, 2) := by decide +kernel
theorem dX11_boy_140 : decode cX11_boy 140 = .ok (.iload 9, 2) := by decide +kernel
theorem dX11_boy_142 : decode cX11_boy 142 = .ok (.iadd, 1) := by decide +kernel
theorem dX11_boy_143 : decode cX11_boy 143 = .ok (.iload 6, 2) := by decide +kernel
theorem dX11_boy_145 : decode cX11_boy 145 = .ok (.if_icmp .ge 14, 3) := by decide +kernel
theorem dX11_boy_148 : decode cX11_boy 148 = .ok (.iload 7, 2) := by decide +kernel
theorem dX11_boy_150 : decode cX11_boy 150 = .ok (.istore 5, 2) := by decide +kernel
theorem dX11_boy_152 : decode cX11_boy 152 = .ok (.iload 8, 2) := by decide +kernel
theorem dX11_boy_154 : decode cX11_boy 154 = .ok (.iload 9, 2) := by decide +kernel
theorem dX11_boy_156 : decode cX11_boy 156 = .ok (.iadd, 1) := by decide +kernel
theorem dX11_boy_157 : decode cX11_boy 157 = .ok (.istore 6, 2) := by decide +kernel
theorem dX11_boy_159 : decode cX11_boy 159 = .ok (.iinc 7 1, 3) := by decide +kernel
theorem dX11_boy_162 : decode cX11_boy 162 = .ok (.goto (-76), 3) := by decide +kernel
theorem dX11_boy_165 : decode cX11_boy 165 = .ok (.iload 5, 2) := by decide +kernel
theorem dX11_boy_167 : decode cX11_boy 167 = .ok (.iconst (-1), 1) := by decide +kernel
theorem dX11_boy_168 : decode cX11_boy 168 = .ok (.if_icmp .eq 8, 3) := by decide +kernel
theorem dX11_boy_171 : decode cX11_boy 171 = .ok (.iload 4, 2) := by decide +kernel
theorem dX11_boy_173 : decode cX11_boy 173 = .ok (.ifCond .ne 8, 3) := by decide +kernel
theorem dX11_boy_176 : decode cX11_boy 176 = .ok (.iload 5, 2) := by decide +kernel
theorem dX11_boy_178 : decode cX11_boy 178 = .ok (.goto 5, 3) := by decide +kernel
theorem dX11_boy_181 : decode cX11_boy 181 = .ok (.iload 6, 2) := by decide +kernel
theorem dX11_boy_183 : decode cX11_boy 183 = .ok (.ireturn, 1) := by decide +kernel
def X11_boy_L41 (l1 : Int) (l2 : Int) (l3 : Int) (l4 : Int) (k70 : Mm → Rs) : Nat → Int → Mm → Rs
  | 0, _, _ => none
  | n + 1, l5, μ => bd (X11_all μ) fun v17 μ18 => if v17 < l5 then (k70 μ18) else (bd (X11_leastOf 0 l5 μ18) fun v21 μ22 => stA μ22 95 l5 v21 fun μ24 => X11_boy_L41 l1 l2 l3 l4 k70 n (iA l5 1) μ24)
def X11_boy_L86 (l4 : Int) (k165 : Int → Int → Mm → Rs) : Nat → Int → Int → Int → Mm → Rs
  | 0, _, _, _, _ => none
  | n + 1, l5, l6, l7, μ => bd (X11_all μ) fun v30 μ31 => if v30 < l7 then (k165 l5 l6 μ31) else (bd (X11_leastOf 0 l7 μ31) fun v34 μ35 => bd (X11_all μ35) fun v37 μ38 => ldA μ38 95 (bA v37 (bX l7 (-1))) fun v40 => if v34 = (-1) then (X11_boy_L86 l4 k165 n l5 l6 (iA l7 1) μ38) else (if v40 = (-1) then (X11_boy_L86 l4 k165 n l5 l6 (iA l7 1) μ38) else (if l5 = (-1) then (X11_boy_L86 l4 k165 n l7 (iA v34 v40) (iA l7 1) μ38) else (if l6 ≤ (iA v34 v40) then (X11_boy_L86 l4 k165 n l5 l6 (iA l7 1) μ38) else (X11_boy_L86 l4 k165 n l7 (iA v34 v40) (iA l7 1) μ38)))))
def X11_boy (l1 : Int) (l2 : Int) (l3 : Int) (l4 : Int) (μ : Mm) : Rs := bd (X11_isReady l1 μ) fun v1 μ2 => if v1 = 0 then (some ((-1), μ2)) else (bd (X11_isOpen l2 μ2) fun v5 μ6 => if v5 = 0 then (some ((-1), μ6)) else (bd (X11_in l3 1 9 μ6) fun v9 μ10 => if v9 = 0 then (some ((-1), μ10)) else (bd (X11_in l4 0 1 μ10) fun v13 μ14 => if v13 = 0 then (some ((-1), μ14)) else (X11_boy_L41 l1 l2 l3 l4 (fun μ26 => bd (X11_lay l1 l2 l3 μ26) fun v27 μ28 => X11_boy_L86 l4 (fun v46 v47 μ48 => if v46 = (-1) then (some (v46, μ48)) else (if l4 = 0 then (some (v46, μ48)) else (some (v47, μ48)))) FU (-1) 0 0 μ28) FU 0 μ14))))
set_option maxHeartbeats 4000000 in
set_option maxRecDepth 100000 in
theorem kX11_boy_L41 (d : Nat) (hd : 134 ≤ d) {l1 : Int} {l2 : Int} {l3 : Int} {l4 : Int} {k70 : Mm → Rs} {r : Int} {μ' : Mm} (hk_70 : ∀ (μ1 : Mm), k70 μ1 = some (r, μ') → VV d mX11_boy 70 [some (vR 70), some (vI l1), some (vI l2), some (vI l3), some (vI l4), none, none, none, none, none] [] μ1 r μ') : ∀ (n : Nat) {l5 : Int} {μ : Mm}, X11_boy_L41 l1 l2 l3 l4 k70 n l5 μ = some (r, μ') → VV d mX11_boy 41 [some (vR 70), some (vI l1), some (vI l2), some (vI l3), some (vI l4), some (vI l5), none, none, none, none] [] μ r μ' := by
  intro n
  induction n with
  | zero => intro l5 μ h; rw [X11_boy_L41] at h; cases h
  | succ n ih =>
    intro l5 μ h
    rw [X11_boy_L41] at h
    refine V_iload (q := 43) dX11_boy_41 rfl rfl ?_
    refine V_aload_n (q := 44) dX11_boy_43 rfl rfl rfl ?_
    obtain ⟨v17, μ18, hc19, h⟩ := bd_i h
    refine V_cV1 (q := 47) (v := vI v17) (kX11_all (d - 1) (by omega) hc19) (by omega) mv_X11_357 rfl rfl rfl rfl rfl rfl dX11_boy_44 rfl ?_
    refine V_icmpgt (q := 70) (q2 := 50) dX11_boy_47 (by decide) rfl (fun hc20 => ?_) (fun hc20 => ?_)
    · have h := ifT hc20 h
      exact V_weak (hk_70 _ h) (sb_s rfl (sb_s rfl (sb_s rfl (sb_s rfl (sb_s rfl (sb_n (sb_n (sb_n (sb_n (sb_n sb_0))))))))))
    · have h := ifF hc20 h
      refine V_aload_n (q := 51) dX11_boy_50 rfl rfl rfl ?_
      refine V_getO (q := 54) (t := 95) fl_X11_89 rfl rfl rfl rfl dX11_boy_51 rfl ?_
      refine V_iload (q := 56) dX11_boy_54 rfl rfl ?_
      refine V_aload_n (q := 57) dX11_boy_56 rfl rfl rfl ?_
      refine V_iconst (q := 58) dX11_boy_57 rfl rfl ?_
      refine V_iload (q := 60) dX11_boy_58 rfl rfl ?_
      obtain ⟨v21, μ22, hc23, h⟩ := bd_i h
      refine V_cV1 (q := 63) (v := vI v21) (kX11_leastOf (d - 1) (by omega) hc23) (by omega) mv_X11_360 rfl rfl rfl rfl rfl rfl dX11_boy_60 rfl ?_
      obtain ⟨hi25, h⟩ := stA_i h
      refine V_iastore (q := 64) rfl hi25 dX11_boy_63 rfl ?_
      refine V_iinc (q := 67) dX11_boy_64 rfl (Nat.le_of_ble_eq_true rfl) trivial rfl ?_
      refine V_goto (q := 41) dX11_boy_67 (by decide) ?_
      exact V_weak (ih h) (sb_s rfl (sb_s rfl (sb_s rfl (sb_s rfl (sb_s rfl (sb_s rfl (sb_n (sb_n (sb_n (sb_n sb_0))))))))))
set_option maxHeartbeats 4000000 in
set_option maxRecDepth 100000 in
theorem kX11_boy_L86 (d : Nat) (hd : 134 ≤ d) {l4 : Int} {k165 : Int → Int → Mm → Rs} {r : Int} {μ' : Mm} (hk_165 : ∀ (v5 v6 : Int) (μ1 : Mm), k165 v5 v6 μ1 = some (r, μ') → VV d mX11_boy 165 [none, none, none, none, some (vI l4), some (vI v5), some (vI v6), none, none, none] [] μ1 r μ') : ∀ (n : Nat) {l5 l6 l7 : Int} {μ : Mm}, X11_boy_L86 l4 k165 n l5 l6 l7 μ = some (r, μ') → VV d mX11_boy 86 [some (vR 70), none, none, none, some (vI l4), some (vI l5), some (vI l6), some (vI l7), none, none] [] μ r μ' := by
  intro n
  induction n with
  | zero => intro l5 l6 l7 μ h; rw [X11_boy_L86] at h; cases h
  | succ n ih =>
    intro l5 l6 l7 μ h
    rw [X11_boy_L86] at h
    refine V_iload (q := 88) dX11_boy_86 rfl rfl ?_
    refine V_aload_n (q := 89) dX11_boy_88 rfl rfl rfl ?_
    obtain ⟨v30, μ31, hc32, h⟩ := bd_i h
    refine V_cV1 (q := 92) (v := vI v30) (kX11_all (d - 1) (by omega) hc32) (by omega) mv_X11_357 rfl rfl rfl rfl rfl rfl dX11_boy_89 rfl ?_
    refine V_icmpgt (q := 165) (q2 := 95) dX11_boy_92 (by decide) rfl (fun hc33 => ?_) (fun hc33 => ?_)
    · have h := ifT hc33 h
      exact V_weak (hk_165 _ _ _ h) (sb_n (sb_n (sb_n (sb_n (sb_s rfl (sb_s rfl (sb_s rfl (sb_n (sb_n (sb_n sb_0))))))))))
    · have h := ifF hc33 h
      refine V_aload_n (q := 96) dX11_boy_95 rfl rfl rfl ?_
      refine V_iconst (q := 97) dX11_boy_96 rfl rfl ?_
      refine V_iload (q := 99) dX11_boy_97 rfl rfl ?_
      obtain ⟨v34, μ35, hc36, h⟩ := bd_i h
      refine V_cV1 (q := 102) (v := vI v34) (kX11_leastOf (d - 1) (by omega) hc36) (by omega) mv_X11_360 rfl rfl rfl rfl rfl rfl dX11_boy_99 rfl ?_
      refine V_istore (q := 104) dX11_boy_102 (Nat.le_of_ble_eq_true rfl) trivial rfl ?_
      refine V_aload_n (q := 105) dX11_boy_104 rfl rfl rfl ?_
      refine V_getO (q := 108) (t := 95) fl_X11_89 rfl rfl rfl rfl dX11_boy_105 rfl ?_
      refine V_aload_n (q := 109) dX11_boy_108 rfl rfl rfl ?_
      obtain ⟨v37, μ38, hc39, h⟩ := bd_i h
      refine V_cV1 (q := 112) (v := vI v37) (kX11_all (d - 1) (by omega) hc39) (by omega) mv_X11_357 rfl rfl rfl rfl rfl rfl dX11_boy_109 rfl ?_
      refine V_iload (q := 114) dX11_boy_112 rfl rfl ?_
      refine V_iconst (q := 115) dX11_boy_114 rfl rfl ?_
      refine V_ixor (q := 116) dX11_boy_115 rfl ?_
      refine V_iand (q := 117) dX11_boy_116 rfl ?_
      obtain ⟨hi41, h⟩ := ldA_i h
      refine V_iaload (q := 118) rfl hi41 dX11_boy_117 rfl ?_
      refine V_istore (q := 120) dX11_boy_118 (Nat.le_of_ble_eq_true rfl) trivial rfl ?_
      refine V_iload (q := 122) dX11_boy_120 rfl rfl ?_
      refine V_iconst (q := 123) dX11_boy_122 rfl rfl ?_
      refine V_icmpeq (q := 159) (q2 := 126) dX11_boy_123 (by decide) rfl (fun hc42 => ?_) (fun hc42 => ?_)
      · have h := ifT hc42 h
        refine V_iinc (q := 162) dX11_boy_159 rfl (Nat.le_of_ble_eq_true rfl) trivial rfl ?_
        refine V_goto (q := 86) dX11_boy_162 (by decide) ?_
        exact V_weak (ih h) (sb_s rfl (sb_n (sb_n (sb_n (sb_s rfl (sb_s rfl (sb_s rfl (sb_s rfl (sb_n (sb_n sb_0))))))))))
      · have h := ifF hc42 h
        refine V_iload (q := 128) dX11_boy_126 rfl rfl ?_
        refine V_iconst (q := 129) dX11_boy_128 rfl rfl ?_
        refine V_icmpeq (q := 159) (q2 := 132) dX11_boy_129 (by decide) rfl (fun hc43 => ?_) (fun hc43 => ?_)
        · have h := ifT hc43 h
          refine V_iinc (q := 162) dX11_boy_159 rfl (Nat.le_of_ble_eq_true rfl) trivial rfl ?_
          refine V_goto (q := 86) dX11_boy_162 (by decide) ?_
          exact V_weak (ih h) (sb_s rfl (sb_n (sb_n (sb_n (sb_s rfl (sb_s rfl (sb_s rfl (sb_s rfl (sb_n (sb_n sb_0))))))))))
        · have h := ifF hc43 h
          refine V_iload (q := 134) dX11_boy_132 rfl rfl ?_
          refine V_iconst (q := 135) dX11_boy_134 rfl rfl ?_
          refine V_icmpeq (q := 148) (q2 := 138) dX11_boy_135 (by decide) rfl (fun hc44 => ?_) (fun hc44 => ?_)
          · have h := ifT hc44 h
            refine V_iload (q := 150) dX11_boy_148 rfl rfl ?_
            refine V_istore (q := 152) dX11_boy_150 (Nat.le_of_ble_eq_true rfl) trivial rfl ?_
            refine V_iload (q := 154) dX11_boy_152 rfl rfl ?_
            refine V_iload (q := 156) dX11_boy_154 rfl rfl ?_
            refine V_iadd (q := 157) dX11_boy_156 rfl ?_
            refine V_istore (q := 159) dX11_boy_157 (Nat.le_of_ble_eq_true rfl) trivial rfl ?_
            refine V_iinc (q := 162) dX11_boy_159 rfl (Nat.le_of_ble_eq_true rfl) trivial rfl ?_
            refine V_goto (q := 86) dX11_boy_162 (by decide) ?_
            exact V_weak (ih h) (sb_s rfl (sb_n (sb_n (sb_n (sb_s rfl (sb_s rfl (sb_s rfl (sb_s rfl (sb_n (sb_n sb_0))))))))))
          · have h := ifF hc44 h
            refine V_iload (q := 140) dX11_boy_138 rfl rfl ?_
            refine V_iload (q := 142) dX11_boy_140 rfl rfl ?_
            refine V_iadd (q := 143) dX11_boy_142 rfl ?_
            refine V_iload (q := 145) dX11_boy_143 rfl rfl ?_
            refine V_icmpge (q := 159) (q2 := 148) dX11_boy_145 (by decide) rfl (fun hc45 => ?_) (fun hc45 => ?_)
            · have h := ifT hc45 h
              refine V_iinc (q := 162) dX11_boy_159 rfl (Nat.le_of_ble_eq_true rfl) trivial rfl ?_
              refine V_goto (q := 86) dX11_boy_162 (by decide) ?_
              exact V_weak (ih h) (sb_s rfl (sb_n (sb_n (sb_n (sb_s rfl (sb_s rfl (sb_s rfl (sb_s rfl (sb_n (sb_n sb_0))))))))))
            · have h := ifF hc45 h
              refine V_iload (q := 150) dX11_boy_148 rfl rfl ?_
              refine V_istore (q := 152) dX11_boy_150 (Nat.le_of_ble_eq_true rfl) trivial rfl ?_
              refine V_iload (q := 154) dX11_boy_152 rfl rfl ?_
              refine V_iload (q := 156) dX11_boy_154 rfl rfl ?_
              refine V_iadd (q := 157) dX11_boy_156 rfl ?_
              refine V_istore (q := 159) dX11_boy_157 (Nat.le_of_ble_eq_true rfl) trivial rfl ?_
              refine V_iinc (q := 162) dX11_boy_159 rfl (Nat.le_of_ble_eq_true rfl) trivial rfl ?_
              refine V_goto (q := 86) dX11_boy_162 (by decide) ?_
              exact V_weak (ih h) (sb_s rfl (sb_n (sb_n (sb_n (sb_s rfl (sb_s rfl (sb_s rfl (sb_s rfl (sb_n (sb_n sb_0))))))))))
set_option maxHeartbeats 4000000 in
set_option maxRecDepth 100000 in
theorem kX11_boy (d : Nat) (hd : 134 ≤ d) {l1 : Int} {l2 : Int} {l3 : Int} {l4 : Int} {μ : Mm} {r : Int} {μ' : Mm} (h : X11_boy l1 l2 l3 l4 μ = some (r, μ')) : CC d mX11_boy [vR 70, vI l1, vI l2, vI l3, vI l4] μ r μ' := by
  unfold X11_boy at h
  refine V_enter (by decide) (Nat.le_of_ble_eq_true rfl) ?_
  show VV d mX11_boy 0 [some (vR 70), some (vI l1), some (vI l2), some (vI l3), some (vI l4), none, none, none, none, none] [] μ r μ'
  refine V_aload_n (q := 1) dX11_boy_0 rfl rfl rfl ?_
  refine V_iload_n (q := 2) dX11_boy_1 rfl rfl rfl ?_
  obtain ⟨v1, μ2, hc3, h⟩ := bd_i h
  refine V_cV1 (q := 5) (v := vI v1) (kX11_isReady (d - 1) (by omega) hc3) (by omega) mv_X11_335 rfl rfl rfl rfl rfl rfl dX11_boy_2 rfl ?_
  refine V_ifeq (q := 36) (q2 := 8) dX11_boy_5 (by decide) rfl (fun hc4 => ?_) (fun hc4 => ?_)
  · have h := ifT hc4 h
    refine V_iconst (q := 37) dX11_boy_36 rfl rfl ?_
    exact V_iret rfl h dX11_boy_37
  · have h := ifF hc4 h
    refine V_aload_n (q := 9) dX11_boy_8 rfl rfl rfl ?_
    refine V_iload_n (q := 10) dX11_boy_9 rfl rfl rfl ?_
    obtain ⟨v5, μ6, hc7, h⟩ := bd_i h
    refine V_cV1 (q := 13) (v := vI v5) (kX11_isOpen (d - 1) (by omega) hc7) (by omega) mv_X11_290 rfl rfl rfl rfl rfl rfl dX11_boy_10 rfl ?_
    refine V_ifeq (q := 36) (q2 := 16) dX11_boy_13 (by decide) rfl (fun hc8 => ?_) (fun hc8 => ?_)
    · have h := ifT hc8 h
      refine V_iconst (q := 37) dX11_boy_36 rfl rfl ?_
      exact V_iret rfl h dX11_boy_37
    · have h := ifF hc8 h
      refine V_iload_n (q := 17) dX11_boy_16 rfl rfl rfl ?_
      refine V_iconst (q := 18) dX11_boy_17 rfl rfl ?_
      refine V_bipush (q := 20) dX11_boy_18 rfl rfl rfl ?_
      obtain ⟨v9, μ10, hc11, h⟩ := bd_i h
      refine V_cS1 (q := 23) (v := vI v9) (kX11_in (d - 1) (by omega) hc11) (by omega) mv_X11_213 rfl rfl rfl rfl dX11_boy_20 rfl ?_
      refine V_ifeq (q := 36) (q2 := 26) dX11_boy_23 (by decide) rfl (fun hc12 => ?_) (fun hc12 => ?_)
      · have h := ifT hc12 h
        refine V_iconst (q := 37) dX11_boy_36 rfl rfl ?_
        exact V_iret rfl h dX11_boy_37
      · have h := ifF hc12 h
        refine V_iload (q := 28) dX11_boy_26 rfl rfl ?_
        refine V_iconst (q := 29) dX11_boy_28 rfl rfl ?_
        refine V_iconst (q := 30) dX11_boy_29 rfl rfl ?_
        obtain ⟨v13, μ14, hc15, h⟩ := bd_i h
        refine V_cS1 (q := 33) (v := vI v13) (kX11_in (d - 1) (by omega) hc15) (by omega) mv_X11_213 rfl rfl rfl rfl dX11_boy_30 rfl ?_
        refine V_ifne (q := 38) (q2 := 36) dX11_boy_33 (by decide) rfl (fun hc16 => ?_) (fun hc16 => ?_)
        · have h := ifF hc16 h
          refine V_iconst (q := 39) dX11_boy_38 rfl rfl ?_
          refine V_istore (q := 41) dX11_boy_39 (Nat.le_of_ble_eq_true rfl) trivial rfl ?_
          refine V_weak (kX11_boy_L41 d hd (fun μ26 h => ?_) FU h) (sb_s rfl (sb_s rfl (sb_s rfl (sb_s rfl (sb_s rfl (sb_s rfl (sb_n (sb_n (sb_n (sb_n sb_0))))))))))
          refine V_aload_n (q := 71) dX11_boy_70 rfl rfl rfl ?_
          refine V_iload_n (q := 72) dX11_boy_71 rfl rfl rfl ?_
          refine V_iload_n (q := 73) dX11_boy_72 rfl rfl rfl ?_
          refine V_iload_n (q := 74) dX11_boy_73 rfl rfl rfl ?_
          obtain ⟨v27, μ28, hc29, h⟩ := bd_i h
          refine V_cV0 (q := 77) (kX11_lay (d - 1) (by omega) hc29) (by omega) mv_X11_322 rfl rfl rfl rfl rfl rfl dX11_boy_74 rfl ?_
          refine V_iconst (q := 78) dX11_boy_77 rfl rfl ?_
          refine V_istore (q := 80) dX11_boy_78 (Nat.le_of_ble_eq_true rfl) trivial rfl ?_
          refine V_iconst (q := 81) dX11_boy_80 rfl rfl ?_
          refine V_istore (q := 83) dX11_boy_81 (Nat.le_of_ble_eq_true rfl) trivial rfl ?_
          refine V_iconst (q := 84) dX11_boy_83 rfl rfl ?_
          refine V_istore (q := 86) dX11_boy_84 (Nat.le_of_ble_eq_true rfl) trivial rfl ?_
          refine V_weak (kX11_boy_L86 d hd (fun v46 v47 μ48 h => ?_) FU h) (sb_s rfl (sb_n (sb_n (sb_n (sb_s rfl (sb_s rfl (sb_s rfl (sb_s rfl (sb_n (sb_n sb_0))))))))))
          refine V_iload (q := 167) dX11_boy_165 rfl rfl ?_
          refine V_iconst (q := 168) dX11_boy_167 rfl rfl ?_
          refine V_icmpeq (q := 176) (q2 := 171) dX11_boy_168 (by decide) rfl (fun hc49 => ?_) (fun hc49 => ?_)
          · have h := ifT hc49 h
            refine V_iload (q := 178) dX11_boy_176 rfl rfl ?_
            refine V_goto (q := 183) dX11_boy_178 (by decide) ?_
            exact V_iret rfl h dX11_boy_183
          · have h := ifF hc49 h
            refine V_iload (q := 173) dX11_boy_171 rfl rfl ?_
            refine V_ifne (q := 181) (q2 := 176) dX11_boy_173 (by decide) rfl (fun hc50 => ?_) (fun hc50 => ?_)
            · have h := ifF hc50 h
              refine V_iload (q := 183) dX11_boy_181 rfl rfl ?_
              exact V_iret rfl h dX11_boy_183
            · have h := ifT hc50 h
              refine V_iload (q := 178) dX11_boy_176 rfl rfl ?_
              refine V_goto (q := 183) dX11_boy_178 (by decide) ?_
              exact V_iret rfl h dX11_boy_183
        · have h := ifT hc16 h
          refine V_iconst (q := 37) dX11_boy_36 rfl rfl ?_
          exact V_iret rfl h dX11_boy_37
abbrev mX11_out : Mth := (yX11_out, cX11_out, 2, some .int)
theorem mi_X11_out : Cond.instanceMethod yX11_out ∈ tG ∧ Cond.selects yX11_out.cls yX11_out yX11_out ∈ tG ∧ Cond.initialized yX11_out.cls ∈ tG ∧ Cond.code yX11_out cX11_out 2 (some .int) ∈ tG ∧ (yX11_out.cls ≠ "java/lang/invoke/MethodHandle" ∧ yX11_out.cls ≠ "java/lang/invoke/VarHandle" ∧ (parseMethodDescriptor yX11_out.desc).map (fun d => d.parameters.length) = some 1) ∧ 2 ≤ 60 := ⟨(tG_of (List.mem_of_getElem? (i := 1689) (by decide +kernel)) (by decide +kernel)), (tG_of (List.mem_of_getElem? (i := 1690) (by decide +kernel)) (by decide +kernel)), (tG_of (List.mem_of_getElem? (i := 112) (by decide +kernel)) (by decide +kernel)), (tG_of (List.mem_of_getElem? (i := 1691) (by decide +kernel)) (by decide +kernel)), ⟨by decide, by decide, by decide +kernel⟩, by decide⟩
theorem dX11_out_0 : decode cX11_out 0 = .ok (.aload_n 0, 1) := by decide +kernel
theorem dX11_out_1 : decode cX11_out 1 = .ok (.iload_n 1, 1) := by decide +kernel
theorem dX11_out_2 : decode cX11_out 2 = .ok (.invokevirtual 284, 3) := by decide +kernel
theorem dX11_out_5 : decode cX11_out 5 = .ok (.ifCond .ne 5, 3) := by decide +kernel
theorem dX11_out_8 : decode cX11_out 8 = .ok (.iconst (-1), 1) := by decide +kernel
theorem dX11_out_9 : decode cX11_out 9 = .ok (.ireturn, 1) := by decide +kernel
theorem dX11_out_10 : decode cX11_out 10 = .ok (.aload_n 0, 1) := by decide +kernel
theorem dX11_out_11 : decode cX11_out 11 = .ok (.aload_n 0, 1) := by decide +kernel
theorem dX11_out_12 : decode cX11_out 12 = .ok (.iconst 3, 1) := by decide +kernel
theorem dX11_out_13 : decode cX11_out 13 = .ok (.iload_n 1, 1) := by decide +kernel
theorem dX11_out_14 : decode cX11_out 14 = .ok (.iadd, 1) := by decide +kernel
theorem dX11_out_15 : decode cX11_out 15 = .ok (.invokevirtual 281, 3) := by decide +kernel
theorem dX11_out_18 : decode cX11_out 18 = .ok (.invokevirtual 293, 3) := by decide +kernel
theorem dX11_out_21 : decode cX11_out 21 = .ok (.aload_n 0, 1) := by decide +kernel
theorem dX11_out_22 : decode cX11_out 22 = .ok (.getfield 65, 3) := by decide +kernel
theorem dX11_out_25 : decode cX11_out 25 = .ok (.aload_n 0, 1) := by decide +kernel
theorem dX11_out_26 : decode cX11_out 26 = .ok (.iconst 2, 1) := by decide +kernel
theorem dX11_out_27 : decode cX11_out 27 = .ok (.invokevirtual 281, 3) := by decide +kernel
theorem dX11_out_30 : decode cX11_out 30 = .ok (.iaload, 1) := by decide +kernel
theorem dX11_out_31 : decode cX11_out 31 = .ok (.ireturn, 1) := by decide +kernel
def X11_out (l1 : Int) (μ : Mm) : Rs := bd (X11_isCrank l1 μ) fun v1 μ2 => if v1 = 0 then (some ((-1), μ2)) else (bd (X11_placeOf (iA 3 l1) μ2) fun v5 μ6 => bd (X11_spread v5 μ6) fun v8 μ9 => bd (X11_placeOf 2 μ9) fun v11 μ12 => ldA μ12 87 v11 fun v14 => some (v14, μ12))
set_option maxHeartbeats 4000000 in
set_option maxRecDepth 100000 in
theorem kX11_out (d : Nat) (hd : 4 ≤ d) {l1 : Int} {μ : Mm} {r : Int} {μ' : Mm} (h : X11_out l1 μ = some (r, μ')) : CC d mX11_out [vR 70, vI l1] μ r μ' := by
  unfold X11_out at h
  refine V_enter (by decide) (Nat.le_of_ble_eq_true rfl) ?_
  show VV d mX11_out 0 [some (vR 70), some (vI l1)] [] μ r μ'
  refine V_aload_n (q := 1) dX11_out_0 rfl rfl rfl ?_
  refine V_iload_n (q := 2) dX11_out_1 rfl rfl rfl ?_
  obtain ⟨v1, μ2, hc3, h⟩ := bd_i h
  refine V_cV1 (q := 5) (v := vI v1) (kX11_isCrank (d - 1) (by omega) hc3) (by omega) mv_X11_284 rfl rfl rfl rfl rfl rfl dX11_out_2 rfl ?_
  refine V_ifne (q := 10) (q2 := 8) dX11_out_5 (by decide) rfl (fun hc4 => ?_) (fun hc4 => ?_)
  · have h := ifF hc4 h
    refine V_aload_n (q := 11) dX11_out_10 rfl rfl rfl ?_
    refine V_aload_n (q := 12) dX11_out_11 rfl rfl rfl ?_
    refine V_iconst (q := 13) dX11_out_12 rfl rfl ?_
    refine V_iload_n (q := 14) dX11_out_13 rfl rfl rfl ?_
    refine V_iadd (q := 15) dX11_out_14 rfl ?_
    obtain ⟨v5, μ6, hc7, h⟩ := bd_i h
    refine V_cV1 (q := 18) (v := vI v5) (kX11_placeOf (d - 1) (by omega) hc7) (by omega) mv_X11_281 rfl rfl rfl rfl rfl rfl dX11_out_15 rfl ?_
    obtain ⟨v8, μ9, hc10, h⟩ := bd_i h
    refine V_cV0 (q := 21) (kX11_spread (d - 1) (by omega) hc10) (by omega) mv_X11_293 rfl rfl rfl rfl rfl rfl dX11_out_18 rfl ?_
    refine V_aload_n (q := 22) dX11_out_21 rfl rfl rfl ?_
    refine V_getO (q := 25) (t := 87) fl_X11_65 rfl rfl rfl rfl dX11_out_22 rfl ?_
    refine V_aload_n (q := 26) dX11_out_25 rfl rfl rfl ?_
    refine V_iconst (q := 27) dX11_out_26 rfl rfl ?_
    obtain ⟨v11, μ12, hc13, h⟩ := bd_i h
    refine V_cV1 (q := 30) (v := vI v11) (kX11_placeOf (d - 1) (by omega) hc13) (by omega) mv_X11_281 rfl rfl rfl rfl rfl rfl dX11_out_27 rfl ?_
    obtain ⟨hi15, h⟩ := ldA_i h
    refine V_iaload (q := 31) rfl hi15 dX11_out_30 rfl ?_
    exact V_iret rfl h dX11_out_31
  · have h := ifT hc4 h
    refine V_iconst (q := 9) dX11_out_8 rfl rfl ?_
    exact V_iret rfl h dX11_out_9
abbrev mX11_walk : Mth := (yX11_walk, cX11_walk, 9, some .int)
theorem mi_X11_walk : Cond.instanceMethod yX11_walk ∈ tG ∧ Cond.selects yX11_walk.cls yX11_walk yX11_walk ∈ tG ∧ Cond.initialized yX11_walk.cls ∈ tG ∧ Cond.code yX11_walk cX11_walk 9 (some .int) ∈ tG ∧ (yX11_walk.cls ≠ "java/lang/invoke/MethodHandle" ∧ yX11_walk.cls ≠ "java/lang/invoke/VarHandle" ∧ (parseMethodDescriptor yX11_walk.desc).map (fun d => d.parameters.length) = some 3) ∧ 9 ≤ 60 := ⟨(tG_of (List.mem_of_getElem? (i := 1693) (by decide +kernel)) (by decide +kernel)), (tG_of (List.mem_of_getElem? (i := 1694) (by decide +kernel)) (by decide +kernel)), (tG_of (List.mem_of_getElem? (i := 112) (by decide +kernel)) (by decide +kernel)), (tG_of (List.mem_of_getElem? (i := 1695) (by decide +kernel)) (by decide +kernel)), ⟨by decide, by decide, by decide +kernel⟩, by decide⟩
theorem dX11_walk_0 : decode cX11_walk 0 = .ok (.aload_n 0, 1) := by decide +kernel
theorem dX11_walk_1 : decode cX11_walk 1 = .ok (.iload_n 1, 1) := by decide +kernel
theorem dX11_walk_2 : decode cX11_walk 2 = .ok (.invokevirtual 335, 3) := by decide +kernel
theorem dX11_walk_5 : decode cX11_walk 5 = .ok (.ifCond .eq 28, 3) := by decide +kernel
theorem dX11_walk_8 : decode cX11_walk 8 = .ok (.aload_n 0, 1) := by decide +kernel
theorem dX11_walk_9 : decode cX11_walk 9 = .ok (.iload_n 2, 1) := by decide +kernel
theorem dX11_walk_10 : decode cX11_walk 10 = .ok (.invokevirtual 338, 3) := by decide +kernel
theorem dX11_walk_13 : decode cX11_walk 13 = .ok (.ifCond .eq 20, 3) := by decide +kernel
theorem dX11_walk_16 : decode cX11_walk 16 = .ok (.iload_n 3, 1) := by decide +kernel
theorem dX11_walk_17 : decode cX11_walk 17 = .ok (.iconst 0, 1) := by decide +kernel
theorem dX11_walk_18 : decode cX11_walk 18 = .ok (.iconst 1, 1) := by decide +kernel
theorem dX11_walk_19 : decode cX11_walk 19 = .ok (.invokestatic 213, 3) := by decide +kernel
theorem dX11_walk_22 : decode cX11_walk 22 = .ok (.ifCond .eq 11, 3) := by decide +kernel
theorem dX11_walk_25 : decode cX11_walk 25 = .ok (.aload_n 0, 1) := by decide +kernel
theorem dX11_walk_26 : decode cX11_walk 26 = .ok (.iload_n 2, 1) := by decide +kernel
theorem dX11_walk_27 : decode cX11_walk 27 = .ok (.invokevirtual 341, 3) := by decide +kernel
theorem dX11_walk_30 : decode cX11_walk 30 = .ok (.ifCond .ne 5, 3) := by decide +kernel
theorem dX11_walk_33 : decode cX11_walk 33 = .ok (.iconst (-1), 1) := by decide +kernel
theorem dX11_walk_34 : decode cX11_walk 34 = .ok (.ireturn, 1) := by decide +kernel
theorem dX11_walk_35 : decode cX11_walk 35 = .ok (.aload_n 0, 1) := by decide +kernel
theorem dX11_walk_36 : decode cX11_walk 36 = .ok (.getfield 316, 3) := by decide +kernel
theorem dX11_walk_39 : decode cX11_walk 39 = .ok (.istore 4, 2) := by decide +kernel
theorem dX11_walk_41 : decode cX11_walk 41 = .ok (.iconst 0, 1) := by decide +kernel
theorem dX11_walk_42 : decode cX11_walk 42 = .ok (.istore 5, 2) := by decide +kernel
theorem dX11_walk_44 : decode cX11_walk 44 = .ok (.iconst 0, 1) := by decide +kernel
theorem dX11_walk_45 : decode cX11_walk 45 = .ok (.istore 6, 2) := by decide +kernel
theorem dX11_walk_47 : decode cX11_walk 47 = .ok (.iconst 0, 1) := by decide +kernel
theorem dX11_walk_48 : decode cX11_walk 48 = .ok (.istore 7, 2) := by decide +kernel
theorem dX11_walk_50 : decode cX11_walk 50 = .ok (.iload 7, 2) := by decide +kernel
theorem dX11_walk_52 : decode cX11_walk 52 = .ok (.aload_n 0, 1) := by decide +kernel
theorem dX11_walk_53 : decode cX11_walk 53 = .ok (.getfield 316, 3) := by decide +kernel
theorem dX11_walk_56 : decode cX11_walk 56 = .ok (.if_icmp .ge 68, 3) := by decide +kernel
theorem dX11_walk_59 : decode cX11_walk 59 = .ok (.aload_n 0, 1) := by decide +kernel
theorem dX11_walk_60 : decode cX11_walk 60 = .ok (.iload_n 2, 1) := by decide +kernel
theorem dX11_walk_61 : decode cX11_walk 61 = .ok (.iload 7, 2) := by decide +kernel
theorem dX11_walk_63 : decode cX11_walk 63 = .ok (.invokevirtual 329, 3) := by decide +kernel
theorem dX11_walk_66 : decode cX11_walk 66 = .ok (.istore 8, 2) := by decide +kernel
theorem dX11_walk_68 : decode cX11_walk 68 = .ok (.iload 5, 2) := by decide +kernel
theorem dX11_walk_70 : decode cX11_walk 70 = .ok (.aload_n 0, 1) := by decide +kernel
theorem dX11_walk_71 : decode cX11_walk 71 = .ok (.getfield 71, 3) := by decide +kernel
theorem dX11_walk_74 : decode cX11_walk 74 = .ok (.bipush 8, 2) := by decide +kernel
theorem dX11_walk_76 : decode cX11_walk 76 = .ok (.iload 4, 2) := by decide +kernel
theorem dX11_walk_78 : decode cX11_walk 78 = .ok (.imul, 1) := by decide +kernel
theorem dX11_walk_79 : decode cX11_walk 79 = .ok (.iload 8, 2) := by decide +kernel
theorem dX11_walk_81 : decode cX11_walk 81 = .ok (.iadd, 1) := by decide +kernel
theorem dX11_walk_82 : decode cX11_walk 82 = .ok (.iaload, 1) := by decide +kernel
theorem dX11_walk_83 : decode cX11_walk 83 = .ok (.iadd, 1) := by decide +kernel
theorem dX11_walk_84 : decode cX11_walk 84 = .ok (.istore 5, 2) := by decide +kernel
theorem dX11_walk_86 : decode cX11_walk 86 = .ok (.iload 6, 2) := by decide +kernel
theorem dX11_walk_88 : decode cX11_walk 88 = .ok (.aload_n 0, 1) := by decide +kernel
theorem dX11_walk_89 : decode cX11_walk 89 = .ok (.getfield 80, 3) := by decide +kernel
theorem dX11_walk_92 : decode cX11_walk 92 = .ok (.iload 8, 2) := by decide +kernel
theorem dX11_walk_94 : decode cX11_walk 94 = .ok (.iaload, 1) := by decide +kernel
theorem dX11_walk_95 : decode cX11_walk 95 = .ok (.aload_n 0, 1) := by decide +kernel
theorem dX11_walk_96 : decode cX11_walk 96 = .ok (.getfield 77, 3) := by decide +kernel
theorem dX11_walk_99 : decode cX11_walk 99 = .ok (.iload 8, 2) := by decide +kernel
theorem dX11_walk_101 : decode cX11_walk 101 = .ok (.iaload, 1) := by decide +kernel
theorem dX11_walk_102 : decode cX11_walk 102 = .ok (.isub, 1) := by decide +kernel
theorem dX11_walk_103 : decode cX11_walk 103 = .ok (.aload_n 0, 1) := by decide +kernel
theorem dX11_walk_104 : decode cX11_walk 104 = .ok (.getfield 74, 3) := by decide +kernel
theorem dX11_walk_107 : decode cX11_walk 107 = .ok (.iload 8, 2) := by decide +kernel
theorem dX11_walk_109 : decode cX11_walk 109 = .ok (.iaload, 1) := by decide +kernel
theorem dX11_walk_110 : decode cX11_walk 110 = .ok (.isub, 1) := by decide +kernel
theorem dX11_walk_111 : decode cX11_walk 111 = .ok (.iadd, 1) := by decide +kernel
theorem dX11_walk_112 : decode cX11_walk 112 = .ok (.istore 6, 2) := by decide +kernel
theorem dX11_walk_114 : decode cX11_walk 114 = .ok (.iload 8, 2) := by decide +kernel
theorem dX11_walk_116 : decode cX11_walk 116 = .ok (.istore 4, 2) := by decide +kernel
theorem dX11_walk_118 : decode cX11_walk 118 = .ok (.iinc 7 1, 3) := by decide +kernel
theorem dX11_walk_121 : decode cX11_walk 121 = .ok (.goto (-71), 3) := by decide +kernel
theorem dX11_walk_124 : decode cX11_walk 124 = .ok (.iload_n 3, 1) := by decide +kernel
theorem dX11_walk_125 : decode cX11_walk 125 = .ok (.ifCond .ne 8, 3) := by decide +kernel
theorem dX11_walk_128 : decode cX11_walk 128 = .ok (.iload 5, 2) := by decide +kernel
theorem dX11_walk_130 : decode cX11_walk 130 = .ok (.goto 5, 3) := by decide +kernel
theorem dX11_walk_133 : decode cX11_walk 133 = .ok (.iload 6, 2) := by decide +kernel
theorem dX11_walk_135 : decode cX11_walk 135 = .ok (.ireturn, 1) := by decide +kernel
def X11_walk_L50 (l2 : Int) (l3 : Int) (k124 : Int → Int → Mm → Rs) : Nat → Int → Int → Int → Int → Mm → Rs
  | 0, _, _, _, _, _ => none
  | n + 1, l4, l5, l6, l7, μ => if (μ 70 37) ≤ l7 then (k124 l5 l6 μ) else (bd (X11_nth l2 l7 μ) fun v18 μ19 => ldA μ19 89 (iA (iM 8 l4) v18) fun v21 => ldA μ19 92 v18 fun v23 => ldA μ19 91 v18 fun v25 => ldA μ19 90 v18 fun v27 => lt_ (iA l6 (iS (iS v23 v25) v27)) fun v29 => X11_walk_L50 l2 l3 k124 n v18 (iA l5 v21) v29 (iA l7 1) μ19)
def X11_walk (l1 : Int) (l2 : Int) (l3 : Int) (μ : Mm) : Rs := bd (X11_isReady l1 μ) fun v1 μ2 => if v1 = 0 then (some ((-1), μ2)) else (bd (X11_isOrder l2 μ2) fun v5 μ6 => if v5 = 0 then (some ((-1), μ6)) else (bd (X11_in l3 0 1 μ6) fun v9 μ10 => if v9 = 0 then (some ((-1), μ10)) else (bd (X11_go l2 μ10) fun v13 μ14 => if v13 = 0 then (some ((-1), μ14)) else (X11_walk_L50 l2 l3 (fun v30 v31 μ32 => if l3 = 0 then (some (v30, μ32)) else (some (v31, μ32))) FU (μ14 70 37) 0 0 0 μ14))))
set_option maxHeartbeats 4000000 in
set_option maxRecDepth 100000 in
theorem kX11_walk_L50 (d : Nat) (hd : 8 ≤ d) {l2 : Int} {l3 : Int} {k124 : Int → Int → Mm → Rs} {r : Int} {μ' : Mm} (hk_124 : ∀ (v5 v6 : Int) (μ1 : Mm), k124 v5 v6 μ1 = some (r, μ') → VV d mX11_walk 124 [none, none, none, some (vI l3), none, some (vI v5), some (vI v6), none, none] [] μ1 r μ') : ∀ (n : Nat) {l4 l5 l6 l7 : Int} {μ : Mm}, X11_walk_L50 l2 l3 k124 n l4 l5 l6 l7 μ = some (r, μ') → VV d mX11_walk 50 [some (vR 70), none, some (vI l2), some (vI l3), some (vI l4), some (vI l5), some (vI l6), some (vI l7), none] [] μ r μ' := by
  intro n
  induction n with
  | zero => intro l4 l5 l6 l7 μ h; rw [X11_walk_L50] at h; cases h
  | succ n ih =>
    intro l4 l5 l6 l7 μ h
    rw [X11_walk_L50] at h
    refine V_iload (q := 52) dX11_walk_50 rfl rfl ?_
    refine V_aload_n (q := 53) dX11_walk_52 rfl rfl rfl ?_
    refine V_getI (q := 56) fl_X11_316 rfl rfl rfl dX11_walk_53 rfl ?_
    refine V_icmpge (q := 124) (q2 := 59) dX11_walk_56 (by decide) rfl (fun hc17 => ?_) (fun hc17 => ?_)
    · have h := ifT hc17 h
      exact V_weak (hk_124 _ _ _ h) (sb_n (sb_n (sb_n (sb_s rfl (sb_n (sb_s rfl (sb_s rfl (sb_n (sb_n sb_0)))))))))
    · have h := ifF hc17 h
      refine V_aload_n (q := 60) dX11_walk_59 rfl rfl rfl ?_
      refine V_iload_n (q := 61) dX11_walk_60 rfl rfl rfl ?_
      refine V_iload (q := 63) dX11_walk_61 rfl rfl ?_
      obtain ⟨v18, μ19, hc20, h⟩ := bd_i h
      refine V_cV1 (q := 66) (v := vI v18) (kX11_nth (d - 1) (by omega) hc20) (by omega) mv_X11_329 rfl rfl rfl rfl rfl rfl dX11_walk_63 rfl ?_
      refine V_istore (q := 68) dX11_walk_66 (Nat.le_of_ble_eq_true rfl) trivial rfl ?_
      refine V_iload (q := 70) dX11_walk_68 rfl rfl ?_
      refine V_aload_n (q := 71) dX11_walk_70 rfl rfl rfl ?_
      refine V_getO (q := 74) (t := 89) fl_X11_71 rfl rfl rfl rfl dX11_walk_71 rfl ?_
      refine V_bipush (q := 76) dX11_walk_74 rfl rfl rfl ?_
      refine V_iload (q := 78) dX11_walk_76 rfl rfl ?_
      refine V_imul (q := 79) dX11_walk_78 rfl ?_
      refine V_iload (q := 81) dX11_walk_79 rfl rfl ?_
      refine V_iadd (q := 82) dX11_walk_81 rfl ?_
      obtain ⟨hi22, h⟩ := ldA_i h
      refine V_iaload (q := 83) rfl hi22 dX11_walk_82 rfl ?_
      refine V_iadd (q := 84) dX11_walk_83 rfl ?_
      refine V_istore (q := 86) dX11_walk_84 (Nat.le_of_ble_eq_true rfl) trivial rfl ?_
      refine V_iload (q := 88) dX11_walk_86 rfl rfl ?_
      refine V_aload_n (q := 89) dX11_walk_88 rfl rfl rfl ?_
      refine V_getO (q := 92) (t := 92) fl_X11_80 rfl rfl rfl rfl dX11_walk_89 rfl ?_
      refine V_iload (q := 94) dX11_walk_92 rfl rfl ?_
      obtain ⟨hi24, h⟩ := ldA_i h
      refine V_iaload (q := 95) rfl hi24 dX11_walk_94 rfl ?_
      refine V_aload_n (q := 96) dX11_walk_95 rfl rfl rfl ?_
      refine V_getO (q := 99) (t := 91) fl_X11_77 rfl rfl rfl rfl dX11_walk_96 rfl ?_
      refine V_iload (q := 101) dX11_walk_99 rfl rfl ?_
      obtain ⟨hi26, h⟩ := ldA_i h
      refine V_iaload (q := 102) rfl hi26 dX11_walk_101 rfl ?_
      refine V_isub (q := 103) dX11_walk_102 rfl ?_
      refine V_aload_n (q := 104) dX11_walk_103 rfl rfl rfl ?_
      refine V_getO (q := 107) (t := 90) fl_X11_74 rfl rfl rfl rfl dX11_walk_104 rfl ?_
      refine V_iload (q := 109) dX11_walk_107 rfl rfl ?_
      obtain ⟨hi28, h⟩ := ldA_i h
      refine V_iaload (q := 110) rfl hi28 dX11_walk_109 rfl ?_
      refine V_isub (q := 111) dX11_walk_110 rfl ?_
      refine V_iadd (q := 112) dX11_walk_111 rfl ?_
      have h := lt_i h
      refine V_istore (q := 114) dX11_walk_112 (Nat.le_of_ble_eq_true rfl) trivial rfl ?_
      refine V_iload (q := 116) dX11_walk_114 rfl rfl ?_
      refine V_istore (q := 118) dX11_walk_116 (Nat.le_of_ble_eq_true rfl) trivial rfl ?_
      refine V_iinc (q := 121) dX11_walk_118 rfl (Nat.le_of_ble_eq_true rfl) trivial rfl ?_
      refine V_goto (q := 50) dX11_walk_121 (by decide) ?_
      exact V_weak (ih h) (sb_s rfl (sb_n (sb_s rfl (sb_s rfl (sb_s rfl (sb_s rfl (sb_s rfl (sb_s rfl (sb_n sb_0)))))))))
set_option maxHeartbeats 4000000 in
set_option maxRecDepth 100000 in
theorem kX11_walk (d : Nat) (hd : 8 ≤ d) {l1 : Int} {l2 : Int} {l3 : Int} {μ : Mm} {r : Int} {μ' : Mm} (h : X11_walk l1 l2 l3 μ = some (r, μ')) : CC d mX11_walk [vR 70, vI l1, vI l2, vI l3] μ r μ' := by
  unfold X11_walk at h
  refine V_enter (by decide) (Nat.le_of_ble_eq_true rfl) ?_
  show VV d mX11_walk 0 [some (vR 70), some (vI l1), some (vI l2), some (vI l3), none, none, none, none, none] [] μ r μ'
  refine V_aload_n (q := 1) dX11_walk_0 rfl rfl rfl ?_
  refine V_iload_n (q := 2) dX11_walk_1 rfl rfl rfl ?_
  obtain ⟨v1, μ2, hc3, h⟩ := bd_i h
  refine V_cV1 (q := 5) (v := vI v1) (kX11_isReady (d - 1) (by omega) hc3) (by omega) mv_X11_335 rfl rfl rfl rfl rfl rfl dX11_walk_2 rfl ?_
  refine V_ifeq (q := 33) (q2 := 8) dX11_walk_5 (by decide) rfl (fun hc4 => ?_) (fun hc4 => ?_)
  · have h := ifT hc4 h
    refine V_iconst (q := 34) dX11_walk_33 rfl rfl ?_
    exact V_iret rfl h dX11_walk_34
  · have h := ifF hc4 h
    refine V_aload_n (q := 9) dX11_walk_8 rfl rfl rfl ?_
    refine V_iload_n (q := 10) dX11_walk_9 rfl rfl rfl ?_
    obtain ⟨v5, μ6, hc7, h⟩ := bd_i h
    refine V_cV1 (q := 13) (v := vI v5) (kX11_isOrder (d - 1) (by omega) hc7) (by omega) mv_X11_338 rfl rfl rfl rfl rfl rfl dX11_walk_10 rfl ?_
    refine V_ifeq (q := 33) (q2 := 16) dX11_walk_13 (by decide) rfl (fun hc8 => ?_) (fun hc8 => ?_)
    · have h := ifT hc8 h
      refine V_iconst (q := 34) dX11_walk_33 rfl rfl ?_
      exact V_iret rfl h dX11_walk_34
    · have h := ifF hc8 h
      refine V_iload_n (q := 17) dX11_walk_16 rfl rfl rfl ?_
      refine V_iconst (q := 18) dX11_walk_17 rfl rfl ?_
      refine V_iconst (q := 19) dX11_walk_18 rfl rfl ?_
      obtain ⟨v9, μ10, hc11, h⟩ := bd_i h
      refine V_cS1 (q := 22) (v := vI v9) (kX11_in (d - 1) (by omega) hc11) (by omega) mv_X11_213 rfl rfl rfl rfl dX11_walk_19 rfl ?_
      refine V_ifeq (q := 33) (q2 := 25) dX11_walk_22 (by decide) rfl (fun hc12 => ?_) (fun hc12 => ?_)
      · have h := ifT hc12 h
        refine V_iconst (q := 34) dX11_walk_33 rfl rfl ?_
        exact V_iret rfl h dX11_walk_34
      · have h := ifF hc12 h
        refine V_aload_n (q := 26) dX11_walk_25 rfl rfl rfl ?_
        refine V_iload_n (q := 27) dX11_walk_26 rfl rfl rfl ?_
        obtain ⟨v13, μ14, hc15, h⟩ := bd_i h
        refine V_cV1 (q := 30) (v := vI v13) (kX11_go (d - 1) (by omega) hc15) (by omega) mv_X11_341 rfl rfl rfl rfl rfl rfl dX11_walk_27 rfl ?_
        refine V_ifne (q := 35) (q2 := 33) dX11_walk_30 (by decide) rfl (fun hc16 => ?_) (fun hc16 => ?_)
        · have h := ifF hc16 h
          refine V_aload_n (q := 36) dX11_walk_35 rfl rfl rfl ?_
          refine V_getI (q := 39) fl_X11_316 rfl rfl rfl dX11_walk_36 rfl ?_
          refine V_istore (q := 41) dX11_walk_39 (Nat.le_of_ble_eq_true rfl) trivial rfl ?_
          refine V_iconst (q := 42) dX11_walk_41 rfl rfl ?_
          refine V_istore (q := 44) dX11_walk_42 (Nat.le_of_ble_eq_true rfl) trivial rfl ?_
          refine V_iconst (q := 45) dX11_walk_44 rfl rfl ?_
          refine V_istore (q := 47) dX11_walk_45 (Nat.le_of_ble_eq_true rfl) trivial rfl ?_
          refine V_iconst (q := 48) dX11_walk_47 rfl rfl ?_
          refine V_istore (q := 50) dX11_walk_48 (Nat.le_of_ble_eq_true rfl) trivial rfl ?_
          refine V_weak (kX11_walk_L50 d hd (fun v30 v31 μ32 h => ?_) FU h) (sb_s rfl (sb_n (sb_s rfl (sb_s rfl (sb_s rfl (sb_s rfl (sb_s rfl (sb_s rfl (sb_n sb_0)))))))))
          refine V_iload_n (q := 125) dX11_walk_124 rfl rfl rfl ?_
          refine V_ifne (q := 133) (q2 := 128) dX11_walk_125 (by decide) rfl (fun hc33 => ?_) (fun hc33 => ?_)
          · have h := ifF hc33 h
            refine V_iload (q := 135) dX11_walk_133 rfl rfl ?_
            exact V_iret rfl h dX11_walk_135
          · have h := ifT hc33 h
            refine V_iload (q := 130) dX11_walk_128 rfl rfl ?_
            refine V_goto (q := 135) dX11_walk_130 (by decide) ?_
            exact V_iret rfl h dX11_walk_135
        · have h := ifT hc16 h
          refine V_iconst (q := 34) dX11_walk_33 rfl rfl ?_
          exact V_iret rfl h dX11_walk_34
abbrev mX11_mend : Mth := (yX11_mend, cX11_mend, 9, some .int)
theorem mi_X11_mend : Cond.instanceMethod yX11_mend ∈ tG ∧ Cond.selects yX11_mend.cls yX11_mend yX11_mend ∈ tG ∧ Cond.initialized yX11_mend.cls ∈ tG ∧ Cond.code yX11_mend cX11_mend 9 (some .int) ∈ tG ∧ (yX11_mend.cls ≠ "java/lang/invoke/MethodHandle" ∧ yX11_mend.cls ≠ "java/lang/invoke/VarHandle" ∧ (parseMethodDescriptor yX11_mend.desc).map (fun d => d.parameters.length) = some 3) ∧ 9 ≤ 60 := ⟨(tG_of (List.mem_of_getElem? (i := 1697) (by decide +kernel)) (by decide +kernel)), (tG_of (List.mem_of_getElem? (i := 1698) (by decide +kernel)) (by decide +kernel)), (tG_of (List.mem_of_getElem? (i := 112) (by decide +kernel)) (by decide +kernel)), (tG_of (List.mem_of_getElem? (i := 1699) (by decide +kernel)) (by decide +kernel)), ⟨by decide, by decide, by decide +kernel⟩, by decide⟩
theorem dX11_mend_0 : decode cX11_mend 0 = .ok (.aload_n 0, 1) := by decide +kernel
theorem dX11_mend_1 : decode cX11_mend 1 = .ok (.iload_n 1, 1) := by decide +kernel
theorem dX11_mend_2 : decode cX11_mend 2 = .ok (.invokevirtual 335, 3) := by decide +kernel
theorem dX11_mend_5 : decode cX11_mend 5 = .ok (.ifCond .eq 24, 3) := by decide +kernel
theorem dX11_mend_8 : decode cX11_mend 8 = .ok (.iload_n 2, 1) := by decide +kernel
theorem dX11_mend_9 : decode cX11_mend 9 = .ok (.iconst 0, 1) := by decide +kernel
theorem dX11_mend_10 : decode cX11_mend 10 = .ok (.aload_n 0, 1) := by decide +kernel
theorem dX11_mend_11 : decode cX11_mend 11 = .ok (.getfield 316, 3) := by decide +kernel
theorem dX11_mend_14 : decode cX11_mend 14 = .ok (.invokestatic 213, 3) := by decide +kernel
theorem dX11_mend_17 : decode cX11_mend 17 = .ok (.ifCond .eq 12, 3) := by decide +kernel
theorem dX11_mend_20 : decode cX11_mend 20 = .ok (.iload_n 3, 1) := by decide +kernel
theorem dX11_mend_21 : decode cX11_mend 21 = .ok (.iconst 0, 1) := by decide +kernel
theorem dX11_mend_22 : decode cX11_mend 22 = .ok (.iconst 1, 1) := by decide +kernel
theorem dX11_mend_23 : decode cX11_mend 23 = .ok (.invokestatic 213, 3) := by decide +kernel
theorem dX11_mend_26 : decode cX11_mend 26 = .ok (.ifCond .ne 5, 3) := by decide +kernel
theorem dX11_mend_29 : decode cX11_mend 29 = .ok (.iconst (-1), 1) := by decide +kernel
theorem dX11_mend_30 : decode cX11_mend 30 = .ok (.ireturn, 1) := by decide +kernel
theorem dX11_mend_31 : decode cX11_mend 31 = .ok (.aload_n 0, 1) := by decide +kernel
theorem dX11_mend_32 : decode cX11_mend 32 = .ok (.getfield 316, 3) := by decide +kernel
theorem dX11_mend_35 : decode cX11_mend 35 = .ok (.istore 4, 2) := by decide +kernel
theorem dX11_mend_37 : decode cX11_mend 37 = .ok (.iconst 0, 1) := by decide +kernel
theorem dX11_mend_38 : decode cX11_mend 38 = .ok (.istore 5, 2) := by decide +kernel
theorem dX11_mend_40 : decode cX11_mend 40 = .ok (.iconst 0, 1) := by decide +kernel
theorem dX11_mend_41 : decode cX11_mend 41 = .ok (.istore 6, 2) := by decide +kernel
theorem dX11_mend_43 : decode cX11_mend 43 = .ok (.iconst 0, 1) := by decide +kernel
theorem dX11_mend_44 : decode cX11_mend 44 = .ok (.istore 7, 2) := by decide +kernel
theorem dX11_mend_46 : decode cX11_mend 46 = .ok (.iconst 0, 1) := by decide +kernel
theorem dX11_mend_47 : decode cX11_mend 47 = .ok (.istore 8, 2) := by decide +kernel
theorem dX11_mend_49 : decode cX11_mend 49 = .ok (.iload 8, 2) := by decide +kernel
theorem dX11_mend_51 : decode cX11_mend 51 = .ok (.iload_n 2, 1) := by decide +kernel
theorem dX11_mend_52 : decode cX11_mend 52 = .ok (.if_icmp .ge 98, 3) := by decide +kernel
theorem dX11_mend_55 : decode cX11_mend 55 = .ok (.aload_n 0, 1) := by decide +kernel
theorem dX11_mend_56 : decode cX11_mend 56 = .ok (.getfield 71, 3) := by decide +kernel
theorem dX11_mend_59 : decode cX11_mend 59 = .ok (.bipush 8, 2) := by decide +kernel
theorem dX11_mend_61 : decode cX11_mend 61 = .ok (.iload 4, 2) := by decide +kernel
theorem dX11_mend_63 : decode cX11_mend 63 = .ok (.imul, 1) := by decide +kernel
theorem dX11_mend_64 : decode cX11_mend 64 = .ok (.iload 8, 2) := by decide +kernel
theorem dX11_mend_66 : decode cX11_mend 66 = .ok (.iadd, 1) := by decide +kernel
theorem dX11_mend_67 : decode cX11_mend 67 = .ok (.iaload, 1) := by decide +kernel
theorem dX11_mend_68 : decode cX11_mend 68 = .ok (.iconst (-1), 1) := by decide +kernel
theorem dX11_mend_69 : decode cX11_mend 69 = .ok (.if_icmp .ne 5, 3) := by decide +kernel
theorem dX11_mend_72 : decode cX11_mend 72 = .ok (.iconst (-1), 1) := by decide +kernel
theorem dX11_mend_73 : decode cX11_mend 73 = .ok (.ireturn, 1) := by decide +kernel
theorem dX11_mend_74 : decode cX11_mend 74 = .ok (.iload 5, 2) := by decide +kernel
theorem dX11_mend_76 : decode cX11_mend 76 = .ok (.aload_n 0, 1) := by decide +kernel
theorem dX11_mend_77 : decode cX11_mend 77 = .ok (.getfield 71, 3) := by decide +kernel
theorem dX11_mend_80 : decode cX11_mend 80 = .ok (.bipush 8, 2) := by decide +kernel
theorem dX11_mend_82 : decode cX11_mend 82 = .ok (.iload 4, 2) := by decide +kernel
theorem dX11_mend_84 : decode cX11_mend 84 = .ok (.imul, 1) := by decide +kernel
theorem dX11_mend_85 : decode cX11_mend 85 = .ok (.iload 8, 2) := by decide +kernel
theorem dX11_mend_87 : decode cX11_mend 87 = .ok (.iadd, 1) := by decide +kernel
theorem dX11_mend_88 : decode cX11_mend 88 = .ok (.iaload, 1) := by decide +kernel
theorem dX11_mend_89 : decode cX11_mend 89 = .ok (.aload_n 0, 1) := by decide +kernel
theorem dX11_mend_90 : decode cX11_mend 90 = .ok (.getfield 319, 3) := by decide +kernel
theorem dX11_mend_93 : decode cX11_mend 93 = .ok (.imul, 1) := by decide +kernel
theorem dX11_mend_94 : decode cX11_mend 94 = .ok (.iadd, 1) := by decide +kernel
theorem dX11_mend_95 : decode cX11_mend 95 = .ok (.aload_n 0, 1) := by decide +kernel
theorem dX11_mend_96 : decode cX11_mend 96 = .ok (.getfield 74, 3) := by decide +kernel
theorem dX11_mend_99 : decode cX11_mend 99 = .ok (.iload 8, 2) := by decide +kernel
theorem dX11_mend_101 : decode cX11_mend 101 = .ok (.iaload, 1) := by decide +kernel
theorem dX11_mend_102 : decode cX11_mend 102 = .ok (.iadd, 1) := by decide +kernel
theorem dX11_mend_103 : decode cX11_mend 103 = .ok (.aload_n 0, 1) := by decide +kernel
theorem dX11_mend_104 : decode cX11_mend 104 = .ok (.getfield 68, 3) := by decide +kernel
theorem dX11_mend_107 : decode cX11_mend 107 = .ok (.iload 8, 2) := by decide +kernel
theorem dX11_mend_109 : decode cX11_mend 109 = .ok (.iaload, 1) := by decide +kernel
theorem dX11_mend_110 : decode cX11_mend 110 = .ok (.invokestatic 302, 3) := by decide +kernel
theorem dX11_mend_113 : decode cX11_mend 113 = .ok (.istore 5, 2) := by decide +kernel
theorem dX11_mend_115 : decode cX11_mend 115 = .ok (.iload 6, 2) := by decide +kernel
theorem dX11_mend_117 : decode cX11_mend 117 = .ok (.iload 5, 2) := by decide +kernel
theorem dX11_mend_119 : decode cX11_mend 119 = .ok (.aload_n 0, 1) := by decide +kernel
theorem dX11_mend_120 : decode cX11_mend 120 = .ok (.getfield 68, 3) := by decide +kernel
theorem dX11_mend_123 : decode cX11_mend 123 = .ok (.iload 8, 2) := by decide +kernel
theorem dX11_mend_125 : decode cX11_mend 125 = .ok (.iaload, 1) := by decide +kernel
theorem dX11_mend_126 : decode cX11_mend 126 = .ok (.isub, 1) := by decide +kernel
theorem dX11_mend_127 : decode cX11_mend 127 = .ok (.iadd, 1) := by decide +kernel
theorem dX11_mend_128 : decode cX11_mend 128 = .ok (.istore 6, 2) := by decide +kernel
theorem dX11_mend_130 : decode cX11_mend 130 = .ok (.bipush 10, 2) := by decide +kernel
theorem dX11_mend_132 : decode cX11_mend 132 = .ok (.iload 7, 2) := by decide +kernel
theorem dX11_mend_134 : decode cX11_mend 134 = .ok (.imul, 1) := by decide +kernel
theorem dX11_mend_135 : decode cX11_mend 135 = .ok (.iload 8, 2) := by decide +kernel
theorem dX11_mend_137 : decode cX11_mend 137 = .ok (.iadd, 1) := by decide +kernel
theorem dX11_mend_138 : decode cX11_mend 138 = .ok (.istore 7, 2) := by decide +kernel
theorem dX11_mend_140 : decode cX11_mend 140 = .ok (.iload 8, 2) := by decide +kernel
theorem dX11_mend_142 : decode cX11_mend 142 = .ok (.istore 4, 2) := by decide +kernel
theorem dX11_mend_144 : decode cX11_mend 144 = .ok (.iinc 8 1, 3) := by decide +kernel
theorem dX11_mend_147 : decode cX11_mend 147 = .ok (.goto (-98), 3) := by decide +kernel
theorem dX11_mend_150 : decode cX11_mend 150 = .ok (.aload_n 0, 1) := by decide +kernel
theorem dX11_mend_151 : decode cX11_mend 151 = .ok (.iconst (-1), 1) := by decide +kernel
theorem dX11_mend_152 : decode cX11_mend 152 = .ok (.putfield 347, 3) := by decide +kernel
theorem dX11_mend_155 : decode cX11_mend 155 = .ok (.aload_n 0, 1) := by decide +kernel
theorem dX11_mend_156 : decode cX11_mend 156 = .ok (.iconst (-1), 1) := by decide +kernel
theorem dX11_mend_157 : decode cX11_mend 157 = .ok (.putfield 350, 3) := by decide +kernel
theorem dX11_mend_160 : decode cX11_mend 160 = .ok (.aload_n 0, 1) := by decide +kernel
theorem dX11_mend_161 : decode cX11_mend 161 = .ok (.iconst 0, 1) := by decide +kernel
theorem dX11_mend_162 : decode cX11_mend 162 = .ok (.aload_n 0, 1) := by decide +kernel
theorem dX11_mend_163 : decode cX11_mend 163 = .ok (.invokevirtual 357, 3) := by decide +kernel
theorem dX11_mend_166 : decode cX11_mend 166 = .ok (.iconst 1, 1) := by decide +kernel
theorem dX11_mend_167 : decode cX11_mend 167 = .ok (.iload_n 2, 1) := by decide +kernel
theorem dX11_mend_168 : decode cX11_mend 168 = .ok (.ishl, 1) := by decide +kernel
theorem dX11_mend_169 : decode cX11_mend 169 = .ok (.iconst 1, 1) := by decide +kernel
theorem dX11_mend_170 : decode cX11_mend 170 = .ok (.isub, 1) := by decide +kernel
theorem dX11_mend_171 : decode cX11_mend 171 = .ok (.iconst (-1), 1) := by decide +kernel
theorem dX11_mend_172 : decode cX11_mend 172 = .ok (.ixor, 1) := by decide +kernel
theorem dX11_mend_173 : decode cX11_mend 173 = .ok (.iand, 1) := by decide +kernel
theorem dX11_mend_174 : decode cX11_mend 174 = .ok (.iload 4, 2) := by decide +kernel
theorem dX11_mend_176 : decode cX11_mend 176 = .ok (.iload 5, 2) := by decide +kernel
theorem dX11_mend_178 : decode cX11_mend 178 = .ok (.iload 6, 2) := by decide +kernel
theorem dX11_mend_180 : decode cX11_mend 180 = .ok (.iload 7, 2) := by decide +kernel
theorem dX11_mend_182 : decode cX11_mend 182 = .ok (.invokevirtual 353, 3) := by decide +kernel
theorem dX11_mend_185 : decode cX11_mend 185 = .ok (.iload_n 3, 1) := by decide +kernel
theorem dX11_mend_186 : decode cX11_mend 186 = .ok (.ifCond .ne 10, 3) := by decide +kernel
theorem dX11_mend_189 : decode cX11_mend 189 = .ok (.aload_n 0, 1) := by decide +kernel
theorem dX11_mend_190 : decode cX11_mend 190 = .ok (.getfield 347, 3) := by decide +kernel
theorem dX11_mend_193 : decode cX11_mend 193 = .ok (.goto 7, 3) := by decide +kernel
theorem dX11_mend_196 : decode cX11_mend 196 = .ok (.aload_n 0, 1) := by decide +kernel
theorem dX11_mend_197 : decode cX11_mend 197 = .ok (.getfield 350, 3) := by decide +kernel
theorem dX11_mend_200 : decode cX11_mend 200 = .ok (.ireturn, 1) := by decide +kernel
def X11_mend_L49 (l2 : Int) (l3 : Int) (k150 : Int → Int → Int → Int → Mm → Rs) : Nat → Int → Int → Int → Int → Int → Mm → Rs
  | 0, _, _, _, _, _, _ => none
  | n + 1, l4, l5, l6, l7, l8, μ => if l2 ≤ l8 then (k150 l4 l5 l6 l7 μ) else (ldA μ 89 (iA (iM 8 l4) l8) fun v14 => if v14 = (-1) then (some ((-1), μ)) else (ldA μ 89 (iA (iM 8 l4) l8) fun v17 => ldA μ 90 l8 fun v19 => ldA μ 88 l8 fun v21 => bd (J9_max_7cf53 (iA (iA l5 (iM v17 (μ 70 38))) v19) v21 μ) fun v23 μ24 => ldA μ24 88 l8 fun v26 => lt_ (iA l6 (iS v23 v26)) fun v28 => lt_ (iA (iM 10 l7) l8) fun v29 => X11_mend_L49 l2 l3 k150 n l8 v23 v28 v29 (iA l8 1) μ24))
def X11_mend (l1 : Int) (l2 : Int) (l3 : Int) (μ : Mm) : Rs := bd (X11_isReady l1 μ) fun v1 μ2 => if v1 = 0 then (some ((-1), μ2)) else (bd (X11_in l2 0 (μ2 70 37) μ2) fun v5 μ6 => if v5 = 0 then (some ((-1), μ6)) else (bd (X11_in l3 0 1 μ6) fun v9 μ10 => if v9 = 0 then (some ((-1), μ10)) else (X11_mend_L49 l2 l3 (fun v30 v31 v32 v33 μ34 => sF μ34 70 41 (-1) fun μ35 => sF μ35 70 42 (-1) fun μ36 => bd (X11_all μ36) fun v37 μ38 => bd (X11_search RD 0 (bA v37 (bX (iS (bL 1 l2) 1) (-1))) v30 v31 v32 v33 μ38) fun v40 μ41 => if l3 = 0 then (some (μ41 70 41, μ41)) else (some (μ41 70 42, μ41))) FU (μ10 70 37) 0 0 0 0 μ10)))
set_option maxHeartbeats 4000000 in
set_option maxRecDepth 100000 in
theorem kX11_mend_L49 (d : Nat) (hd : 133 ≤ d) {l2 : Int} {l3 : Int} {k150 : Int → Int → Int → Int → Mm → Rs} {r : Int} {μ' : Mm} (hk_150 : ∀ (v4 v5 v6 v7 : Int) (μ1 : Mm), k150 v4 v5 v6 v7 μ1 = some (r, μ') → VV d mX11_mend 150 [some (vR 70), none, some (vI l2), some (vI l3), some (vI v4), some (vI v5), some (vI v6), some (vI v7), none] [] μ1 r μ') : ∀ (n : Nat) {l4 l5 l6 l7 l8 : Int} {μ : Mm}, X11_mend_L49 l2 l3 k150 n l4 l5 l6 l7 l8 μ = some (r, μ') → VV d mX11_mend 49 [some (vR 70), none, some (vI l2), some (vI l3), some (vI l4), some (vI l5), some (vI l6), some (vI l7), some (vI l8)] [] μ r μ' := by
  intro n
  induction n with
  | zero => intro l4 l5 l6 l7 l8 μ h; rw [X11_mend_L49] at h; cases h
  | succ n ih =>
    intro l4 l5 l6 l7 l8 μ h
    rw [X11_mend_L49] at h
    refine V_iload (q := 51) dX11_mend_49 rfl rfl ?_
    refine V_iload_n (q := 52) dX11_mend_51 rfl rfl rfl ?_
    refine V_icmpge (q := 150) (q2 := 55) dX11_mend_52 (by decide) rfl (fun hc13 => ?_) (fun hc13 => ?_)
    · have h := ifT hc13 h
      exact V_weak (hk_150 _ _ _ _ _ h) (sb_s rfl (sb_n (sb_s rfl (sb_s rfl (sb_s rfl (sb_s rfl (sb_s rfl (sb_s rfl (sb_n sb_0)))))))))
    · have h := ifF hc13 h
      refine V_aload_n (q := 56) dX11_mend_55 rfl rfl rfl ?_
      refine V_getO (q := 59) (t := 89) fl_X11_71 rfl rfl rfl rfl dX11_mend_56 rfl ?_
      refine V_bipush (q := 61) dX11_mend_59 rfl rfl rfl ?_
      refine V_iload (q := 63) dX11_mend_61 rfl rfl ?_
      refine V_imul (q := 64) dX11_mend_63 rfl ?_
      refine V_iload (q := 66) dX11_mend_64 rfl rfl ?_
      refine V_iadd (q := 67) dX11_mend_66 rfl ?_
      obtain ⟨hi15, h⟩ := ldA_i h
      refine V_iaload (q := 68) rfl hi15 dX11_mend_67 rfl ?_
      refine V_iconst (q := 69) dX11_mend_68 rfl rfl ?_
      refine V_icmpne (q := 74) (q2 := 72) dX11_mend_69 (by decide) rfl (fun hc16 => ?_) (fun hc16 => ?_)
      · have h := ifF hc16 h
        refine V_iload (q := 76) dX11_mend_74 rfl rfl ?_
        refine V_aload_n (q := 77) dX11_mend_76 rfl rfl rfl ?_
        refine V_getO (q := 80) (t := 89) fl_X11_71 rfl rfl rfl rfl dX11_mend_77 rfl ?_
        refine V_bipush (q := 82) dX11_mend_80 rfl rfl rfl ?_
        refine V_iload (q := 84) dX11_mend_82 rfl rfl ?_
        refine V_imul (q := 85) dX11_mend_84 rfl ?_
        refine V_iload (q := 87) dX11_mend_85 rfl rfl ?_
        refine V_iadd (q := 88) dX11_mend_87 rfl ?_
        obtain ⟨hi18, h⟩ := ldA_i h
        refine V_iaload (q := 89) rfl hi18 dX11_mend_88 rfl ?_
        refine V_aload_n (q := 90) dX11_mend_89 rfl rfl rfl ?_
        refine V_getI (q := 93) fl_X11_319 rfl rfl rfl dX11_mend_90 rfl ?_
        refine V_imul (q := 94) dX11_mend_93 rfl ?_
        refine V_iadd (q := 95) dX11_mend_94 rfl ?_
        refine V_aload_n (q := 96) dX11_mend_95 rfl rfl rfl ?_
        refine V_getO (q := 99) (t := 90) fl_X11_74 rfl rfl rfl rfl dX11_mend_96 rfl ?_
        refine V_iload (q := 101) dX11_mend_99 rfl rfl ?_
        obtain ⟨hi20, h⟩ := ldA_i h
        refine V_iaload (q := 102) rfl hi20 dX11_mend_101 rfl ?_
        refine V_iadd (q := 103) dX11_mend_102 rfl ?_
        refine V_aload_n (q := 104) dX11_mend_103 rfl rfl rfl ?_
        refine V_getO (q := 107) (t := 88) fl_X11_68 rfl rfl rfl rfl dX11_mend_104 rfl ?_
        refine V_iload (q := 109) dX11_mend_107 rfl rfl ?_
        obtain ⟨hi22, h⟩ := ldA_i h
        refine V_iaload (q := 110) rfl hi22 dX11_mend_109 rfl ?_
        obtain ⟨v23, μ24, hc25, h⟩ := bd_i h
        refine V_cS1 (q := 113) (v := vI v23) (kJ9_max_7cf53 (d - 1) (by omega) hc25) (by omega) mv_X11_302 rfl rfl rfl rfl dX11_mend_110 rfl ?_
        refine V_istore (q := 115) dX11_mend_113 (Nat.le_of_ble_eq_true rfl) trivial rfl ?_
        refine V_iload (q := 117) dX11_mend_115 rfl rfl ?_
        refine V_iload (q := 119) dX11_mend_117 rfl rfl ?_
        refine V_aload_n (q := 120) dX11_mend_119 rfl rfl rfl ?_
        refine V_getO (q := 123) (t := 88) fl_X11_68 rfl rfl rfl rfl dX11_mend_120 rfl ?_
        refine V_iload (q := 125) dX11_mend_123 rfl rfl ?_
        obtain ⟨hi27, h⟩ := ldA_i h
        refine V_iaload (q := 126) rfl hi27 dX11_mend_125 rfl ?_
        refine V_isub (q := 127) dX11_mend_126 rfl ?_
        refine V_iadd (q := 128) dX11_mend_127 rfl ?_
        have h := lt_i h
        refine V_istore (q := 130) dX11_mend_128 (Nat.le_of_ble_eq_true rfl) trivial rfl ?_
        refine V_bipush (q := 132) dX11_mend_130 rfl rfl rfl ?_
        refine V_iload (q := 134) dX11_mend_132 rfl rfl ?_
        refine V_imul (q := 135) dX11_mend_134 rfl ?_
        refine V_iload (q := 137) dX11_mend_135 rfl rfl ?_
        refine V_iadd (q := 138) dX11_mend_137 rfl ?_
        have h := lt_i h
        refine V_istore (q := 140) dX11_mend_138 (Nat.le_of_ble_eq_true rfl) trivial rfl ?_
        refine V_iload (q := 142) dX11_mend_140 rfl rfl ?_
        refine V_istore (q := 144) dX11_mend_142 (Nat.le_of_ble_eq_true rfl) trivial rfl ?_
        refine V_iinc (q := 147) dX11_mend_144 rfl (Nat.le_of_ble_eq_true rfl) trivial rfl ?_
        refine V_goto (q := 49) dX11_mend_147 (by decide) ?_
        exact V_weak (ih h) (sb_s rfl (sb_n (sb_s rfl (sb_s rfl (sb_s rfl (sb_s rfl (sb_s rfl (sb_s rfl (sb_s rfl sb_0)))))))))
      · have h := ifT hc16 h
        refine V_iconst (q := 73) dX11_mend_72 rfl rfl ?_
        exact V_iret rfl h dX11_mend_73
set_option maxHeartbeats 4000000 in
set_option maxRecDepth 100000 in
theorem kX11_mend (d : Nat) (hd : 133 ≤ d) {l1 : Int} {l2 : Int} {l3 : Int} {μ : Mm} {r : Int} {μ' : Mm} (h : X11_mend l1 l2 l3 μ = some (r, μ')) : CC d mX11_mend [vR 70, vI l1, vI l2, vI l3] μ r μ' := by
  unfold X11_mend at h
  refine V_enter (by decide) (Nat.le_of_ble_eq_true rfl) ?_
  show VV d mX11_mend 0 [some (vR 70), some (vI l1), some (vI l2), some (vI l3), none, none, none, none, none] [] μ r μ'
  refine V_aload_n (q := 1) dX11_mend_0 rfl rfl rfl ?_
  refine V_iload_n (q := 2) dX11_mend_1 rfl rfl rfl ?_
  obtain ⟨v1, μ2, hc3, h⟩ := bd_i h
  refine V_cV1 (q := 5) (v := vI v1) (kX11_isReady (d - 1) (by omega) hc3) (by omega) mv_X11_335 rfl rfl rfl rfl rfl rfl dX11_mend_2 rfl ?_
  refine V_ifeq (q := 29) (q2 := 8) dX11_mend_5 (by decide) rfl (fun hc4 => ?_) (fun hc4 => ?_)
  · have h := ifT hc4 h
    refine V_iconst (q := 30) dX11_mend_29 rfl rfl ?_
    exact V_iret rfl h dX11_mend_30
  · have h := ifF hc4 h
    refine V_iload_n (q := 9) dX11_mend_8 rfl rfl rfl ?_
    refine V_iconst (q := 10) dX11_mend_9 rfl rfl ?_
    refine V_aload_n (q := 11) dX11_mend_10 rfl rfl rfl ?_
    refine V_getI (q := 14) fl_X11_316 rfl rfl rfl dX11_mend_11 rfl ?_
    obtain ⟨v5, μ6, hc7, h⟩ := bd_i h
    refine V_cS1 (q := 17) (v := vI v5) (kX11_in (d - 1) (by omega) hc7) (by omega) mv_X11_213 rfl rfl rfl rfl dX11_mend_14 rfl ?_
    refine V_ifeq (q := 29) (q2 := 20) dX11_mend_17 (by decide) rfl (fun hc8 => ?_) (fun hc8 => ?_)
    · have h := ifT hc8 h
      refine V_iconst (q := 30) dX11_mend_29 rfl rfl ?_
      exact V_iret rfl h dX11_mend_30
    · have h := ifF hc8 h
      refine V_iload_n (q := 21) dX11_mend_20 rfl rfl rfl ?_
      refine V_iconst (q := 22) dX11_mend_21 rfl rfl ?_
      refine V_iconst (q := 23) dX11_mend_22 rfl rfl ?_
      obtain ⟨v9, μ10, hc11, h⟩ := bd_i h
      refine V_cS1 (q := 26) (v := vI v9) (kX11_in (d - 1) (by omega) hc11) (by omega) mv_X11_213 rfl rfl rfl rfl dX11_mend_23 rfl ?_
      refine V_ifne (q := 31) (q2 := 29) dX11_mend_26 (by decide) rfl (fun hc12 => ?_) (fun hc12 => ?_)
      · have h := ifF hc12 h
        refine V_aload_n (q := 32) dX11_mend_31 rfl rfl rfl ?_
        refine V_getI (q := 35) fl_X11_316 rfl rfl rfl dX11_mend_32 rfl ?_
        refine V_istore (q := 37) dX11_mend_35 (Nat.le_of_ble_eq_true rfl) trivial rfl ?_
        refine V_iconst (q := 38) dX11_mend_37 rfl rfl ?_
        refine V_istore (q := 40) dX11_mend_38 (Nat.le_of_ble_eq_true rfl) trivial rfl ?_
        refine V_iconst (q := 41) dX11_mend_40 rfl rfl ?_
        refine V_istore (q := 43) dX11_mend_41 (Nat.le_of_ble_eq_true rfl) trivial rfl ?_
        refine V_iconst (q := 44) dX11_mend_43 rfl rfl ?_
        refine V_istore (q := 46) dX11_mend_44 (Nat.le_of_ble_eq_true rfl) trivial rfl ?_
        refine V_iconst (q := 47) dX11_mend_46 rfl rfl ?_
        refine V_istore (q := 49) dX11_mend_47 (Nat.le_of_ble_eq_true rfl) trivial rfl ?_
        refine V_weak (kX11_mend_L49 d hd (fun v30 v31 v32 v33 μ34 h => ?_) FU h) (sb_s rfl (sb_n (sb_s rfl (sb_s rfl (sb_s rfl (sb_s rfl (sb_s rfl (sb_s rfl (sb_s rfl sb_0)))))))))
        refine V_aload_n (q := 151) dX11_mend_150 rfl rfl rfl ?_
        refine V_iconst (q := 152) dX11_mend_151 rfl rfl ?_
        have h := sF_i h
        refine V_putI (q := 155) fl_X11_347 rfl rfl rfl dX11_mend_152 rfl ?_
        refine V_aload_n (q := 156) dX11_mend_155 rfl rfl rfl ?_
        refine V_iconst (q := 157) dX11_mend_156 rfl rfl ?_
        have h := sF_i h
        refine V_putI (q := 160) fl_X11_350 rfl rfl rfl dX11_mend_157 rfl ?_
        refine V_aload_n (q := 161) dX11_mend_160 rfl rfl rfl ?_
        refine V_iconst (q := 162) dX11_mend_161 rfl rfl ?_
        refine V_aload_n (q := 163) dX11_mend_162 rfl rfl rfl ?_
        obtain ⟨v37, μ38, hc39, h⟩ := bd_i h
        refine V_cV1 (q := 166) (v := vI v37) (kX11_all (d - 1) (by omega) hc39) (by omega) mv_X11_357 rfl rfl rfl rfl rfl rfl dX11_mend_163 rfl ?_
        refine V_iconst (q := 167) dX11_mend_166 rfl rfl ?_
        refine V_iload_n (q := 168) dX11_mend_167 rfl rfl rfl ?_
        refine V_ishl (q := 169) dX11_mend_168 rfl ?_
        refine V_iconst (q := 170) dX11_mend_169 rfl rfl ?_
        refine V_isub (q := 171) dX11_mend_170 rfl ?_
        refine V_iconst (q := 172) dX11_mend_171 rfl rfl ?_
        refine V_ixor (q := 173) dX11_mend_172 rfl ?_
        refine V_iand (q := 174) dX11_mend_173 rfl ?_
        refine V_iload (q := 176) dX11_mend_174 rfl rfl ?_
        refine V_iload (q := 178) dX11_mend_176 rfl rfl ?_
        refine V_iload (q := 180) dX11_mend_178 rfl rfl ?_
        refine V_iload (q := 182) dX11_mend_180 rfl rfl ?_
        obtain ⟨v40, μ41, hc42, h⟩ := bd_i h
        refine V_cV0 (q := 185) (kX11_search RD (d - 1) (by unfold RD; omega) hc42) (by omega) mv_X11_353 rfl rfl rfl rfl rfl rfl dX11_mend_182 rfl ?_
        refine V_iload_n (q := 186) dX11_mend_185 rfl rfl rfl ?_
        refine V_ifne (q := 196) (q2 := 189) dX11_mend_186 (by decide) rfl (fun hc43 => ?_) (fun hc43 => ?_)
        · have h := ifF hc43 h
          refine V_aload_n (q := 197) dX11_mend_196 rfl rfl rfl ?_
          refine V_getI (q := 200) fl_X11_350 rfl rfl rfl dX11_mend_197 rfl ?_
          exact V_iret rfl h dX11_mend_200
        · have h := ifT hc43 h
          refine V_aload_n (q := 190) dX11_mend_189 rfl rfl rfl ?_
          refine V_getI (q := 193) fl_X11_347 rfl rfl rfl dX11_mend_190 rfl ?_
          refine V_goto (q := 200) dX11_mend_193 (by decide) ?_
          exact V_iret rfl h dX11_mend_200
      · have h := ifT hc12 h
        refine V_iconst (q := 30) dX11_mend_29 rfl rfl ?_
        exact V_iret rfl h dX11_mend_30
abbrev mX11_slack : Mth := (yX11_slack, cX11_slack, 7, some .int)
theorem mi_X11_slack : Cond.instanceMethod yX11_slack ∈ tG ∧ Cond.selects yX11_slack.cls yX11_slack yX11_slack ∈ tG ∧ Cond.initialized yX11_slack.cls ∈ tG ∧ Cond.code yX11_slack cX11_slack 7 (some .int) ∈ tG ∧ (yX11_slack.cls ≠ "java/lang/invoke/MethodHandle" ∧ yX11_slack.cls ≠ "java/lang/invoke/VarHandle" ∧ (parseMethodDescriptor yX11_slack.desc).map (fun d => d.parameters.length) = some 2) ∧ 7 ≤ 60 := ⟨(tG_of (List.mem_of_getElem? (i := 1701) (by decide +kernel)) (by decide +kernel)), (tG_of (List.mem_of_getElem? (i := 1702) (by decide +kernel)) (by decide +kernel)), (tG_of (List.mem_of_getElem? (i := 112) (by decide +kernel)) (by decide +kernel)), (tG_of (List.mem_of_getElem? (i := 1703) (by decide +kernel)) (by decide +kernel)), ⟨by decide, by decide, by decide +kernel⟩, by decide⟩
theorem dX11_slack_0 : decode cX11_slack 0 = .ok (.aload_n 0, 1) := by decide +kernel
theorem dX11_slack_1 : decode cX11_slack 1 = .ok (.iload_n 1, 1) := by decide +kernel
theorem dX11_slack_2 : decode cX11_slack 2 = .ok (.invokevirtual 335, 3) := by decide +kernel
theorem dX11_slack_5 : decode cX11_slack 5 = .ok (.ifCond .eq 28, 3) := by decide +kernel
theorem dX11_slack_8 : decode cX11_slack 8 = .ok (.iload_n 2, 1) := by decide +kernel
theorem dX11_slack_9 : decode cX11_slack 9 = .ok (.iconst 0, 1) := by decide +kernel
theorem dX11_slack_10 : decode cX11_slack 10 = .ok (.aload_n 0, 1) := by decide +kernel
theorem dX11_slack_11 : decode cX11_slack 11 = .ok (.getfield 316, 3) := by decide +kernel
theorem dX11_slack_14 : decode cX11_slack 14 = .ok (.iconst 1, 1) := by decide +kernel
theorem dX11_slack_15 : decode cX11_slack 15 = .ok (.isub, 1) := by decide +kernel
theorem dX11_slack_16 : decode cX11_slack 16 = .ok (.invokestatic 213, 3) := by decide +kernel
theorem dX11_slack_19 : decode cX11_slack 19 = .ok (.ifCond .eq 14, 3) := by decide +kernel
theorem dX11_slack_22 : decode cX11_slack 22 = .ok (.aload_n 0, 1) := by decide +kernel
theorem dX11_slack_23 : decode cX11_slack 23 = .ok (.aload_n 0, 1) := by decide +kernel
theorem dX11_slack_24 : decode cX11_slack 24 = .ok (.invokevirtual 372, 3) := by decide +kernel
theorem dX11_slack_27 : decode cX11_slack 27 = .ok (.invokevirtual 341, 3) := by decide +kernel
theorem dX11_slack_30 : decode cX11_slack 30 = .ok (.ifCond .ne 5, 3) := by decide +kernel
theorem dX11_slack_33 : decode cX11_slack 33 = .ok (.iconst (-1), 1) := by decide +kernel
theorem dX11_slack_34 : decode cX11_slack 34 = .ok (.ireturn, 1) := by decide +kernel
theorem dX11_slack_35 : decode cX11_slack 35 = .ok (.aload_n 0, 1) := by decide +kernel
theorem dX11_slack_36 : decode cX11_slack 36 = .ok (.aload_n 0, 1) := by decide +kernel
theorem dX11_slack_37 : decode cX11_slack 37 = .ok (.invokevirtual 372, 3) := by decide +kernel
theorem dX11_slack_40 : decode cX11_slack 40 = .ok (.iconst 0, 1) := by decide +kernel
theorem dX11_slack_41 : decode cX11_slack 41 = .ok (.invokevirtual 344, 3) := by decide +kernel
theorem dX11_slack_44 : decode cX11_slack 44 = .ok (.istore_n 3, 1) := by decide +kernel
theorem dX11_slack_45 : decode cX11_slack 45 = .ok (.aload_n 0, 1) := by decide +kernel
theorem dX11_slack_46 : decode cX11_slack 46 = .ok (.getfield 74, 3) := by decide +kernel
theorem dX11_slack_49 : decode cX11_slack 49 = .ok (.iload_n 2, 1) := by decide +kernel
theorem dX11_slack_50 : decode cX11_slack 50 = .ok (.iaload, 1) := by decide +kernel
theorem dX11_slack_51 : decode cX11_slack 51 = .ok (.istore 4, 2) := by decide +kernel
theorem dX11_slack_53 : decode cX11_slack 53 = .ok (.iconst 0, 1) := by decide +kernel
theorem dX11_slack_54 : decode cX11_slack 54 = .ok (.istore 5, 2) := by decide +kernel
theorem dX11_slack_56 : decode cX11_slack 56 = .ok (.iconst 1, 1) := by decide +kernel
theorem dX11_slack_57 : decode cX11_slack 57 = .ok (.istore 6, 2) := by decide +kernel
theorem dX11_slack_59 : decode cX11_slack 59 = .ok (.iload 6, 2) := by decide +kernel
theorem dX11_slack_61 : decode cX11_slack 61 = .ok (.bipush 30, 2) := by decide +kernel
theorem dX11_slack_63 : decode cX11_slack 63 = .ok (.if_icmp .gt 51, 3) := by decide +kernel
theorem dX11_slack_66 : decode cX11_slack 66 = .ok (.aload_n 0, 1) := by decide +kernel
theorem dX11_slack_67 : decode cX11_slack 67 = .ok (.getfield 74, 3) := by decide +kernel
theorem dX11_slack_70 : decode cX11_slack 70 = .ok (.iload_n 2, 1) := by decide +kernel
theorem dX11_slack_71 : decode cX11_slack 71 = .ok (.iload 4, 2) := by decide +kernel
theorem dX11_slack_73 : decode cX11_slack 73 = .ok (.iload 6, 2) := by decide +kernel
theorem dX11_slack_75 : decode cX11_slack 75 = .ok (.iadd, 1) := by decide +kernel
theorem dX11_slack_76 : decode cX11_slack 76 = .ok (.iastore, 1) := by decide +kernel
theorem dX11_slack_77 : decode cX11_slack 77 = .ok (.aload_n 0, 1) := by decide +kernel
theorem dX11_slack_78 : decode cX11_slack 78 = .ok (.aload_n 0, 1) := by decide +kernel
theorem dX11_slack_79 : decode cX11_slack 79 = .ok (.invokevirtual 372, 3) := by decide +kernel
theorem dX11_slack_82 : decode cX11_slack 82 = .ok (.invokevirtual 341, 3) := by decide +kernel
theorem dX11_slack_85 : decode cX11_slack 85 = .ok (.pop, 1) := by decide +kernel
theorem dX11_slack_86 : decode cX11_slack 86 = .ok (.aload_n 0, 1) := by decide +kernel
theorem dX11_slack_87 : decode cX11_slack 87 = .ok (.aload_n 0, 1) := by decide +kernel
theorem dX11_slack_88 : decode cX11_slack 88 = .ok (.invokevirtual 372, 3) := by decide +kernel
theorem dX11_slack_91 : decode cX11_slack 91 = .ok (.iconst 0, 1) := by decide +kernel
theorem dX11_slack_92 : decode cX11_slack 92 = .ok (.invokevirtual 344, 3) := by decide +kernel
theorem dX11_slack_95 : decode cX11_slack 95 = .ok (.iload_n 3, 1) := by decide +kernel
theorem dX11_slack_96 : decode cX11_slack 96 = .ok (.if_icmp .gt 8, 3) := by decide +kernel
theorem dX11_slack_99 : decode cX11_slack 99 = .ok (.iload 6, 2) := by decide +kernel
theorem dX11_slack_101 : decode cX11_slack 101 = .ok (.goto 5, 3) := by decide +kernel
theorem dX11_slack_104 : decode cX11_slack 104 = .ok (.iload 5, 2) := by decide +kernel
theorem dX11_slack_106 : decode cX11_slack 106 = .ok (.istore 5, 2) := by decide +kernel
theorem dX11_slack_108 : decode cX11_slack 108 = .ok (.iinc 6 1, 3) := by decide +kernel
theorem dX11_slack_111 : decode cX11_slack 111 = .ok (.goto (-52), 3) := by decide +kernel
theorem dX11_slack_114 : decode cX11_slack 114 = .ok (.iload 5, 2) := by decide +kernel
theorem dX11_slack_116 : decode cX11_slack 116 = .ok (.ireturn, 1) := by decide +kernel
def X11_slack_L59 (l2 : Int) (l3 : Int) (l4 : Int) : Nat → Int → Int → Mm → Rs
  | 0, _, _, _ => none
  | n + 1, l5, l6, μ => if 30 < l6 then (some (l5, μ)) else (stA μ 90 l2 (iA l4 l6) fun μ25 => bd (X11_book μ25) fun v27 μ28 => bd (X11_go v27 μ28) fun v30 μ31 => bd (X11_book μ31) fun v33 μ34 => bd (X11_tellOf v33 0 μ34) fun v36 μ37 => if l3 < v36 then (X11_slack_L59 l2 l3 l4 n l5 (iA l6 1) μ37) else (X11_slack_L59 l2 l3 l4 n l6 (iA l6 1) μ37))
def X11_slack (l1 : Int) (l2 : Int) (μ : Mm) : Rs := bd (X11_isReady l1 μ) fun v1 μ2 => if v1 = 0 then (some ((-1), μ2)) else (bd (X11_in l2 0 (iS (μ2 70 37) 1) μ2) fun v5 μ6 => if v5 = 0 then (some ((-1), μ6)) else (bd (X11_book μ6) fun v9 μ10 => bd (X11_go v9 μ10) fun v12 μ13 => if v12 = 0 then (some ((-1), μ13)) else (bd (X11_book μ13) fun v16 μ17 => bd (X11_tellOf v16 0 μ17) fun v19 μ20 => ldA μ20 90 l2 fun v22 => X11_slack_L59 l2 v19 v22 FU 0 1 μ20)))
set_option maxHeartbeats 4000000 in
set_option maxRecDepth 100000 in
theorem kX11_slack_L59 (d : Nat) (hd : 8 ≤ d) {l2 : Int} {l3 : Int} {l4 : Int} {r : Int} {μ' : Mm} : ∀ (n : Nat) {l5 l6 : Int} {μ : Mm}, X11_slack_L59 l2 l3 l4 n l5 l6 μ = some (r, μ') → VV d mX11_slack 59 [some (vR 70), none, some (vI l2), some (vI l3), some (vI l4), some (vI l5), some (vI l6)] [] μ r μ' := by
  intro n
  induction n with
  | zero => intro l5 l6 μ h; rw [X11_slack_L59] at h; cases h
  | succ n ih =>
    intro l5 l6 μ h
    rw [X11_slack_L59] at h
    refine V_iload (q := 61) dX11_slack_59 rfl rfl ?_
    refine V_bipush (q := 63) dX11_slack_61 rfl rfl rfl ?_
    refine V_icmpgt (q := 114) (q2 := 66) dX11_slack_63 (by decide) rfl (fun hc24 => ?_) (fun hc24 => ?_)
    · have h := ifT hc24 h
      refine V_iload (q := 116) dX11_slack_114 rfl rfl ?_
      exact V_iret rfl h dX11_slack_116
    · have h := ifF hc24 h
      refine V_aload_n (q := 67) dX11_slack_66 rfl rfl rfl ?_
      refine V_getO (q := 70) (t := 90) fl_X11_74 rfl rfl rfl rfl dX11_slack_67 rfl ?_
      refine V_iload_n (q := 71) dX11_slack_70 rfl rfl rfl ?_
      refine V_iload (q := 73) dX11_slack_71 rfl rfl ?_
      refine V_iload (q := 75) dX11_slack_73 rfl rfl ?_
      refine V_iadd (q := 76) dX11_slack_75 rfl ?_
      obtain ⟨hi26, h⟩ := stA_i h
      refine V_iastore (q := 77) rfl hi26 dX11_slack_76 rfl ?_
      refine V_aload_n (q := 78) dX11_slack_77 rfl rfl rfl ?_
      refine V_aload_n (q := 79) dX11_slack_78 rfl rfl rfl ?_
      obtain ⟨v27, μ28, hc29, h⟩ := bd_i h
      refine V_cV1 (q := 82) (v := vI v27) (kX11_book (d - 1) (by omega) hc29) (by omega) mv_X11_372 rfl rfl rfl rfl rfl rfl dX11_slack_79 rfl ?_
      obtain ⟨v30, μ31, hc32, h⟩ := bd_i h
      refine V_cV1 (q := 85) (v := vI v30) (kX11_go (d - 1) (by omega) hc32) (by omega) mv_X11_341 rfl rfl rfl rfl rfl rfl dX11_slack_82 rfl ?_
      refine V_pop (q := 86) dX11_slack_85 trivial rfl ?_
      refine V_aload_n (q := 87) dX11_slack_86 rfl rfl rfl ?_
      refine V_aload_n (q := 88) dX11_slack_87 rfl rfl rfl ?_
      obtain ⟨v33, μ34, hc35, h⟩ := bd_i h
      refine V_cV1 (q := 91) (v := vI v33) (kX11_book (d - 1) (by omega) hc35) (by omega) mv_X11_372 rfl rfl rfl rfl rfl rfl dX11_slack_88 rfl ?_
      refine V_iconst (q := 92) dX11_slack_91 rfl rfl ?_
      obtain ⟨v36, μ37, hc38, h⟩ := bd_i h
      refine V_cV1 (q := 95) (v := vI v36) (kX11_tellOf (d - 1) (by omega) hc38) (by omega) mv_X11_344 rfl rfl rfl rfl rfl rfl dX11_slack_92 rfl ?_
      refine V_iload_n (q := 96) dX11_slack_95 rfl rfl rfl ?_
      refine V_icmpgt (q := 104) (q2 := 99) dX11_slack_96 (by decide) rfl (fun hc39 => ?_) (fun hc39 => ?_)
      · have h := ifT hc39 h
        refine V_iload (q := 106) dX11_slack_104 rfl rfl ?_
        refine V_istore (q := 108) dX11_slack_106 (Nat.le_of_ble_eq_true rfl) trivial rfl ?_
        refine V_iinc (q := 111) dX11_slack_108 rfl (Nat.le_of_ble_eq_true rfl) trivial rfl ?_
        refine V_goto (q := 59) dX11_slack_111 (by decide) ?_
        exact V_weak (ih h) (sb_s rfl (sb_n (sb_s rfl (sb_s rfl (sb_s rfl (sb_s rfl (sb_s rfl sb_0)))))))
      · have h := ifF hc39 h
        refine V_iload (q := 101) dX11_slack_99 rfl rfl ?_
        refine V_goto (q := 106) dX11_slack_101 (by decide) ?_
        refine V_istore (q := 108) dX11_slack_106 (Nat.le_of_ble_eq_true rfl) trivial rfl ?_
        refine V_iinc (q := 111) dX11_slack_108 rfl (Nat.le_of_ble_eq_true rfl) trivial rfl ?_
        refine V_goto (q := 59) dX11_slack_111 (by decide) ?_
        exact V_weak (ih h) (sb_s rfl (sb_n (sb_s rfl (sb_s rfl (sb_s rfl (sb_s rfl (sb_s rfl sb_0)))))))
set_option maxHeartbeats 4000000 in
set_option maxRecDepth 100000 in
theorem kX11_slack (d : Nat) (hd : 8 ≤ d) {l1 : Int} {l2 : Int} {μ : Mm} {r : Int} {μ' : Mm} (h : X11_slack l1 l2 μ = some (r, μ')) : CC d mX11_slack [vR 70, vI l1, vI l2] μ r μ' := by
  unfold X11_slack at h
  refine V_enter (by decide) (Nat.le_of_ble_eq_true rfl) ?_
  show VV d mX11_slack 0 [some (vR 70), some (vI l1), some (vI l2), none, none, none, none] [] μ r μ'
  refine V_aload_n (q := 1) dX11_slack_0 rfl rfl rfl ?_
  refine V_iload_n (q := 2) dX11_slack_1 rfl rfl rfl ?_
  obtain ⟨v1, μ2, hc3, h⟩ := bd_i h
  refine V_cV1 (q := 5) (v := vI v1) (kX11_isReady (d - 1) (by omega) hc3) (by omega) mv_X11_335 rfl rfl rfl rfl rfl rfl dX11_slack_2 rfl ?_
  refine V_ifeq (q := 33) (q2 := 8) dX11_slack_5 (by decide) rfl (fun hc4 => ?_) (fun hc4 => ?_)
  · have h := ifT hc4 h
    refine V_iconst (q := 34) dX11_slack_33 rfl rfl ?_
    exact V_iret rfl h dX11_slack_34
  · have h := ifF hc4 h
    refine V_iload_n (q := 9) dX11_slack_8 rfl rfl rfl ?_
    refine V_iconst (q := 10) dX11_slack_9 rfl rfl ?_
    refine V_aload_n (q := 11) dX11_slack_10 rfl rfl rfl ?_
    refine V_getI (q := 14) fl_X11_316 rfl rfl rfl dX11_slack_11 rfl ?_
    refine V_iconst (q := 15) dX11_slack_14 rfl rfl ?_
    refine V_isub (q := 16) dX11_slack_15 rfl ?_
    obtain ⟨v5, μ6, hc7, h⟩ := bd_i h
    refine V_cS1 (q := 19) (v := vI v5) (kX11_in (d - 1) (by omega) hc7) (by omega) mv_X11_213 rfl rfl rfl rfl dX11_slack_16 rfl ?_
    refine V_ifeq (q := 33) (q2 := 22) dX11_slack_19 (by decide) rfl (fun hc8 => ?_) (fun hc8 => ?_)
    · have h := ifT hc8 h
      refine V_iconst (q := 34) dX11_slack_33 rfl rfl ?_
      exact V_iret rfl h dX11_slack_34
    · have h := ifF hc8 h
      refine V_aload_n (q := 23) dX11_slack_22 rfl rfl rfl ?_
      refine V_aload_n (q := 24) dX11_slack_23 rfl rfl rfl ?_
      obtain ⟨v9, μ10, hc11, h⟩ := bd_i h
      refine V_cV1 (q := 27) (v := vI v9) (kX11_book (d - 1) (by omega) hc11) (by omega) mv_X11_372 rfl rfl rfl rfl rfl rfl dX11_slack_24 rfl ?_
      obtain ⟨v12, μ13, hc14, h⟩ := bd_i h
      refine V_cV1 (q := 30) (v := vI v12) (kX11_go (d - 1) (by omega) hc14) (by omega) mv_X11_341 rfl rfl rfl rfl rfl rfl dX11_slack_27 rfl ?_
      refine V_ifne (q := 35) (q2 := 33) dX11_slack_30 (by decide) rfl (fun hc15 => ?_) (fun hc15 => ?_)
      · have h := ifF hc15 h
        refine V_aload_n (q := 36) dX11_slack_35 rfl rfl rfl ?_
        refine V_aload_n (q := 37) dX11_slack_36 rfl rfl rfl ?_
        obtain ⟨v16, μ17, hc18, h⟩ := bd_i h
        refine V_cV1 (q := 40) (v := vI v16) (kX11_book (d - 1) (by omega) hc18) (by omega) mv_X11_372 rfl rfl rfl rfl rfl rfl dX11_slack_37 rfl ?_
        refine V_iconst (q := 41) dX11_slack_40 rfl rfl ?_
        obtain ⟨v19, μ20, hc21, h⟩ := bd_i h
        refine V_cV1 (q := 44) (v := vI v19) (kX11_tellOf (d - 1) (by omega) hc21) (by omega) mv_X11_344 rfl rfl rfl rfl rfl rfl dX11_slack_41 rfl ?_
        refine V_istore_n (q := 45) dX11_slack_44 rfl (Nat.le_of_ble_eq_true rfl) trivial rfl ?_
        refine V_aload_n (q := 46) dX11_slack_45 rfl rfl rfl ?_
        refine V_getO (q := 49) (t := 90) fl_X11_74 rfl rfl rfl rfl dX11_slack_46 rfl ?_
        refine V_iload_n (q := 50) dX11_slack_49 rfl rfl rfl ?_
        obtain ⟨hi23, h⟩ := ldA_i h
        refine V_iaload (q := 51) rfl hi23 dX11_slack_50 rfl ?_
        refine V_istore (q := 53) dX11_slack_51 (Nat.le_of_ble_eq_true rfl) trivial rfl ?_
        refine V_iconst (q := 54) dX11_slack_53 rfl rfl ?_
        refine V_istore (q := 56) dX11_slack_54 (Nat.le_of_ble_eq_true rfl) trivial rfl ?_
        refine V_iconst (q := 57) dX11_slack_56 rfl rfl ?_
        refine V_istore (q := 59) dX11_slack_57 (Nat.le_of_ble_eq_true rfl) trivial rfl ?_
        exact V_weak (kX11_slack_L59 d hd  FU h) (sb_s rfl (sb_n (sb_s rfl (sb_s rfl (sb_s rfl (sb_s rfl (sb_s rfl sb_0)))))))
      · have h := ifT hc15 h
        refine V_iconst (q := 34) dX11_slack_33 rfl rfl ?_
        exact V_iret rfl h dX11_slack_34
abbrev mX11_urgent : Mth := (yX11_urgent, cX11_urgent, 5, some .int)
theorem mi_X11_urgent : Cond.instanceMethod yX11_urgent ∈ tG ∧ Cond.selects yX11_urgent.cls yX11_urgent yX11_urgent ∈ tG ∧ Cond.initialized yX11_urgent.cls ∈ tG ∧ Cond.code yX11_urgent cX11_urgent 5 (some .int) ∈ tG ∧ (yX11_urgent.cls ≠ "java/lang/invoke/MethodHandle" ∧ yX11_urgent.cls ≠ "java/lang/invoke/VarHandle" ∧ (parseMethodDescriptor yX11_urgent.desc).map (fun d => d.parameters.length) = some 1) ∧ 5 ≤ 60 := ⟨(tG_of (List.mem_of_getElem? (i := 1705) (by decide +kernel)) (by decide +kernel)), (tG_of (List.mem_of_getElem? (i := 1706) (by decide +kernel)) (by decide +kernel)), (tG_of (List.mem_of_getElem? (i := 112) (by decide +kernel)) (by decide +kernel)), (tG_of (List.mem_of_getElem? (i := 1707) (by decide +kernel)) (by decide +kernel)), ⟨by decide, by decide, by decide +kernel⟩, by decide⟩
theorem dX11_urgent_0 : decode cX11_urgent 0 = .ok (.aload_n 0, 1) := by decide +kernel
theorem dX11_urgent_1 : decode cX11_urgent 1 = .ok (.iload_n 1, 1) := by decide +kernel
theorem dX11_urgent_2 : decode cX11_urgent 2 = .ok (.invokevirtual 335, 3) := by decide +kernel
theorem dX11_urgent_5 : decode cX11_urgent 5 = .ok (.ifCond .ne 5, 3) := by decide +kernel
theorem dX11_urgent_8 : decode cX11_urgent 8 = .ok (.iconst (-1), 1) := by decide +kernel
theorem dX11_urgent_9 : decode cX11_urgent 9 = .ok (.ireturn, 1) := by decide +kernel
theorem dX11_urgent_10 : decode cX11_urgent 10 = .ok (.aload_n 0, 1) := by decide +kernel
theorem dX11_urgent_11 : decode cX11_urgent 11 = .ok (.iconst 0, 1) := by decide +kernel
theorem dX11_urgent_12 : decode cX11_urgent 12 = .ok (.aload_n 0, 1) := by decide +kernel
theorem dX11_urgent_13 : decode cX11_urgent 13 = .ok (.invokevirtual 357, 3) := by decide +kernel
theorem dX11_urgent_16 : decode cX11_urgent 16 = .ok (.invokevirtual 360, 3) := by decide +kernel
theorem dX11_urgent_19 : decode cX11_urgent 19 = .ok (.istore_n 2, 1) := by decide +kernel
theorem dX11_urgent_20 : decode cX11_urgent 20 = .ok (.iconst 0, 1) := by decide +kernel
theorem dX11_urgent_21 : decode cX11_urgent 21 = .ok (.istore_n 3, 1) := by decide +kernel
theorem dX11_urgent_22 : decode cX11_urgent 22 = .ok (.iconst 0, 1) := by decide +kernel
theorem dX11_urgent_23 : decode cX11_urgent 23 = .ok (.istore 4, 2) := by decide +kernel
theorem dX11_urgent_25 : decode cX11_urgent 25 = .ok (.iload 4, 2) := by decide +kernel
theorem dX11_urgent_27 : decode cX11_urgent 27 = .ok (.aload_n 0, 1) := by decide +kernel
theorem dX11_urgent_28 : decode cX11_urgent 28 = .ok (.getfield 316, 3) := by decide +kernel
theorem dX11_urgent_31 : decode cX11_urgent 31 = .ok (.if_icmp .ge 60, 3) := by decide +kernel
theorem dX11_urgent_34 : decode cX11_urgent 34 = .ok (.iload_n 2, 1) := by decide +kernel
theorem dX11_urgent_35 : decode cX11_urgent 35 = .ok (.iconst (-1), 1) := by decide +kernel
theorem dX11_urgent_36 : decode cX11_urgent 36 = .ok (.if_icmp .eq 55, 3) := by decide +kernel
theorem dX11_urgent_39 : decode cX11_urgent 39 = .ok (.aload_n 0, 1) := by decide +kernel
theorem dX11_urgent_40 : decode cX11_urgent 40 = .ok (.getfield 68, 3) := by decide +kernel
theorem dX11_urgent_43 : decode cX11_urgent 43 = .ok (.iload 4, 2) := by decide +kernel
theorem dX11_urgent_45 : decode cX11_urgent 45 = .ok (.dup2, 1) := by decide +kernel
theorem dX11_urgent_46 : decode cX11_urgent 46 = .ok (.iaload, 1) := by decide +kernel
theorem dX11_urgent_47 : decode cX11_urgent 47 = .ok (.iconst 1, 1) := by decide +kernel
theorem dX11_urgent_48 : decode cX11_urgent 48 = .ok (.iadd, 1) := by decide +kernel
theorem dX11_urgent_49 : decode cX11_urgent 49 = .ok (.iastore, 1) := by decide +kernel
theorem dX11_urgent_50 : decode cX11_urgent 50 = .ok (.iload_n 3, 1) := by decide +kernel
theorem dX11_urgent_51 : decode cX11_urgent 51 = .ok (.aload_n 0, 1) := by decide +kernel
theorem dX11_urgent_52 : decode cX11_urgent 52 = .ok (.iconst 0, 1) := by decide +kernel
theorem dX11_urgent_53 : decode cX11_urgent 53 = .ok (.aload_n 0, 1) := by decide +kernel
theorem dX11_urgent_54 : decode cX11_urgent 54 = .ok (.invokevirtual 357, 3) := by decide +kernel
theorem dX11_urgent_57 : decode cX11_urgent 57 = .ok (.invokevirtual 360, 3) := by decide +kernel
theorem dX11_urgent_60 : decode cX11_urgent 60 = .ok (.iload_n 2, 1) := by decide +kernel
theorem dX11_urgent_61 : decode cX11_urgent 61 = .ok (.if_icmp .ge 10, 3) := by decide +kernel
theorem dX11_urgent_64 : decode cX11_urgent 64 = .ok (.iconst 1, 1) := by decide +kernel
theorem dX11_urgent_65 : decode cX11_urgent 65 = .ok (.iload 4, 2) := by decide +kernel
theorem dX11_urgent_67 : decode cX11_urgent 67 = .ok (.ishl, 1) := by decide +kernel
theorem dX11_urgent_68 : decode cX11_urgent 68 = .ok (.goto 4, 3) := by decide +kernel
theorem dX11_urgent_71 : decode cX11_urgent 71 = .ok (.iconst 0, 1) := by decide +kernel
theorem dX11_urgent_72 : decode cX11_urgent 72 = .ok (.ior, 1) := by decide +kernel
theorem dX11_urgent_73 : decode cX11_urgent 73 = .ok (.istore_n 3, 1) := by decide +kernel
theorem dX11_urgent_74 : decode cX11_urgent 74 = .ok (.aload_n 0, 1) := by decide +kernel
theorem dX11_urgent_75 : decode cX11_urgent 75 = .ok (.getfield 68, 3) := by decide +kernel
theorem dX11_urgent_78 : decode cX11_urgent 78 = .ok (.iload 4, 2) := by decide +kernel
theorem dX11_urgent_80 : decode cX11_urgent 80 = .ok (.dup2, 1) := by decide +kernel
theorem dX11_urgent_81 : decode cX11_urgent 81 = .ok (.iaload, 1) := by decide +kernel
theorem dX11_urgent_82 : decode cX11_urgent 82 = .ok (.iconst 1, 1) := by decide +kernel
theorem dX11_urgent_83 : decode cX11_urgent 83 = .ok (.isub, 1) := by decide +kernel
theorem dX11_urgent_84 : decode cX11_urgent 84 = .ok (.iastore, 1) := by decide +kernel
theorem dX11_urgent_85 : decode cX11_urgent 85 = .ok (.iinc 4 1, 3) := by decide +kernel
theorem dX11_urgent_88 : decode cX11_urgent 88 = .ok (.goto (-63), 3) := by decide +kernel
theorem dX11_urgent_91 : decode cX11_urgent 91 = .ok (.iload_n 2, 1) := by decide +kernel
theorem dX11_urgent_92 : decode cX11_urgent 92 = .ok (.iconst (-1), 1) := by decide +kernel
theorem dX11_urgent_93 : decode cX11_urgent 93 = .ok (.if_icmp .ne 7, 3) := by decide +kernel
theorem dX11_urgent_96 : decode cX11_urgent 96 = .ok (.iconst (-1), 1) := by decide +kernel
theorem dX11_urgent_97 : decode cX11_urgent 97 = .ok (.goto 4, 3) := by decide +kernel
theorem dX11_urgent_100 : decode cX11_urgent 100 = .ok (.iload_n 3, 1) := by decide +kernel
theorem dX11_urgent_101 : decode cX11_urgent 101 = .ok (.ireturn, 1) := by decide +kernel
def X11_urgent_J72 (k25 : Int → Int → Mm → Rs) (l2 : Int) (l4 : Int) (s0 : Int) (s1 : Int) (μ : Mm) : Rs := ldA μ 88 l4 fun v24 => stA μ 88 l4 (iS v24 1) fun μ26 => k25 (bO s0 s1) (iA l4 1) μ26
def X11_urgent_L25 (l2 : Int) (k91 : Int → Mm → Rs) : Nat → Int → Int → Mm → Rs
  | 0, _, _, _ => none
  | n + 1, l3, l4, μ => if (μ 70 37) ≤ l4 then (k91 l3 μ) else (if l2 = (-1) then (k91 l3 μ) else (ldA μ 88 l4 fun v13 => stA μ 88 l4 (iA v13 1) fun μ15 => bd (X11_all μ15) fun v17 μ18 => bd (X11_leastOf 0 v17 μ18) fun v20 μ21 => if l2 ≤ v20 then (X11_urgent_J72 (fun w3 w4 μq => X11_urgent_L25 l2 k91 n w3 w4 μq) l2 l4 l3 0 μ21) else (X11_urgent_J72 (fun w3 w4 μq => X11_urgent_L25 l2 k91 n w3 w4 μq) l2 l4 l3 (bL 1 l4) μ21)))
def X11_urgent (l1 : Int) (μ : Mm) : Rs := bd (X11_isReady l1 μ) fun v1 μ2 => if v1 = 0 then (some ((-1), μ2)) else (bd (X11_all μ2) fun v5 μ6 => bd (X11_leastOf 0 v5 μ6) fun v8 μ9 => X11_urgent_L25 v8 (fun v28 μ29 => if v8 = (-1) then (some ((-1), μ29)) else (some (v28, μ29))) FU 0 0 μ9)
set_option maxHeartbeats 4000000 in
set_option maxRecDepth 100000 in
theorem kX11_urgent_J72 (d : Nat) (hd : 134 ≤ d) {k25 : Int → Int → Mm → Rs} {l2 : Int} {l4 : Int} {s0 : Int} {s1 : Int} {μ : Mm} {r : Int} {μ' : Mm} (hk_25 : ∀ (v3 v4 : Int) (μ1 : Mm), k25 v3 v4 μ1 = some (r, μ') → VV d mX11_urgent 25 [some (vR 70), none, some (vI l2), some (vI v3), some (vI v4)] [] μ1 r μ') (h : X11_urgent_J72 k25 l2 l4 s0 s1 μ = some (r, μ')) : VV d mX11_urgent 72 [some (vR 70), none, some (vI l2), none, some (vI l4)] [vI s0, vI s1] μ r μ' := by
  unfold X11_urgent_J72 at h
  refine V_ior (q := 73) dX11_urgent_72 rfl ?_
  refine V_istore_n (q := 74) dX11_urgent_73 rfl (Nat.le_of_ble_eq_true rfl) trivial rfl ?_
  refine V_aload_n (q := 75) dX11_urgent_74 rfl rfl rfl ?_
  refine V_getO (q := 78) (t := 88) fl_X11_68 rfl rfl rfl rfl dX11_urgent_75 rfl ?_
  refine V_iload (q := 80) dX11_urgent_78 rfl rfl ?_
  refine V_dup2 (q := 81) dX11_urgent_80 trivial trivial rfl ?_
  obtain ⟨hi25, h⟩ := ldA_i h
  refine V_iaload (q := 82) rfl hi25 dX11_urgent_81 rfl ?_
  refine V_iconst (q := 83) dX11_urgent_82 rfl rfl ?_
  refine V_isub (q := 84) dX11_urgent_83 rfl ?_
  obtain ⟨hi27, h⟩ := stA_i h
  refine V_iastore (q := 85) rfl hi27 dX11_urgent_84 rfl ?_
  refine V_iinc (q := 88) dX11_urgent_85 rfl (Nat.le_of_ble_eq_true rfl) trivial rfl ?_
  refine V_goto (q := 25) dX11_urgent_88 (by decide) ?_
  exact V_weak (hk_25 _ _ _ h) (sb_s rfl (sb_n (sb_s rfl (sb_s rfl (sb_s rfl sb_0)))))
set_option maxHeartbeats 4000000 in
set_option maxRecDepth 100000 in
theorem kX11_urgent_L25 (d : Nat) (hd : 134 ≤ d) {l2 : Int} {k91 : Int → Mm → Rs} {r : Int} {μ' : Mm} (hk_91 : ∀ (v3 : Int) (μ1 : Mm), k91 v3 μ1 = some (r, μ') → VV d mX11_urgent 91 [none, none, some (vI l2), some (vI v3), none] [] μ1 r μ') : ∀ (n : Nat) {l3 l4 : Int} {μ : Mm}, X11_urgent_L25 l2 k91 n l3 l4 μ = some (r, μ') → VV d mX11_urgent 25 [some (vR 70), none, some (vI l2), some (vI l3), some (vI l4)] [] μ r μ' := by
  intro n
  induction n with
  | zero => intro l3 l4 μ h; rw [X11_urgent_L25] at h; cases h
  | succ n ih =>
    intro l3 l4 μ h
    rw [X11_urgent_L25] at h
    refine V_iload (q := 27) dX11_urgent_25 rfl rfl ?_
    refine V_aload_n (q := 28) dX11_urgent_27 rfl rfl rfl ?_
    refine V_getI (q := 31) fl_X11_316 rfl rfl rfl dX11_urgent_28 rfl ?_
    refine V_icmpge (q := 91) (q2 := 34) dX11_urgent_31 (by decide) rfl (fun hc11 => ?_) (fun hc11 => ?_)
    · have h := ifT hc11 h
      exact V_weak (hk_91 _ _ h) (sb_n (sb_n (sb_s rfl (sb_s rfl (sb_n sb_0)))))
    · have h := ifF hc11 h
      refine V_iload_n (q := 35) dX11_urgent_34 rfl rfl rfl ?_
      refine V_iconst (q := 36) dX11_urgent_35 rfl rfl ?_
      refine V_icmpeq (q := 91) (q2 := 39) dX11_urgent_36 (by decide) rfl (fun hc12 => ?_) (fun hc12 => ?_)
      · have h := ifT hc12 h
        exact V_weak (hk_91 _ _ h) (sb_n (sb_n (sb_s rfl (sb_s rfl (sb_n sb_0)))))
      · have h := ifF hc12 h
        refine V_aload_n (q := 40) dX11_urgent_39 rfl rfl rfl ?_
        refine V_getO (q := 43) (t := 88) fl_X11_68 rfl rfl rfl rfl dX11_urgent_40 rfl ?_
        refine V_iload (q := 45) dX11_urgent_43 rfl rfl ?_
        refine V_dup2 (q := 46) dX11_urgent_45 trivial trivial rfl ?_
        obtain ⟨hi14, h⟩ := ldA_i h
        refine V_iaload (q := 47) rfl hi14 dX11_urgent_46 rfl ?_
        refine V_iconst (q := 48) dX11_urgent_47 rfl rfl ?_
        refine V_iadd (q := 49) dX11_urgent_48 rfl ?_
        obtain ⟨hi16, h⟩ := stA_i h
        refine V_iastore (q := 50) rfl hi16 dX11_urgent_49 rfl ?_
        refine V_iload_n (q := 51) dX11_urgent_50 rfl rfl rfl ?_
        refine V_aload_n (q := 52) dX11_urgent_51 rfl rfl rfl ?_
        refine V_iconst (q := 53) dX11_urgent_52 rfl rfl ?_
        refine V_aload_n (q := 54) dX11_urgent_53 rfl rfl rfl ?_
        obtain ⟨v17, μ18, hc19, h⟩ := bd_i h
        refine V_cV1 (q := 57) (v := vI v17) (kX11_all (d - 1) (by omega) hc19) (by omega) mv_X11_357 rfl rfl rfl rfl rfl rfl dX11_urgent_54 rfl ?_
        obtain ⟨v20, μ21, hc22, h⟩ := bd_i h
        refine V_cV1 (q := 60) (v := vI v20) (kX11_leastOf (d - 1) (by omega) hc22) (by omega) mv_X11_360 rfl rfl rfl rfl rfl rfl dX11_urgent_57 rfl ?_
        refine V_iload_n (q := 61) dX11_urgent_60 rfl rfl rfl ?_
        refine V_icmpge (q := 71) (q2 := 64) dX11_urgent_61 (by decide) rfl (fun hc23 => ?_) (fun hc23 => ?_)
        · have h := ifT hc23 h
          refine V_iconst (q := 72) dX11_urgent_71 rfl rfl ?_
          exact V_weak (kX11_urgent_J72 d hd (fun _ _ _ h => ih h) h) (sb_s rfl (sb_n (sb_s rfl (sb_n (sb_s rfl sb_0)))))
        · have h := ifF hc23 h
          refine V_iconst (q := 65) dX11_urgent_64 rfl rfl ?_
          refine V_iload (q := 67) dX11_urgent_65 rfl rfl ?_
          refine V_ishl (q := 68) dX11_urgent_67 rfl ?_
          refine V_goto (q := 72) dX11_urgent_68 (by decide) ?_
          exact V_weak (kX11_urgent_J72 d hd (fun _ _ _ h => ih h) h) (sb_s rfl (sb_n (sb_s rfl (sb_n (sb_s rfl sb_0)))))
set_option maxHeartbeats 4000000 in
set_option maxRecDepth 100000 in
theorem kX11_urgent (d : Nat) (hd : 134 ≤ d) {l1 : Int} {μ : Mm} {r : Int} {μ' : Mm} (h : X11_urgent l1 μ = some (r, μ')) : CC d mX11_urgent [vR 70, vI l1] μ r μ' := by
  unfold X11_urgent at h
  refine V_enter (by decide) (Nat.le_of_ble_eq_true rfl) ?_
  show VV d mX11_urgent 0 [some (vR 70), some (vI l1), none, none, none] [] μ r μ'
  refine V_aload_n (q := 1) dX11_urgent_0 rfl rfl rfl ?_
  refine V_iload_n (q := 2) dX11_urgent_1 rfl rfl rfl ?_
  obtain ⟨v1, μ2, hc3, h⟩ := bd_i h
  refine V_cV1 (q := 5) (v := vI v1) (kX11_isReady (d - 1) (by omega) hc3) (by omega) mv_X11_335 rfl rfl rfl rfl rfl rfl dX11_urgent_2 rfl ?_
  refine V_ifne (q := 10) (q2 := 8) dX11_urgent_5 (by decide) rfl (fun hc4 => ?_) (fun hc4 => ?_)
  · have h := ifF hc4 h
    refine V_aload_n (q := 11) dX11_urgent_10 rfl rfl rfl ?_
    refine V_iconst (q := 12) dX11_urgent_11 rfl rfl ?_
    refine V_aload_n (q := 13) dX11_urgent_12 rfl rfl rfl ?_
    obtain ⟨v5, μ6, hc7, h⟩ := bd_i h
    refine V_cV1 (q := 16) (v := vI v5) (kX11_all (d - 1) (by omega) hc7) (by omega) mv_X11_357 rfl rfl rfl rfl rfl rfl dX11_urgent_13 rfl ?_
    obtain ⟨v8, μ9, hc10, h⟩ := bd_i h
    refine V_cV1 (q := 19) (v := vI v8) (kX11_leastOf (d - 1) (by omega) hc10) (by omega) mv_X11_360 rfl rfl rfl rfl rfl rfl dX11_urgent_16 rfl ?_
    refine V_istore_n (q := 20) dX11_urgent_19 rfl (Nat.le_of_ble_eq_true rfl) trivial rfl ?_
    refine V_iconst (q := 21) dX11_urgent_20 rfl rfl ?_
    refine V_istore_n (q := 22) dX11_urgent_21 rfl (Nat.le_of_ble_eq_true rfl) trivial rfl ?_
    refine V_iconst (q := 23) dX11_urgent_22 rfl rfl ?_
    refine V_istore (q := 25) dX11_urgent_23 (Nat.le_of_ble_eq_true rfl) trivial rfl ?_
    refine V_weak (kX11_urgent_L25 d hd (fun v28 μ29 h => ?_) FU h) (sb_s rfl (sb_n (sb_s rfl (sb_s rfl (sb_s rfl sb_0)))))
    refine V_iload_n (q := 92) dX11_urgent_91 rfl rfl rfl ?_
    refine V_iconst (q := 93) dX11_urgent_92 rfl rfl ?_
    refine V_icmpne (q := 100) (q2 := 96) dX11_urgent_93 (by decide) rfl (fun hc30 => ?_) (fun hc30 => ?_)
    · have h := ifF hc30 h
      refine V_iload_n (q := 101) dX11_urgent_100 rfl rfl rfl ?_
      exact V_iret rfl h dX11_urgent_101
    · have h := ifT hc30 h
      refine V_iconst (q := 97) dX11_urgent_96 rfl rfl ?_
      refine V_goto (q := 101) dX11_urgent_97 (by decide) ?_
      exact V_iret rfl h dX11_urgent_101
  · have h := ifT hc4 h
    refine V_iconst (q := 9) dX11_urgent_8 rfl rfl ?_
    exact V_iret rfl h dX11_urgent_9
abbrev mX11_dead : Mth := (yX11_dead, cX11_dead, 3, some .int)
theorem mi_X11_dead : Cond.instanceMethod yX11_dead ∈ tG ∧ Cond.selects yX11_dead.cls yX11_dead yX11_dead ∈ tG ∧ Cond.initialized yX11_dead.cls ∈ tG ∧ Cond.code yX11_dead cX11_dead 3 (some .int) ∈ tG ∧ (yX11_dead.cls ≠ "java/lang/invoke/MethodHandle" ∧ yX11_dead.cls ≠ "java/lang/invoke/VarHandle" ∧ (parseMethodDescriptor yX11_dead.desc).map (fun d => d.parameters.length) = some 0) ∧ 3 ≤ 60 := ⟨(tG_of (List.mem_of_getElem? (i := 1709) (by decide +kernel)) (by decide +kernel)), (tG_of (List.mem_of_getElem? (i := 1710) (by decide +kernel)) (by decide +kernel)), (tG_of (List.mem_of_getElem? (i := 112) (by decide +kernel)) (by decide +kernel)), (tG_of (List.mem_of_getElem? (i := 1711) (by decide +kernel)) (by decide +kernel)), ⟨by decide, by decide, by decide +kernel⟩, by decide⟩
theorem dX11_dead_0 : decode cX11_dead 0 = .ok (.aload_n 0, 1) := by decide +kernel
theorem dX11_dead_1 : decode cX11_dead 1 = .ok (.getfield 252, 3) := by decide +kernel
theorem dX11_dead_4 : decode cX11_dead 4 = .ok (.ifCond .ne 5, 3) := by decide +kernel
theorem dX11_dead_7 : decode cX11_dead 7 = .ok (.iconst (-1), 1) := by decide +kernel
theorem dX11_dead_8 : decode cX11_dead 8 = .ok (.ireturn, 1) := by decide +kernel
theorem dX11_dead_9 : decode cX11_dead 9 = .ok (.aload_n 0, 1) := by decide +kernel
theorem dX11_dead_10 : decode cX11_dead 10 = .ok (.aload_n 0, 1) := by decide +kernel
theorem dX11_dead_11 : decode cX11_dead 11 = .ok (.iconst 2, 1) := by decide +kernel
theorem dX11_dead_12 : decode cX11_dead 12 = .ok (.invokevirtual 281, 3) := by decide +kernel
theorem dX11_dead_15 : decode cX11_dead 15 = .ok (.invokevirtual 293, 3) := by decide +kernel
theorem dX11_dead_18 : decode cX11_dead 18 = .ok (.iconst 0, 1) := by decide +kernel
theorem dX11_dead_19 : decode cX11_dead 19 = .ok (.istore_n 1, 1) := by decide +kernel
theorem dX11_dead_20 : decode cX11_dead 20 = .ok (.iconst 0, 1) := by decide +kernel
theorem dX11_dead_21 : decode cX11_dead 21 = .ok (.istore_n 2, 1) := by decide +kernel
theorem dX11_dead_22 : decode cX11_dead 22 = .ok (.iload_n 2, 1) := by decide +kernel
theorem dX11_dead_23 : decode cX11_dead 23 = .ok (.bipush 60, 2) := by decide +kernel
theorem dX11_dead_25 : decode cX11_dead 25 = .ok (.if_icmp .ge 35, 3) := by decide +kernel
theorem dX11_dead_28 : decode cX11_dead 28 = .ok (.iload_n 1, 1) := by decide +kernel
theorem dX11_dead_29 : decode cX11_dead 29 = .ok (.aload_n 0, 1) := by decide +kernel
theorem dX11_dead_30 : decode cX11_dead 30 = .ok (.iload_n 2, 1) := by decide +kernel
theorem dX11_dead_31 : decode cX11_dead 31 = .ok (.invokevirtual 290, 3) := by decide +kernel
theorem dX11_dead_34 : decode cX11_dead 34 = .ok (.ifCond .eq 17, 3) := by decide +kernel
theorem dX11_dead_37 : decode cX11_dead 37 = .ok (.aload_n 0, 1) := by decide +kernel
theorem dX11_dead_38 : decode cX11_dead 38 = .ok (.getfield 65, 3) := by decide +kernel
theorem dX11_dead_41 : decode cX11_dead 41 = .ok (.iload_n 2, 1) := by decide +kernel
theorem dX11_dead_42 : decode cX11_dead 42 = .ok (.iaload, 1) := by decide +kernel
theorem dX11_dead_43 : decode cX11_dead 43 = .ok (.iconst (-1), 1) := by decide +kernel
theorem dX11_dead_44 : decode cX11_dead 44 = .ok (.if_icmp .ne 7, 3) := by decide +kernel
theorem dX11_dead_47 : decode cX11_dead 47 = .ok (.iconst 1, 1) := by decide +kernel
theorem dX11_dead_48 : decode cX11_dead 48 = .ok (.goto 4, 3) := by decide +kernel
theorem dX11_dead_51 : decode cX11_dead 51 = .ok (.iconst 0, 1) := by decide +kernel
theorem dX11_dead_52 : decode cX11_dead 52 = .ok (.iadd, 1) := by decide +kernel
theorem dX11_dead_53 : decode cX11_dead 53 = .ok (.istore_n 1, 1) := by decide +kernel
theorem dX11_dead_54 : decode cX11_dead 54 = .ok (.iinc 2 1, 3) := by decide +kernel
theorem dX11_dead_57 : decode cX11_dead 57 = .ok (.goto (-35), 3) := by decide +kernel
theorem dX11_dead_60 : decode cX11_dead 60 = .ok (.iload_n 1, 1) := by decide +kernel
theorem dX11_dead_61 : decode cX11_dead 61 = .ok (.ireturn, 1) := by decide +kernel
def X11_dead_L22 : Nat → Int → Int → Mm → Rs
  | 0, _, _, _ => none
  | n + 1, l1, l2, μ => if 60 ≤ l2 then (some (l1, μ)) else (bd (X11_isOpen l2 μ) fun v9 μ10 => if v9 = 0 then (X11_dead_L22 n (iA l1 0) (iA l2 1) μ10) else (ldA μ10 87 l2 fun v13 => if v13 = (-1) then (X11_dead_L22 n (iA l1 1) (iA l2 1) μ10) else (X11_dead_L22 n (iA l1 0) (iA l2 1) μ10)))
def X11_dead (μ : Mm) : Rs := if (μ 70 23) = 0 then (some ((-1), μ)) else (bd (X11_placeOf 2 μ) fun v2 μ3 => bd (X11_spread v2 μ3) fun v5 μ6 => X11_dead_L22 FU 0 0 μ6)
set_option maxHeartbeats 4000000 in
set_option maxRecDepth 100000 in
theorem kX11_dead_L22 (d : Nat) (hd : 4 ≤ d) {r : Int} {μ' : Mm} : ∀ (n : Nat) {l1 l2 : Int} {μ : Mm}, X11_dead_L22 n l1 l2 μ = some (r, μ') → VV d mX11_dead 22 [some (vR 70), some (vI l1), some (vI l2)] [] μ r μ' := by
  intro n
  induction n with
  | zero => intro l1 l2 μ h; rw [X11_dead_L22] at h; cases h
  | succ n ih =>
    intro l1 l2 μ h
    rw [X11_dead_L22] at h
    refine V_iload_n (q := 23) dX11_dead_22 rfl rfl rfl ?_
    refine V_bipush (q := 25) dX11_dead_23 rfl rfl rfl ?_
    refine V_icmpge (q := 60) (q2 := 28) dX11_dead_25 (by decide) rfl (fun hc8 => ?_) (fun hc8 => ?_)
    · have h := ifT hc8 h
      refine V_iload_n (q := 61) dX11_dead_60 rfl rfl rfl ?_
      exact V_iret rfl h dX11_dead_61
    · have h := ifF hc8 h
      refine V_iload_n (q := 29) dX11_dead_28 rfl rfl rfl ?_
      refine V_aload_n (q := 30) dX11_dead_29 rfl rfl rfl ?_
      refine V_iload_n (q := 31) dX11_dead_30 rfl rfl rfl ?_
      obtain ⟨v9, μ10, hc11, h⟩ := bd_i h
      refine V_cV1 (q := 34) (v := vI v9) (kX11_isOpen (d - 1) (by omega) hc11) (by omega) mv_X11_290 rfl rfl rfl rfl rfl rfl dX11_dead_31 rfl ?_
      refine V_ifeq (q := 51) (q2 := 37) dX11_dead_34 (by decide) rfl (fun hc12 => ?_) (fun hc12 => ?_)
      · have h := ifT hc12 h
        refine V_iconst (q := 52) dX11_dead_51 rfl rfl ?_
        refine V_iadd (q := 53) dX11_dead_52 rfl ?_
        refine V_istore_n (q := 54) dX11_dead_53 rfl (Nat.le_of_ble_eq_true rfl) trivial rfl ?_
        refine V_iinc (q := 57) dX11_dead_54 rfl (Nat.le_of_ble_eq_true rfl) trivial rfl ?_
        refine V_goto (q := 22) dX11_dead_57 (by decide) ?_
        exact V_weak (ih h) (sb_s rfl (sb_s rfl (sb_s rfl sb_0)))
      · have h := ifF hc12 h
        refine V_aload_n (q := 38) dX11_dead_37 rfl rfl rfl ?_
        refine V_getO (q := 41) (t := 87) fl_X11_65 rfl rfl rfl rfl dX11_dead_38 rfl ?_
        refine V_iload_n (q := 42) dX11_dead_41 rfl rfl rfl ?_
        obtain ⟨hi14, h⟩ := ldA_i h
        refine V_iaload (q := 43) rfl hi14 dX11_dead_42 rfl ?_
        refine V_iconst (q := 44) dX11_dead_43 rfl rfl ?_
        refine V_icmpne (q := 51) (q2 := 47) dX11_dead_44 (by decide) rfl (fun hc15 => ?_) (fun hc15 => ?_)
        · have h := ifF hc15 h
          refine V_iconst (q := 52) dX11_dead_51 rfl rfl ?_
          refine V_iadd (q := 53) dX11_dead_52 rfl ?_
          refine V_istore_n (q := 54) dX11_dead_53 rfl (Nat.le_of_ble_eq_true rfl) trivial rfl ?_
          refine V_iinc (q := 57) dX11_dead_54 rfl (Nat.le_of_ble_eq_true rfl) trivial rfl ?_
          refine V_goto (q := 22) dX11_dead_57 (by decide) ?_
          exact V_weak (ih h) (sb_s rfl (sb_s rfl (sb_s rfl sb_0)))
        · have h := ifT hc15 h
          refine V_iconst (q := 48) dX11_dead_47 rfl rfl ?_
          refine V_goto (q := 52) dX11_dead_48 (by decide) ?_
          refine V_iadd (q := 53) dX11_dead_52 rfl ?_
          refine V_istore_n (q := 54) dX11_dead_53 rfl (Nat.le_of_ble_eq_true rfl) trivial rfl ?_
          refine V_iinc (q := 57) dX11_dead_54 rfl (Nat.le_of_ble_eq_true rfl) trivial rfl ?_
          refine V_goto (q := 22) dX11_dead_57 (by decide) ?_
          exact V_weak (ih h) (sb_s rfl (sb_s rfl (sb_s rfl sb_0)))
set_option maxHeartbeats 4000000 in
set_option maxRecDepth 100000 in
theorem kX11_dead (d : Nat) (hd : 4 ≤ d) {μ : Mm} {r : Int} {μ' : Mm} (h : X11_dead μ = some (r, μ')) : CC d mX11_dead [vR 70] μ r μ' := by
  unfold X11_dead at h
  refine V_enter (by decide) (Nat.le_of_ble_eq_true rfl) ?_
  show VV d mX11_dead 0 [some (vR 70), none, none] [] μ r μ'
  refine V_aload_n (q := 1) dX11_dead_0 rfl rfl rfl ?_
  refine V_getI (q := 4) fl_X11_252 rfl rfl rfl dX11_dead_1 rfl ?_
  refine V_ifne (q := 9) (q2 := 7) dX11_dead_4 (by decide) rfl (fun hc1 => ?_) (fun hc1 => ?_)
  · have h := ifF hc1 h
    refine V_aload_n (q := 10) dX11_dead_9 rfl rfl rfl ?_
    refine V_aload_n (q := 11) dX11_dead_10 rfl rfl rfl ?_
    refine V_iconst (q := 12) dX11_dead_11 rfl rfl ?_
    obtain ⟨v2, μ3, hc4, h⟩ := bd_i h
    refine V_cV1 (q := 15) (v := vI v2) (kX11_placeOf (d - 1) (by omega) hc4) (by omega) mv_X11_281 rfl rfl rfl rfl rfl rfl dX11_dead_12 rfl ?_
    obtain ⟨v5, μ6, hc7, h⟩ := bd_i h
    refine V_cV0 (q := 18) (kX11_spread (d - 1) (by omega) hc7) (by omega) mv_X11_293 rfl rfl rfl rfl rfl rfl dX11_dead_15 rfl ?_
    refine V_iconst (q := 19) dX11_dead_18 rfl rfl ?_
    refine V_istore_n (q := 20) dX11_dead_19 rfl (Nat.le_of_ble_eq_true rfl) trivial rfl ?_
    refine V_iconst (q := 21) dX11_dead_20 rfl rfl ?_
    refine V_istore_n (q := 22) dX11_dead_21 rfl (Nat.le_of_ble_eq_true rfl) trivial rfl ?_
    exact V_weak (kX11_dead_L22 d hd  FU h) (sb_s rfl (sb_s rfl (sb_s rfl sb_0)))
  · have h := ifT hc1 h
    refine V_iconst (q := 8) dX11_dead_7 rfl rfl ?_
    exact V_iret rfl h dX11_dead_8
abbrev mX11_pillar : Mth := (yX11_pillar, cX11_pillar, 7, some .int)
theorem mi_X11_pillar : Cond.instanceMethod yX11_pillar ∈ tG ∧ Cond.selects yX11_pillar.cls yX11_pillar yX11_pillar ∈ tG ∧ Cond.initialized yX11_pillar.cls ∈ tG ∧ Cond.code yX11_pillar cX11_pillar 7 (some .int) ∈ tG ∧ (yX11_pillar.cls ≠ "java/lang/invoke/MethodHandle" ∧ yX11_pillar.cls ≠ "java/lang/invoke/VarHandle" ∧ (parseMethodDescriptor yX11_pillar.desc).map (fun d => d.parameters.length) = some 2) ∧ 7 ≤ 60 := ⟨(tG_of (List.mem_of_getElem? (i := 1713) (by decide +kernel)) (by decide +kernel)), (tG_of (List.mem_of_getElem? (i := 1714) (by decide +kernel)) (by decide +kernel)), (tG_of (List.mem_of_getElem? (i := 112) (by decide +kernel)) (by decide +kernel)), (tG_of (List.mem_of_getElem? (i := 1715) (by decide +kernel)) (by decide +kernel)), ⟨by decide, by decide, by decide +kernel⟩, by decide⟩
theorem dX11_pillar_0 : decode cX11_pillar 0 = .ok (.aload_n 0, 1) := by decide +kernel
theorem dX11_pillar_1 : decode cX11_pillar 1 = .ok (.iload_n 1, 1) := by decide +kernel
theorem dX11_pillar_2 : decode cX11_pillar 2 = .ok (.invokevirtual 335, 3) := by decide +kernel
theorem dX11_pillar_5 : decode cX11_pillar 5 = .ok (.ifCond .eq 25, 3) := by decide +kernel
theorem dX11_pillar_8 : decode cX11_pillar 8 = .ok (.iload_n 2, 1) := by decide +kernel
theorem dX11_pillar_9 : decode cX11_pillar 9 = .ok (.iconst 0, 1) := by decide +kernel
theorem dX11_pillar_10 : decode cX11_pillar 10 = .ok (.iconst 1, 1) := by decide +kernel
theorem dX11_pillar_11 : decode cX11_pillar 11 = .ok (.invokestatic 213, 3) := by decide +kernel
theorem dX11_pillar_14 : decode cX11_pillar 14 = .ok (.ifCond .eq 16, 3) := by decide +kernel
theorem dX11_pillar_17 : decode cX11_pillar 17 = .ok (.aload_n 0, 1) := by decide +kernel
theorem dX11_pillar_18 : decode cX11_pillar 18 = .ok (.iconst 0, 1) := by decide +kernel
theorem dX11_pillar_19 : decode cX11_pillar 19 = .ok (.aload_n 0, 1) := by decide +kernel
theorem dX11_pillar_20 : decode cX11_pillar 20 = .ok (.invokevirtual 357, 3) := by decide +kernel
theorem dX11_pillar_23 : decode cX11_pillar 23 = .ok (.invokevirtual 360, 3) := by decide +kernel
theorem dX11_pillar_26 : decode cX11_pillar 26 = .ok (.iconst (-1), 1) := by decide +kernel
theorem dX11_pillar_27 : decode cX11_pillar 27 = .ok (.if_icmp .ne 5, 3) := by decide +kernel
theorem dX11_pillar_30 : decode cX11_pillar 30 = .ok (.iconst (-1), 1) := by decide +kernel
theorem dX11_pillar_31 : decode cX11_pillar 31 = .ok (.ireturn, 1) := by decide +kernel
theorem dX11_pillar_32 : decode cX11_pillar 32 = .ok (.iconst (-1), 1) := by decide +kernel
theorem dX11_pillar_33 : decode cX11_pillar 33 = .ok (.istore_n 3, 1) := by decide +kernel
theorem dX11_pillar_34 : decode cX11_pillar 34 = .ok (.iconst 0, 1) := by decide +kernel
theorem dX11_pillar_35 : decode cX11_pillar 35 = .ok (.istore 4, 2) := by decide +kernel
theorem dX11_pillar_37 : decode cX11_pillar 37 = .ok (.iconst 0, 1) := by decide +kernel
theorem dX11_pillar_38 : decode cX11_pillar 38 = .ok (.istore 5, 2) := by decide +kernel
theorem dX11_pillar_40 : decode cX11_pillar 40 = .ok (.iload 5, 2) := by decide +kernel
theorem dX11_pillar_42 : decode cX11_pillar 42 = .ok (.bipush 60, 2) := by decide +kernel
theorem dX11_pillar_44 : decode cX11_pillar 44 = .ok (.if_icmp .ge 82, 3) := by decide +kernel
theorem dX11_pillar_47 : decode cX11_pillar 47 = .ok (.aload_n 0, 1) := by decide +kernel
theorem dX11_pillar_48 : decode cX11_pillar 48 = .ok (.iload 5, 2) := by decide +kernel
theorem dX11_pillar_50 : decode cX11_pillar 50 = .ok (.invokevirtual 258, 3) := by decide +kernel
theorem dX11_pillar_53 : decode cX11_pillar 53 = .ok (.ifCond .eq 67, 3) := by decide +kernel
theorem dX11_pillar_56 : decode cX11_pillar 56 = .ok (.aload_n 0, 1) := by decide +kernel
theorem dX11_pillar_57 : decode cX11_pillar 57 = .ok (.getfield 43, 3) := by decide +kernel
theorem dX11_pillar_60 : decode cX11_pillar 60 = .ok (.iload 5, 2) := by decide +kernel
theorem dX11_pillar_62 : decode cX11_pillar 62 = .ok (.iaload, 1) := by decide +kernel
theorem dX11_pillar_63 : decode cX11_pillar 63 = .ok (.ifCond .ne 57, 3) := by decide +kernel
theorem dX11_pillar_66 : decode cX11_pillar 66 = .ok (.aload_n 0, 1) := by decide +kernel
theorem dX11_pillar_67 : decode cX11_pillar 67 = .ok (.getfield 43, 3) := by decide +kernel
theorem dX11_pillar_70 : decode cX11_pillar 70 = .ok (.iload 5, 2) := by decide +kernel
theorem dX11_pillar_72 : decode cX11_pillar 72 = .ok (.iconst 1, 1) := by decide +kernel
theorem dX11_pillar_73 : decode cX11_pillar 73 = .ok (.iastore, 1) := by decide +kernel
theorem dX11_pillar_74 : decode cX11_pillar 74 = .ok (.aload_n 0, 1) := by decide +kernel
theorem dX11_pillar_75 : decode cX11_pillar 75 = .ok (.iload_n 1, 1) := by decide +kernel
theorem dX11_pillar_76 : decode cX11_pillar 76 = .ok (.invokevirtual 366, 3) := by decide +kernel
theorem dX11_pillar_79 : decode cX11_pillar 79 = .ok (.istore 6, 2) := by decide +kernel
theorem dX11_pillar_81 : decode cX11_pillar 81 = .ok (.aload_n 0, 1) := by decide +kernel
theorem dX11_pillar_82 : decode cX11_pillar 82 = .ok (.getfield 43, 3) := by decide +kernel
theorem dX11_pillar_85 : decode cX11_pillar 85 = .ok (.iload 5, 2) := by decide +kernel
theorem dX11_pillar_87 : decode cX11_pillar 87 = .ok (.iconst 0, 1) := by decide +kernel
theorem dX11_pillar_88 : decode cX11_pillar 88 = .ok (.iastore, 1) := by decide +kernel
theorem dX11_pillar_89 : decode cX11_pillar 89 = .ok (.iload_n 3, 1) := by decide +kernel
theorem dX11_pillar_90 : decode cX11_pillar 90 = .ok (.iconst (-1), 1) := by decide +kernel
theorem dX11_pillar_91 : decode cX11_pillar 91 = .ok (.if_icmp .eq 22, 3) := by decide +kernel
theorem dX11_pillar_94 : decode cX11_pillar 94 = .ok (.iload 4, 2) := by decide +kernel
theorem dX11_pillar_96 : decode cX11_pillar 96 = .ok (.iconst (-1), 1) := by decide +kernel
theorem dX11_pillar_97 : decode cX11_pillar 97 = .ok (.if_icmp .eq 23, 3) := by decide +kernel
theorem dX11_pillar_100 : decode cX11_pillar 100 = .ok (.iload 6, 2) := by decide +kernel
theorem dX11_pillar_102 : decode cX11_pillar 102 = .ok (.iconst (-1), 1) := by decide +kernel
theorem dX11_pillar_103 : decode cX11_pillar 103 = .ok (.if_icmp .eq 10, 3) := by decide +kernel
theorem dX11_pillar_106 : decode cX11_pillar 106 = .ok (.iload 6, 2) := by decide +kernel
theorem dX11_pillar_108 : decode cX11_pillar 108 = .ok (.iload 4, 2) := by decide +kernel
theorem dX11_pillar_110 : decode cX11_pillar 110 = .ok (.if_icmp .le 10, 3) := by decide +kernel
theorem dX11_pillar_113 : decode cX11_pillar 113 = .ok (.iload 5, 2) := by decide +kernel
theorem dX11_pillar_115 : decode cX11_pillar 115 = .ok (.istore_n 3, 1) := by decide +kernel
theorem dX11_pillar_116 : decode cX11_pillar 116 = .ok (.iload 6, 2) := by decide +kernel
theorem dX11_pillar_118 : decode cX11_pillar 118 = .ok (.istore 4, 2) := by decide +kernel
theorem dX11_pillar_120 : decode cX11_pillar 120 = .ok (.iinc 5 1, 3) := by decide +kernel
theorem dX11_pillar_123 : decode cX11_pillar 123 = .ok (.goto (-83), 3) := by decide +kernel
theorem dX11_pillar_126 : decode cX11_pillar 126 = .ok (.iload_n 3, 1) := by decide +kernel
theorem dX11_pillar_127 : decode cX11_pillar 127 = .ok (.iconst (-1), 1) := by decide +kernel
theorem dX11_pillar_128 : decode cX11_pillar 128 = .ok (.if_icmp .eq 7, 3) := by decide +kernel
theorem dX11_pillar_131 : decode cX11_pillar 131 = .ok (.iload_n 2, 1) := by decide +kernel
theorem dX11_pillar_132 : decode cX11_pillar 132 = .ok (.ifCond .ne 7, 3) := by decide +kernel
theorem dX11_pillar_135 : decode cX11_pillar 135 = .ok (.iload_n 3, 1) := by decide +kernel
theorem dX11_pillar_136 : decode cX11_pillar 136 = .ok (.goto 17, 3) := by decide +kernel
theorem dX11_pillar_139 : decode cX11_pillar 139 = .ok (.iload 4, 2) := by decide +kernel
theorem dX11_pillar_141 : decode cX11_pillar 141 = .ok (.iconst (-1), 1) := by decide +kernel
theorem dX11_pillar_142 : decode cX11_pillar 142 = .ok (.if_icmp .ne 9, 3) := by decide +kernel
theorem dX11_pillar_145 : decode cX11_pillar 145 = .ok (.ldc_w 388, 3) := by decide +kernel
theorem dX11_pillar_148 : decode cX11_pillar 148 = .ok (.goto 5, 3) := by decide +kernel
theorem dX11_pillar_151 : decode cX11_pillar 151 = .ok (.iload 4, 2) := by decide +kernel
theorem dX11_pillar_153 : decode cX11_pillar 153 = .ok (.ireturn, 1) := by decide +kernel
def X11_pillar_L40 (l1 : Int) (l2 : Int) (k126 : Int → Int → Mm → Rs) : Nat → Int → Int → Int → Mm → Rs
  | 0, _, _, _, _ => none
  | n + 1, l3, l4, l5, μ => if 60 ≤ l5 then (k126 l3 l4 μ) else (bd (X11_isPlace l5 μ) fun v17 μ18 => if v17 = 0 then (X11_pillar_L40 l1 l2 k126 n l3 l4 (iA l5 1) μ18) else (ldA μ18 82 l5 fun v21 => if v21 = 0 then (stA μ18 82 l5 1 fun μ24 => bd (X11_leastNow l1 μ24) fun v26 μ27 => stA μ27 82 l5 0 fun μ29 => if l3 = (-1) then (X11_pillar_L40 l1 l2 k126 n l5 v26 (iA l5 1) μ29) else (if l4 = (-1) then (X11_pillar_L40 l1 l2 k126 n l3 l4 (iA l5 1) μ29) else (if v26 = (-1) then (X11_pillar_L40 l1 l2 k126 n l5 v26 (iA l5 1) μ29) else (if v26 ≤ l4 then (X11_pillar_L40 l1 l2 k126 n l3 l4 (iA l5 1) μ29) else (X11_pillar_L40 l1 l2 k126 n l5 v26 (iA l5 1) μ29))))) else (X11_pillar_L40 l1 l2 k126 n l3 l4 (iA l5 1) μ18)))
def X11_pillar (l1 : Int) (l2 : Int) (μ : Mm) : Rs := bd (X11_isReady l1 μ) fun v1 μ2 => if v1 = 0 then (some ((-1), μ2)) else (bd (X11_in l2 0 1 μ2) fun v5 μ6 => if v5 = 0 then (some ((-1), μ6)) else (bd (X11_all μ6) fun v9 μ10 => bd (X11_leastOf 0 v9 μ10) fun v12 μ13 => if v12 = (-1) then (some ((-1), μ13)) else (X11_pillar_L40 l1 l2 (fun v35 v36 μ37 => if v35 = (-1) then (some (v35, μ37)) else (if l2 = 0 then (some (v35, μ37)) else (if v36 = (-1) then (some ((-1000000), μ37)) else (some (v36, μ37))))) FU (-1) 0 0 μ13)))
set_option maxHeartbeats 4000000 in
set_option maxRecDepth 100000 in
theorem kX11_pillar_L40 (d : Nat) (hd : 135 ≤ d) {l1 : Int} {l2 : Int} {k126 : Int → Int → Mm → Rs} {r : Int} {μ' : Mm} (hk_126 : ∀ (v3 v4 : Int) (μ1 : Mm), k126 v3 v4 μ1 = some (r, μ') → VV d mX11_pillar 126 [none, none, some (vI l2), some (vI v3), some (vI v4), none, none] [] μ1 r μ') : ∀ (n : Nat) {l3 l4 l5 : Int} {μ : Mm}, X11_pillar_L40 l1 l2 k126 n l3 l4 l5 μ = some (r, μ') → VV d mX11_pillar 40 [some (vR 70), some (vI l1), some (vI l2), some (vI l3), some (vI l4), some (vI l5), none] [] μ r μ' := by
  intro n
  induction n with
  | zero => intro l3 l4 l5 μ h; rw [X11_pillar_L40] at h; cases h
  | succ n ih =>
    intro l3 l4 l5 μ h
    rw [X11_pillar_L40] at h
    refine V_iload (q := 42) dX11_pillar_40 rfl rfl ?_
    refine V_bipush (q := 44) dX11_pillar_42 rfl rfl rfl ?_
    refine V_icmpge (q := 126) (q2 := 47) dX11_pillar_44 (by decide) rfl (fun hc16 => ?_) (fun hc16 => ?_)
    · have h := ifT hc16 h
      exact V_weak (hk_126 _ _ _ h) (sb_n (sb_n (sb_s rfl (sb_s rfl (sb_s rfl (sb_n (sb_n sb_0)))))))
    · have h := ifF hc16 h
      refine V_aload_n (q := 48) dX11_pillar_47 rfl rfl rfl ?_
      refine V_iload (q := 50) dX11_pillar_48 rfl rfl ?_
      obtain ⟨v17, μ18, hc19, h⟩ := bd_i h
      refine V_cV1 (q := 53) (v := vI v17) (kX11_isPlace (d - 1) (by omega) hc19) (by omega) mv_X11_258 rfl rfl rfl rfl rfl rfl dX11_pillar_50 rfl ?_
      refine V_ifeq (q := 120) (q2 := 56) dX11_pillar_53 (by decide) rfl (fun hc20 => ?_) (fun hc20 => ?_)
      · have h := ifT hc20 h
        refine V_iinc (q := 123) dX11_pillar_120 rfl (Nat.le_of_ble_eq_true rfl) trivial rfl ?_
        refine V_goto (q := 40) dX11_pillar_123 (by decide) ?_
        exact V_weak (ih h) (sb_s rfl (sb_s rfl (sb_s rfl (sb_s rfl (sb_s rfl (sb_s rfl (sb_n sb_0)))))))
      · have h := ifF hc20 h
        refine V_aload_n (q := 57) dX11_pillar_56 rfl rfl rfl ?_
        refine V_getO (q := 60) (t := 82) fl_X11_43 rfl rfl rfl rfl dX11_pillar_57 rfl ?_
        refine V_iload (q := 62) dX11_pillar_60 rfl rfl ?_
        obtain ⟨hi22, h⟩ := ldA_i h
        refine V_iaload (q := 63) rfl hi22 dX11_pillar_62 rfl ?_
        refine V_ifne (q := 120) (q2 := 66) dX11_pillar_63 (by decide) rfl (fun hc23 => ?_) (fun hc23 => ?_)
        · have h := ifF hc23 h
          refine V_iinc (q := 123) dX11_pillar_120 rfl (Nat.le_of_ble_eq_true rfl) trivial rfl ?_
          refine V_goto (q := 40) dX11_pillar_123 (by decide) ?_
          exact V_weak (ih h) (sb_s rfl (sb_s rfl (sb_s rfl (sb_s rfl (sb_s rfl (sb_s rfl (sb_n sb_0)))))))
        · have h := ifT hc23 h
          refine V_aload_n (q := 67) dX11_pillar_66 rfl rfl rfl ?_
          refine V_getO (q := 70) (t := 82) fl_X11_43 rfl rfl rfl rfl dX11_pillar_67 rfl ?_
          refine V_iload (q := 72) dX11_pillar_70 rfl rfl ?_
          refine V_iconst (q := 73) dX11_pillar_72 rfl rfl ?_
          obtain ⟨hi25, h⟩ := stA_i h
          refine V_iastore (q := 74) rfl hi25 dX11_pillar_73 rfl ?_
          refine V_aload_n (q := 75) dX11_pillar_74 rfl rfl rfl ?_
          refine V_iload_n (q := 76) dX11_pillar_75 rfl rfl rfl ?_
          obtain ⟨v26, μ27, hc28, h⟩ := bd_i h
          refine V_cV1 (q := 79) (v := vI v26) (kX11_leastNow (d - 1) (by omega) hc28) (by omega) mv_X11_366 rfl rfl rfl rfl rfl rfl dX11_pillar_76 rfl ?_
          refine V_istore (q := 81) dX11_pillar_79 (Nat.le_of_ble_eq_true rfl) trivial rfl ?_
          refine V_aload_n (q := 82) dX11_pillar_81 rfl rfl rfl ?_
          refine V_getO (q := 85) (t := 82) fl_X11_43 rfl rfl rfl rfl dX11_pillar_82 rfl ?_
          refine V_iload (q := 87) dX11_pillar_85 rfl rfl ?_
          refine V_iconst (q := 88) dX11_pillar_87 rfl rfl ?_
          obtain ⟨hi30, h⟩ := stA_i h
          refine V_iastore (q := 89) rfl hi30 dX11_pillar_88 rfl ?_
          refine V_iload_n (q := 90) dX11_pillar_89 rfl rfl rfl ?_
          refine V_iconst (q := 91) dX11_pillar_90 rfl rfl ?_
          refine V_icmpeq (q := 113) (q2 := 94) dX11_pillar_91 (by decide) rfl (fun hc31 => ?_) (fun hc31 => ?_)
          · have h := ifT hc31 h
            refine V_iload (q := 115) dX11_pillar_113 rfl rfl ?_
            refine V_istore_n (q := 116) dX11_pillar_115 rfl (Nat.le_of_ble_eq_true rfl) trivial rfl ?_
            refine V_iload (q := 118) dX11_pillar_116 rfl rfl ?_
            refine V_istore (q := 120) dX11_pillar_118 (Nat.le_of_ble_eq_true rfl) trivial rfl ?_
            refine V_iinc (q := 123) dX11_pillar_120 rfl (Nat.le_of_ble_eq_true rfl) trivial rfl ?_
            refine V_goto (q := 40) dX11_pillar_123 (by decide) ?_
            exact V_weak (ih h) (sb_s rfl (sb_s rfl (sb_s rfl (sb_s rfl (sb_s rfl (sb_s rfl (sb_n sb_0)))))))
          · have h := ifF hc31 h
            refine V_iload (q := 96) dX11_pillar_94 rfl rfl ?_
            refine V_iconst (q := 97) dX11_pillar_96 rfl rfl ?_
            refine V_icmpeq (q := 120) (q2 := 100) dX11_pillar_97 (by decide) rfl (fun hc32 => ?_) (fun hc32 => ?_)
            · have h := ifT hc32 h
              refine V_iinc (q := 123) dX11_pillar_120 rfl (Nat.le_of_ble_eq_true rfl) trivial rfl ?_
              refine V_goto (q := 40) dX11_pillar_123 (by decide) ?_
              exact V_weak (ih h) (sb_s rfl (sb_s rfl (sb_s rfl (sb_s rfl (sb_s rfl (sb_s rfl (sb_n sb_0)))))))
            · have h := ifF hc32 h
              refine V_iload (q := 102) dX11_pillar_100 rfl rfl ?_
              refine V_iconst (q := 103) dX11_pillar_102 rfl rfl ?_
              refine V_icmpeq (q := 113) (q2 := 106) dX11_pillar_103 (by decide) rfl (fun hc33 => ?_) (fun hc33 => ?_)
              · have h := ifT hc33 h
                refine V_iload (q := 115) dX11_pillar_113 rfl rfl ?_
                refine V_istore_n (q := 116) dX11_pillar_115 rfl (Nat.le_of_ble_eq_true rfl) trivial rfl ?_
                refine V_iload (q := 118) dX11_pillar_116 rfl rfl ?_
                refine V_istore (q := 120) dX11_pillar_118 (Nat.le_of_ble_eq_true rfl) trivial rfl ?_
                refine V_iinc (q := 123) dX11_pillar_120 rfl (Nat.le_of_ble_eq_true rfl) trivial rfl ?_
                refine V_goto (q := 40) dX11_pillar_123 (by decide) ?_
                exact V_weak (ih h) (sb_s rfl (sb_s rfl (sb_s rfl (sb_s rfl (sb_s rfl (sb_s rfl (sb_n sb_0)))))))
              · have h := ifF hc33 h
                refine V_iload (q := 108) dX11_pillar_106 rfl rfl ?_
                refine V_iload (q := 110) dX11_pillar_108 rfl rfl ?_
                refine V_icmple (q := 120) (q2 := 113) dX11_pillar_110 (by decide) rfl (fun hc34 => ?_) (fun hc34 => ?_)
                · have h := ifT hc34 h
                  refine V_iinc (q := 123) dX11_pillar_120 rfl (Nat.le_of_ble_eq_true rfl) trivial rfl ?_
                  refine V_goto (q := 40) dX11_pillar_123 (by decide) ?_
                  exact V_weak (ih h) (sb_s rfl (sb_s rfl (sb_s rfl (sb_s rfl (sb_s rfl (sb_s rfl (sb_n sb_0)))))))
                · have h := ifF hc34 h
                  refine V_iload (q := 115) dX11_pillar_113 rfl rfl ?_
                  refine V_istore_n (q := 116) dX11_pillar_115 rfl (Nat.le_of_ble_eq_true rfl) trivial rfl ?_
                  refine V_iload (q := 118) dX11_pillar_116 rfl rfl ?_
                  refine V_istore (q := 120) dX11_pillar_118 (Nat.le_of_ble_eq_true rfl) trivial rfl ?_
                  refine V_iinc (q := 123) dX11_pillar_120 rfl (Nat.le_of_ble_eq_true rfl) trivial rfl ?_
                  refine V_goto (q := 40) dX11_pillar_123 (by decide) ?_
                  exact V_weak (ih h) (sb_s rfl (sb_s rfl (sb_s rfl (sb_s rfl (sb_s rfl (sb_s rfl (sb_n sb_0)))))))
set_option maxHeartbeats 4000000 in
set_option maxRecDepth 100000 in
theorem kX11_pillar (d : Nat) (hd : 135 ≤ d) {l1 : Int} {l2 : Int} {μ : Mm} {r : Int} {μ' : Mm} (h : X11_pillar l1 l2 μ = some (r, μ')) : CC d mX11_pillar [vR 70, vI l1, vI l2] μ r μ' := by
  unfold X11_pillar at h
  refine V_enter (by decide) (Nat.le_of_ble_eq_true rfl) ?_
  show VV d mX11_pillar 0 [some (vR 70), some (vI l1), some (vI l2), none, none, none, none] [] μ r μ'
  refine V_aload_n (q := 1) dX11_pillar_0 rfl rfl rfl ?_
  refine V_iload_n (q := 2) dX11_pillar_1 rfl rfl rfl ?_
  obtain ⟨v1, μ2, hc3, h⟩ := bd_i h
  refine V_cV1 (q := 5) (v := vI v1) (kX11_isReady (d - 1) (by omega) hc3) (by omega) mv_X11_335 rfl rfl rfl rfl rfl rfl dX11_pillar_2 rfl ?_
  refine V_ifeq (q := 30) (q2 := 8) dX11_pillar_5 (by decide) rfl (fun hc4 => ?_) (fun hc4 => ?_)
  · have h := ifT hc4 h
    refine V_iconst (q := 31) dX11_pillar_30 rfl rfl ?_
    exact V_iret rfl h dX11_pillar_31
  · have h := ifF hc4 h
    refine V_iload_n (q := 9) dX11_pillar_8 rfl rfl rfl ?_
    refine V_iconst (q := 10) dX11_pillar_9 rfl rfl ?_
    refine V_iconst (q := 11) dX11_pillar_10 rfl rfl ?_
    obtain ⟨v5, μ6, hc7, h⟩ := bd_i h
    refine V_cS1 (q := 14) (v := vI v5) (kX11_in (d - 1) (by omega) hc7) (by omega) mv_X11_213 rfl rfl rfl rfl dX11_pillar_11 rfl ?_
    refine V_ifeq (q := 30) (q2 := 17) dX11_pillar_14 (by decide) rfl (fun hc8 => ?_) (fun hc8 => ?_)
    · have h := ifT hc8 h
      refine V_iconst (q := 31) dX11_pillar_30 rfl rfl ?_
      exact V_iret rfl h dX11_pillar_31
    · have h := ifF hc8 h
      refine V_aload_n (q := 18) dX11_pillar_17 rfl rfl rfl ?_
      refine V_iconst (q := 19) dX11_pillar_18 rfl rfl ?_
      refine V_aload_n (q := 20) dX11_pillar_19 rfl rfl rfl ?_
      obtain ⟨v9, μ10, hc11, h⟩ := bd_i h
      refine V_cV1 (q := 23) (v := vI v9) (kX11_all (d - 1) (by omega) hc11) (by omega) mv_X11_357 rfl rfl rfl rfl rfl rfl dX11_pillar_20 rfl ?_
      obtain ⟨v12, μ13, hc14, h⟩ := bd_i h
      refine V_cV1 (q := 26) (v := vI v12) (kX11_leastOf (d - 1) (by omega) hc14) (by omega) mv_X11_360 rfl rfl rfl rfl rfl rfl dX11_pillar_23 rfl ?_
      refine V_iconst (q := 27) dX11_pillar_26 rfl rfl ?_
      refine V_icmpne (q := 32) (q2 := 30) dX11_pillar_27 (by decide) rfl (fun hc15 => ?_) (fun hc15 => ?_)
      · have h := ifF hc15 h
        refine V_iconst (q := 33) dX11_pillar_32 rfl rfl ?_
        refine V_istore_n (q := 34) dX11_pillar_33 rfl (Nat.le_of_ble_eq_true rfl) trivial rfl ?_
        refine V_iconst (q := 35) dX11_pillar_34 rfl rfl ?_
        refine V_istore (q := 37) dX11_pillar_35 (Nat.le_of_ble_eq_true rfl) trivial rfl ?_
        refine V_iconst (q := 38) dX11_pillar_37 rfl rfl ?_
        refine V_istore (q := 40) dX11_pillar_38 (Nat.le_of_ble_eq_true rfl) trivial rfl ?_
        refine V_weak (kX11_pillar_L40 d hd (fun v35 v36 μ37 h => ?_) FU h) (sb_s rfl (sb_s rfl (sb_s rfl (sb_s rfl (sb_s rfl (sb_s rfl (sb_n sb_0)))))))
        refine V_iload_n (q := 127) dX11_pillar_126 rfl rfl rfl ?_
        refine V_iconst (q := 128) dX11_pillar_127 rfl rfl ?_
        refine V_icmpeq (q := 135) (q2 := 131) dX11_pillar_128 (by decide) rfl (fun hc38 => ?_) (fun hc38 => ?_)
        · have h := ifT hc38 h
          refine V_iload_n (q := 136) dX11_pillar_135 rfl rfl rfl ?_
          refine V_goto (q := 153) dX11_pillar_136 (by decide) ?_
          exact V_iret rfl h dX11_pillar_153
        · have h := ifF hc38 h
          refine V_iload_n (q := 132) dX11_pillar_131 rfl rfl rfl ?_
          refine V_ifne (q := 139) (q2 := 135) dX11_pillar_132 (by decide) rfl (fun hc39 => ?_) (fun hc39 => ?_)
          · have h := ifF hc39 h
            refine V_iload (q := 141) dX11_pillar_139 rfl rfl ?_
            refine V_iconst (q := 142) dX11_pillar_141 rfl rfl ?_
            refine V_icmpne (q := 151) (q2 := 145) dX11_pillar_142 (by decide) rfl (fun hc40 => ?_) (fun hc40 => ?_)
            · have h := ifF hc40 h
              refine V_iload (q := 153) dX11_pillar_151 rfl rfl ?_
              exact V_iret rfl h dX11_pillar_153
            · have h := ifT hc40 h
              refine V_ldcw (q := 148) (n := -1000000) dX11_pillar_145 (by decide) kc_X11_388 rfl ?_
              refine V_goto (q := 153) dX11_pillar_148 (by decide) ?_
              exact V_iret rfl h dX11_pillar_153
          · have h := ifT hc39 h
            refine V_iload_n (q := 136) dX11_pillar_135 rfl rfl rfl ?_
            refine V_goto (q := 153) dX11_pillar_136 (by decide) ?_
            exact V_iret rfl h dX11_pillar_153
      · have h := ifT hc15 h
        refine V_iconst (q := 31) dX11_pillar_30 rfl rfl ?_
        exact V_iret rfl h dX11_pillar_31
