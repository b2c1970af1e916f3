abbrev mX11_lay : Mth := (yX11_lay, cX11_lay, 8, none)
theorem mi_X11_lay : Cond.instanceMethod yX11_lay ∈ tG ∧ Cond.selects yX11_lay.cls yX11_lay yX11_lay ∈ tG ∧ Cond.initialized yX11_lay.cls ∈ tG ∧ Cond.code yX11_lay cX11_lay 8 (none) ∈ tG ∧ (yX11_lay.cls ≠ "java/lang/invoke/MethodHandle" ∧ yX11_lay.cls ≠ "java/lang/invoke/VarHandle" ∧ (parseMethodDescriptor yX11_lay.desc).map (fun d => d.parameters.length) = some 3) ∧ 8 ≤ 60 := ⟨(tG_of (List.mem_of_getElem? (i := 1567) (by decide +kernel)) (by decide +kernel)), (tG_of (List.mem_of_getElem? (i := 83) (by decide +kernel)) (by decide +kernel)), (tG_of (List.mem_of_getElem? (i := 112) (by decide +kernel)) (by decide +kernel)), (tG_of (List.mem_of_getElem? (i := 1568) (by decide +kernel)) (by decide +kernel)), ⟨by decide, by decide, by decide +kernel⟩, by decide⟩
theorem mv_X11_322 : mV RX11 322 mX11_lay 3 := ⟨(tG_of (List.mem_of_getElem? (i := 1565) (by decide +kernel)) (by decide +kernel)), mi_X11_lay⟩
theorem dX11_lay_0 : decode cX11_lay 0 = .ok (.aload_n 0, 1) := by decide +kernel
theorem dX11_lay_1 : decode cX11_lay 1 = .ok (.aload_n 0, 1) := by decide +kernel
theorem dX11_lay_2 : decode cX11_lay 2 = .ok (.getfield 52, 3) := by decide +kernel
theorem dX11_lay_5 : decode cX11_lay 5 = .ok (.iload_n 1, 1) := by decide +kernel
theorem dX11_lay_6 : decode cX11_lay 6 = .ok (.iaload, 1) := by decide +kernel
theorem dX11_lay_7 : decode cX11_lay 7 = .ok (.putfield 316, 3) := by decide +kernel
theorem dX11_lay_10 : decode cX11_lay 10 = .ok (.aload_n 0, 1) := by decide +kernel
theorem dX11_lay_11 : decode cX11_lay 11 = .ok (.iload_n 3, 1) := by decide +kernel
theorem dX11_lay_12 : decode cX11_lay 12 = .ok (.putfield 319, 3) := by decide +kernel
theorem dX11_lay_15 : decode cX11_lay 15 = .ok (.iconst 0, 1) := by decide +kernel
theorem dX11_lay_16 : decode cX11_lay 16 = .ok (.istore 4, 2) := by decide +kernel
theorem dX11_lay_18 : decode cX11_lay 18 = .ok (.iload 4, 2) := by decide +kernel
theorem dX11_lay_20 : decode cX11_lay 20 = .ok (.aload_n 0, 1) := by decide +kernel
theorem dX11_lay_21 : decode cX11_lay 21 = .ok (.getfield 316, 3) := by decide +kernel
theorem dX11_lay_24 : decode cX11_lay 24 = .ok (.if_icmp .gt 154, 3) := by decide +kernel
theorem dX11_lay_27 : decode cX11_lay 27 = .ok (.iload 4, 2) := by decide +kernel
theorem dX11_lay_29 : decode cX11_lay 29 = .ok (.aload_n 0, 1) := by decide +kernel
theorem dX11_lay_30 : decode cX11_lay 30 = .ok (.getfield 316, 3) := by decide +kernel
theorem dX11_lay_33 : decode cX11_lay 33 = .ok (.if_icmp .ne 7, 3) := by decide +kernel
theorem dX11_lay_36 : decode cX11_lay 36 = .ok (.iload_n 2, 1) := by decide +kernel
theorem dX11_lay_37 : decode cX11_lay 37 = .ok (.goto 21, 3) := by decide +kernel
theorem dX11_lay_40 : decode cX11_lay 40 = .ok (.aload_n 0, 1) := by decide +kernel
theorem dX11_lay_41 : decode cX11_lay 41 = .ok (.iconst 3, 1) := by decide +kernel
theorem dX11_lay_42 : decode cX11_lay 42 = .ok (.aload_n 0, 1) := by decide +kernel
theorem dX11_lay_43 : decode cX11_lay 43 = .ok (.getfield 46, 3) := by decide +kernel
theorem dX11_lay_46 : decode cX11_lay 46 = .ok (.bipush 8, 2) := by decide +kernel
theorem dX11_lay_48 : decode cX11_lay 48 = .ok (.iload_n 1, 1) := by decide +kernel
theorem dX11_lay_49 : decode cX11_lay 49 = .ok (.imul, 1) := by decide +kernel
theorem dX11_lay_50 : decode cX11_lay 50 = .ok (.iload 4, 2) := by decide +kernel
theorem dX11_lay_52 : decode cX11_lay 52 = .ok (.iadd, 1) := by decide +kernel
theorem dX11_lay_53 : decode cX11_lay 53 = .ok (.iaload, 1) := by decide +kernel
theorem dX11_lay_54 : decode cX11_lay 54 = .ok (.iadd, 1) := by decide +kernel
theorem dX11_lay_55 : decode cX11_lay 55 = .ok (.invokevirtual 281, 3) := by decide +kernel
theorem dX11_lay_58 : decode cX11_lay 58 = .ok (.istore 5, 2) := by decide +kernel
theorem dX11_lay_60 : decode cX11_lay 60 = .ok (.iconst 0, 1) := by decide +kernel
theorem dX11_lay_61 : decode cX11_lay 61 = .ok (.istore 6, 2) := by decide +kernel
theorem dX11_lay_63 : decode cX11_lay 63 = .ok (.iload 6, 2) := by decide +kernel
theorem dX11_lay_65 : decode cX11_lay 65 = .ok (.aload_n 0, 1) := by decide +kernel
theorem dX11_lay_66 : decode cX11_lay 66 = .ok (.getfield 316, 3) := by decide +kernel
theorem dX11_lay_69 : decode cX11_lay 69 = .ok (.if_icmp .ge 23, 3) := by decide +kernel
theorem dX11_lay_72 : decode cX11_lay 72 = .ok (.aload_n 0, 1) := by decide +kernel
theorem dX11_lay_73 : decode cX11_lay 73 = .ok (.getfield 71, 3) := by decide +kernel
theorem dX11_lay_76 : decode cX11_lay 76 = .ok (.bipush 8, 2) := by decide +kernel
theorem dX11_lay_78 : decode cX11_lay 78 = .ok (.iload 4, 2) := by decide +kernel
theorem dX11_lay_80 : decode cX11_lay 80 = .ok (.imul, 1) := by decide +kernel
theorem dX11_lay_81 : decode cX11_lay 81 = .ok (.iload 6, 2) := by decide +kernel
theorem dX11_lay_83 : decode cX11_lay 83 = .ok (.iadd, 1) := by decide +kernel
theorem dX11_lay_84 : decode cX11_lay 84 = .ok (.iconst (-1), 1) := by decide +kernel
theorem dX11_lay_85 : decode cX11_lay 85 = .ok (.iastore, 1) := by decide +kernel
theorem dX11_lay_86 : decode cX11_lay 86 = .ok (.iinc 6 1, 3) := by decide +kernel
theorem dX11_lay_89 : decode cX11_lay 89 = .ok (.goto (-26), 3) := by decide +kernel
theorem dX11_lay_92 : decode cX11_lay 92 = .ok (.iload 5, 2) := by decide +kernel
theorem dX11_lay_94 : decode cX11_lay 94 = .ok (.iconst (-1), 1) := by decide +kernel
theorem dX11_lay_95 : decode cX11_lay 95 = .ok (.if_icmp .eq 77, 3) := by decide +kernel
theorem dX11_lay_98 : decode cX11_lay 98 = .ok (.aload_n 0, 1) := by decide +kernel
theorem dX11_lay_99 : decode cX11_lay 99 = .ok (.iload 5, 2) := by decide +kernel
theorem dX11_lay_101 : decode cX11_lay 101 = .ok (.invokevirtual 293, 3) := by decide +kernel
theorem dX11_lay_104 : decode cX11_lay 104 = .ok (.iconst 0, 1) := by decide +kernel
theorem dX11_lay_105 : decode cX11_lay 105 = .ok (.istore 6, 2) := by decide +kernel
theorem dX11_lay_107 : decode cX11_lay 107 = .ok (.iload 6, 2) := by decide +kernel
theorem dX11_lay_109 : decode cX11_lay 109 = .ok (.aload_n 0, 1) := by decide +kernel
theorem dX11_lay_110 : decode cX11_lay 110 = .ok (.getfield 316, 3) := by decide +kernel
theorem dX11_lay_113 : decode cX11_lay 113 = .ok (.if_icmp .ge 59, 3) := by decide +kernel
theorem dX11_lay_116 : decode cX11_lay 116 = .ok (.aload_n 0, 1) := by decide +kernel
theorem dX11_lay_117 : decode cX11_lay 117 = .ok (.iconst 3, 1) := by decide +kernel
theorem dX11_lay_118 : decode cX11_lay 118 = .ok (.aload_n 0, 1) := by decide +kernel
theorem dX11_lay_119 : decode cX11_lay 119 = .ok (.getfield 46, 3) := by decide +kernel
theorem dX11_lay_122 : decode cX11_lay 122 = .ok (.bipush 8, 2) := by decide +kernel
theorem dX11_lay_124 : decode cX11_lay 124 = .ok (.iload_n 1, 1) := by decide +kernel
theorem dX11_lay_125 : decode cX11_lay 125 = .ok (.imul, 1) := by decide +kernel
theorem dX11_lay_126 : decode cX11_lay 126 = .ok (.iload 6, 2) := by decide +kernel
theorem dX11_lay_128 : decode cX11_lay 128 = .ok (.iadd, 1) := by decide +kernel
theorem dX11_lay_129 : decode cX11_lay 129 = .ok (.iaload, 1) := by decide +kernel
theorem dX11_lay_130 : decode cX11_lay 130 = .ok (.iadd, 1) := by decide +kernel
theorem dX11_lay_131 : decode cX11_lay 131 = .ok (.invokevirtual 281, 3) := by decide +kernel
theorem dX11_lay_134 : decode cX11_lay 134 = .ok (.istore 7, 2) := by decide +kernel
theorem dX11_lay_136 : decode cX11_lay 136 = .ok (.aload_n 0, 1) := by decide +kernel
theorem dX11_lay_137 : decode cX11_lay 137 = .ok (.getfield 71, 3) := by decide +kernel
theorem dX11_lay_140 : decode cX11_lay 140 = .ok (.bipush 8, 2) := by decide +kernel
theorem dX11_lay_142 : decode cX11_lay 142 = .ok (.iload 4, 2) := by decide +kernel
theorem dX11_lay_144 : decode cX11_lay 144 = .ok (.imul, 1) := by decide +kernel
theorem dX11_lay_145 : decode cX11_lay 145 = .ok (.iload 6, 2) := by decide +kernel
theorem dX11_lay_147 : decode cX11_lay 147 = .ok (.iadd, 1) := by decide +kernel
theorem dX11_lay_148 : decode cX11_lay 148 = .ok (.iload 7, 2) := by decide +kernel
theorem dX11_lay_150 : decode cX11_lay 150 = .ok (.iconst (-1), 1) := by decide +kernel
theorem dX11_lay_151 : decode cX11_lay 151 = .ok (.if_icmp .ne 7, 3) := by decide +kernel
theorem dX11_lay_154 : decode cX11_lay 154 = .ok (.iconst (-1), 1) := by decide +kernel
theorem dX11_lay_155 : decode cX11_lay 155 = .ok (.goto 10, 3) := by decide +kernel
theorem dX11_lay_158 : decode cX11_lay 158 = .ok (.aload_n 0, 1) := by decide +kernel
theorem dX11_lay_159 : decode cX11_lay 159 = .ok (.getfield 65, 3) := by decide +kernel
theorem dX11_lay_162 : decode cX11_lay 162 = .ok (.iload 7, 2) := by decide +kernel
theorem dX11_lay_164 : decode cX11_lay 164 = .ok (.iaload, 1) := by decide +kernel
theorem dX11_lay_165 : decode cX11_lay 165 = .ok (.iastore, 1) := by decide +kernel
theorem dX11_lay_166 : decode cX11_lay 166 = .ok (.iinc 6 1, 3) := by decide +kernel
theorem dX11_lay_169 : decode cX11_lay 169 = .ok (.goto (-62), 3) := by decide +kernel
theorem dX11_lay_172 : decode cX11_lay 172 = .ok (.iinc 4 1, 3) := by decide +kernel
theorem dX11_lay_175 : decode cX11_lay 175 = .ok (.goto (-157), 3) := by decide +kernel
theorem dX11_lay_178 : decode cX11_lay 178 = .ok (.iconst 0, 1) := by decide +kernel
theorem dX11_lay_179 : decode cX11_lay 179 = .ok (.istore 4, 2) := by decide +kernel
theorem dX11_lay_181 : decode cX11_lay 181 = .ok (.iload 4, 2) := by decide +kernel
theorem dX11_lay_183 : decode cX11_lay 183 = .ok (.aload_n 0, 1) := by decide +kernel
theorem dX11_lay_184 : decode cX11_lay 184 = .ok (.getfield 316, 3) := by decide +kernel
theorem dX11_lay_187 : decode cX11_lay 187 = .ok (.if_icmp .ge 33, 3) := by decide +kernel
theorem dX11_lay_190 : decode cX11_lay 190 = .ok (.aload_n 0, 1) := by decide +kernel
theorem dX11_lay_191 : decode cX11_lay 191 = .ok (.getfield 74, 3) := by decide +kernel
theorem dX11_lay_194 : decode cX11_lay 194 = .ok (.iload 4, 2) := by decide +kernel
theorem dX11_lay_196 : decode cX11_lay 196 = .ok (.aload_n 0, 1) := by decide +kernel
theorem dX11_lay_197 : decode cX11_lay 197 = .ok (.getfield 55, 3) := by decide +kernel
theorem dX11_lay_200 : decode cX11_lay 200 = .ok (.aload_n 0, 1) := by decide +kernel
theorem dX11_lay_201 : decode cX11_lay 201 = .ok (.getfield 46, 3) := by decide +kernel
theorem dX11_lay_204 : decode cX11_lay 204 = .ok (.bipush 8, 2) := by decide +kernel
theorem dX11_lay_206 : decode cX11_lay 206 = .ok (.iload_n 1, 1) := by decide +kernel
theorem dX11_lay_207 : decode cX11_lay 207 = .ok (.imul, 1) := by decide +kernel
theorem dX11_lay_208 : decode cX11_lay 208 = .ok (.iload 4, 2) := by decide +kernel
theorem dX11_lay_210 : decode cX11_lay 210 = .ok (.iadd, 1) := by decide +kernel
theorem dX11_lay_211 : decode cX11_lay 211 = .ok (.iaload, 1) := by decide +kernel
theorem dX11_lay_212 : decode cX11_lay 212 = .ok (.iaload, 1) := by decide +kernel
theorem dX11_lay_213 : decode cX11_lay 213 = .ok (.iastore, 1) := by decide +kernel
theorem dX11_lay_214 : decode cX11_lay 214 = .ok (.iinc 4 1, 3) := by decide +kernel
theorem dX11_lay_217 : decode cX11_lay 217 = .ok (.goto (-36), 3) := by decide +kernel
theorem dX11_lay_220 : decode cX11_lay 220 = .ok (.return_, 1) := by decide +kernel
def X11_lay_L63 (l1 : Int) (l2 : Int) (l4 : Int) (l5 : Int) (k92 : Mm → Rs) : Nat → Int → Mm → Rs
  | 0, _, _ => none
  | n + 1, l6, μ => if (μ 70 37) ≤ l6 then (k92 μ) else (stA μ 89 (iA (iM 8 l4) l6) (-1) fun μ13 => X11_lay_L63 l1 l2 l4 l5 k92 n (iA l6 1) μ13)
def X11_lay_L107 (l1 : Int) (l2 : Int) (l4 : Int) (k172 : Mm → Rs) : Nat → Int → Mm → Rs
  | 0, _, _ => none
  | n + 1, l6, μ => if (μ 70 37) ≤ l6 then (k172 μ) else (ldA μ 83 (iA (iM 8 l1) l6) fun v21 => bd (X11_placeOf (iA 3 v21) μ) fun v23 μ24 => if v23 = (-1) then (stA μ24 89 (iA (iM 8 l4) l6) (-1) fun μ31 => X11_lay_L107 l1 l2 l4 k172 n (iA l6 1) μ31) else (ldA μ24 87 v23 fun v27 => stA μ24 89 (iA (iM 8 l4) l6) v27 fun μ29 => X11_lay_L107 l1 l2 l4 k172 n (iA l6 1) μ29))
def X11_lay_J58 (k18 : Int → Mm → Rs) (l1 : Int) (l2 : Int) (l4 : Int) (s0 : Int) (μ : Mm) : Rs := X11_lay_L63 l1 l2 l4 s0 (fun μ15 => if s0 = (-1) then (k18 (iA l4 1) μ15) else (bd (X11_spread s0 μ15) fun v17 μ18 => X11_lay_L107 l1 l2 l4 (fun μ33 => k18 (iA l4 1) μ33) FU 0 μ18)) FU 0 μ
def X11_lay_L18 (l1 : Int) (l2 : Int) (k178 : Mm → Rs) : Nat → Int → Mm → Rs
  | 0, _, _ => none
  | n + 1, l4, μ => if (μ 70 37) < l4 then (k178 μ) else (if l4 = (μ 70 37) then (X11_lay_J58 (fun w4 μq => X11_lay_L18 l1 l2 k178 n w4 μq) l1 l2 l4 l2 μ) else (ldA μ 83 (iA (iM 8 l1) l4) fun v7 => bd (X11_placeOf (iA 3 v7) μ) fun v9 μ10 => X11_lay_J58 (fun w4 μq => X11_lay_L18 l1 l2 k178 n w4 μq) l1 l2 l4 v9 μ10))
def X11_lay_L181 (l1 : Int) : Nat → Int → Mm → Rs
  | 0, _, _ => none
  | n + 1, l4, μ => if (μ 70 37) ≤ l4 then (some (0, μ)) else (ldA μ 83 (iA (iM 8 l1) l4) fun v36 => ldA μ 86 v36 fun v38 => stA μ 90 l4 v38 fun μ40 => X11_lay_L181 l1 n (iA l4 1) μ40)
def X11_lay (l1 : Int) (l2 : Int) (l3 : Int) (μ : Mm) : Rs := ldA μ 85 l1 fun v1 => sF μ 70 37 v1 fun μ3 => sF μ3 70 38 l3 fun μ4 => X11_lay_L18 l1 l2 (fun μ34 => X11_lay_L181 l1 FU 0 μ34) FU 0 μ4
set_option maxHeartbeats 4000000 in
set_option maxRecDepth 100000 in
theorem kX11_lay_L63 (d : Nat) (hd : 4 ≤ d) {l1 : Int} {l2 : Int} {l4 : Int} {l5 : Int} {k92 : Mm → Rs} {r : Int} {μ' : Mm} (hk_92 : ∀ (μ1 : Mm), k92 μ1 = some (r, μ') → VV d mX11_lay 92 [some (vR 70), some (vI l1), some (vI l2), none, some (vI l4), some (vI l5), none, none] [] μ1 r μ') : ∀ (n : Nat) {l6 : Int} {μ : Mm}, X11_lay_L63 l1 l2 l4 l5 k92 n l6 μ = some (r, μ') → VV d mX11_lay 63 [some (vR 70), some (vI l1), some (vI l2), none, some (vI l4), some (vI l5), some (vI l6), none] [] μ r μ' := by
  intro n
  induction n with
  | zero => intro l6 μ h; rw [X11_lay_L63] at h; cases h
  | succ n ih =>
    intro l6 μ h
    rw [X11_lay_L63] at h
    refine V_iload (q := 65) dX11_lay_63 rfl rfl ?_
    refine V_aload_n (q := 66) dX11_lay_65 rfl rfl rfl ?_
    refine V_getI (q := 69) fl_X11_316 rfl rfl rfl dX11_lay_66 rfl ?_
    refine V_icmpge (q := 92) (q2 := 72) dX11_lay_69 (by decide) rfl (fun hc12 => ?_) (fun hc12 => ?_)
    · have h := ifT hc12 h
      exact V_weak (hk_92 _ h) (sb_s rfl (sb_s rfl (sb_s rfl (sb_n (sb_s rfl (sb_s rfl (sb_n (sb_n sb_0))))))))
    · have h := ifF hc12 h
      refine V_aload_n (q := 73) dX11_lay_72 rfl rfl rfl ?_
      refine V_getO (q := 76) (t := 89) fl_X11_71 rfl rfl rfl rfl dX11_lay_73 rfl ?_
      refine V_bipush (q := 78) dX11_lay_76 rfl rfl rfl ?_
      refine V_iload (q := 80) dX11_lay_78 rfl rfl ?_
      refine V_imul (q := 81) dX11_lay_80 rfl ?_
      refine V_iload (q := 83) dX11_lay_81 rfl rfl ?_
      refine V_iadd (q := 84) dX11_lay_83 rfl ?_
      refine V_iconst (q := 85) dX11_lay_84 rfl rfl ?_
      obtain ⟨hi14, h⟩ := stA_i h
      refine V_iastore (q := 86) rfl hi14 dX11_lay_85 rfl ?_
      refine V_iinc (q := 89) dX11_lay_86 rfl (Nat.le_of_ble_eq_true rfl) trivial rfl ?_
      refine V_goto (q := 63) dX11_lay_89 (by decide) ?_
      exact V_weak (ih h) (sb_s rfl (sb_s rfl (sb_s rfl (sb_n (sb_s rfl (sb_s rfl (sb_s rfl (sb_n sb_0))))))))
set_option maxHeartbeats 4000000 in
set_option maxRecDepth 100000 in
theorem kX11_lay_L107 (d : Nat) (hd : 4 ≤ d) {l1 : Int} {l2 : Int} {l4 : Int} {k172 : Mm → Rs} {r : Int} {μ' : Mm} (hk_172 : ∀ (μ1 : Mm), k172 μ1 = some (r, μ') → VV d mX11_lay 172 [some (vR 70), some (vI l1), some (vI l2), none, some (vI l4), none, none, none] [] μ1 r μ') : ∀ (n : Nat) {l6 : Int} {μ : Mm}, X11_lay_L107 l1 l2 l4 k172 n l6 μ = some (r, μ') → VV d mX11_lay 107 [some (vR 70), some (vI l1), some (vI l2), none, some (vI l4), none, some (vI l6), none] [] μ r μ' := by
  intro n
  induction n with
  | zero => intro l6 μ h; rw [X11_lay_L107] at h; cases h
  | succ n ih =>
    intro l6 μ h
    rw [X11_lay_L107] at h
    refine V_iload (q := 109) dX11_lay_107 rfl rfl ?_
    refine V_aload_n (q := 110) dX11_lay_109 rfl rfl rfl ?_
    refine V_getI (q := 113) fl_X11_316 rfl rfl rfl dX11_lay_110 rfl ?_
    refine V_icmpge (q := 172) (q2 := 116) dX11_lay_113 (by decide) rfl (fun hc20 => ?_) (fun hc20 => ?_)
    · have h := ifT hc20 h
      exact V_weak (hk_172 _ h) (sb_s rfl (sb_s rfl (sb_s rfl (sb_n (sb_s rfl (sb_n (sb_n (sb_n sb_0))))))))
    · have h := ifF hc20 h
      refine V_aload_n (q := 117) dX11_lay_116 rfl rfl rfl ?_
      refine V_iconst (q := 118) dX11_lay_117 rfl rfl ?_
      refine V_aload_n (q := 119) dX11_lay_118 rfl rfl rfl ?_
      refine V_getO (q := 122) (t := 83) fl_X11_46 rfl rfl rfl rfl dX11_lay_119 rfl ?_
      refine V_bipush (q := 124) dX11_lay_122 rfl rfl rfl ?_
      refine V_iload_n (q := 125) dX11_lay_124 rfl rfl rfl ?_
      refine V_imul (q := 126) dX11_lay_125 rfl ?_
      refine V_iload (q := 128) dX11_lay_126 rfl rfl ?_
      refine V_iadd (q := 129) dX11_lay_128 rfl ?_
      obtain ⟨hi22, h⟩ := ldA_i h
      refine V_iaload (q := 130) rfl hi22 dX11_lay_129 rfl ?_
      refine V_iadd (q := 131) dX11_lay_130 rfl ?_
      obtain ⟨v23, μ24, hc25, h⟩ := bd_i h
      refine V_cV1 (q := 134) (v := vI v23) (kX11_placeOf (d - 1) (by omega) hc25) (by omega) mv_X11_281 rfl rfl rfl rfl rfl rfl dX11_lay_131 rfl ?_
      refine V_istore (q := 136) dX11_lay_134 (Nat.le_of_ble_eq_true rfl) trivial rfl ?_
      refine V_aload_n (q := 137) dX11_lay_136 rfl rfl rfl ?_
      refine V_getO (q := 140) (t := 89) fl_X11_71 rfl rfl rfl rfl dX11_lay_137 rfl ?_
      refine V_bipush (q := 142) dX11_lay_140 rfl rfl rfl ?_
      refine V_iload (q := 144) dX11_lay_142 rfl rfl ?_
      refine V_imul (q := 145) dX11_lay_144 rfl ?_
      refine V_iload (q := 147) dX11_lay_145 rfl rfl ?_
      refine V_iadd (q := 148) dX11_lay_147 rfl ?_
      refine V_iload (q := 150) dX11_lay_148 rfl rfl ?_
      refine V_iconst (q := 151) dX11_lay_150 rfl rfl ?_
      refine V_icmpne (q := 158) (q2 := 154) dX11_lay_151 (by decide) rfl (fun hc26 => ?_) (fun hc26 => ?_)
      · have h := ifF hc26 h
        refine V_aload_n (q := 159) dX11_lay_158 rfl rfl rfl ?_
        refine V_getO (q := 162) (t := 87) fl_X11_65 rfl rfl rfl rfl dX11_lay_159 rfl ?_
        refine V_iload (q := 164) dX11_lay_162 rfl rfl ?_
        obtain ⟨hi28, h⟩ := ldA_i h
        refine V_iaload (q := 165) rfl hi28 dX11_lay_164 rfl ?_
        obtain ⟨hi30, h⟩ := stA_i h
        refine V_iastore (q := 166) rfl hi30 dX11_lay_165 rfl ?_
        refine V_iinc (q := 169) dX11_lay_166 rfl (Nat.le_of_ble_eq_true rfl) trivial rfl ?_
        refine V_goto (q := 107) dX11_lay_169 (by decide) ?_
        exact V_weak (ih h) (sb_s rfl (sb_s rfl (sb_s rfl (sb_n (sb_s rfl (sb_n (sb_s rfl (sb_n sb_0))))))))
      · have h := ifT hc26 h
        refine V_iconst (q := 155) dX11_lay_154 rfl rfl ?_
        refine V_goto (q := 165) dX11_lay_155 (by decide) ?_
        obtain ⟨hi32, h⟩ := stA_i h
        refine V_iastore (q := 166) rfl hi32 dX11_lay_165 rfl ?_
        refine V_iinc (q := 169) dX11_lay_166 rfl (Nat.le_of_ble_eq_true rfl) trivial rfl ?_
        refine V_goto (q := 107) dX11_lay_169 (by decide) ?_
        exact V_weak (ih h) (sb_s rfl (sb_s rfl (sb_s rfl (sb_n (sb_s rfl (sb_n (sb_s rfl (sb_n sb_0))))))))
set_option maxHeartbeats 4000000 in
set_option maxRecDepth 100000 in
theorem kX11_lay_J58 (d : Nat) (hd : 4 ≤ d) {k18 : Int → Mm → Rs} {l1 : Int} {l2 : Int} {l4 : Int} {s0 : Int} {μ : Mm} {r : Int} {μ' : Mm} (hk_18 : ∀ (v4 : Int) (μ1 : Mm), k18 v4 μ1 = some (r, μ') → VV d mX11_lay 18 [some (vR 70), some (vI l1), some (vI l2), none, some (vI v4), none, none, none] [] μ1 r μ') (h : X11_lay_J58 k18 l1 l2 l4 s0 μ = some (r, μ')) : VV d mX11_lay 58 [some (vR 70), some (vI l1), some (vI l2), none, some (vI l4), none, none, none] [vI s0] μ r μ' := by
  unfold X11_lay_J58 at h
  refine V_istore (q := 60) dX11_lay_58 (Nat.le_of_ble_eq_true rfl) trivial rfl ?_
  refine V_iconst (q := 61) dX11_lay_60 rfl rfl ?_
  refine V_istore (q := 63) dX11_lay_61 (Nat.le_of_ble_eq_true rfl) trivial rfl ?_
  refine V_weak (kX11_lay_L63 d hd (fun μ15 h => ?_) FU h) (sb_s rfl (sb_s rfl (sb_s rfl (sb_n (sb_s rfl (sb_s rfl (sb_s rfl (sb_n sb_0))))))))
  refine V_iload (q := 94) dX11_lay_92 rfl rfl ?_
  refine V_iconst (q := 95) dX11_lay_94 rfl rfl ?_
  refine V_icmpeq (q := 172) (q2 := 98) dX11_lay_95 (by decide) rfl (fun hc16 => ?_) (fun hc16 => ?_)
  · have h := ifT hc16 h
    refine V_iinc (q := 175) dX11_lay_172 rfl (Nat.le_of_ble_eq_true rfl) trivial rfl ?_
    refine V_goto (q := 18) dX11_lay_175 (by decide) ?_
    exact V_weak (hk_18 _ _ h) (sb_s rfl (sb_s rfl (sb_s rfl (sb_n (sb_s rfl (sb_n (sb_n (sb_n sb_0))))))))
  · have h := ifF hc16 h
    refine V_aload_n (q := 99) dX11_lay_98 rfl rfl rfl ?_
    refine V_iload (q := 101) dX11_lay_99 rfl rfl ?_
    obtain ⟨v17, μ18, hc19, h⟩ := bd_i h
    refine V_cV0 (q := 104) (kX11_spread (d - 1) (by omega) hc19) (by omega) mv_X11_293 rfl rfl rfl rfl rfl rfl dX11_lay_101 rfl ?_
    refine V_iconst (q := 105) dX11_lay_104 rfl rfl ?_
    refine V_istore (q := 107) dX11_lay_105 (Nat.le_of_ble_eq_true rfl) trivial rfl ?_
    refine V_weak (kX11_lay_L107 d hd (fun μ33 h => ?_) FU h) (sb_s rfl (sb_s rfl (sb_s rfl (sb_n (sb_s rfl (sb_n (sb_s rfl (sb_n sb_0))))))))
    refine V_iinc (q := 175) dX11_lay_172 rfl (Nat.le_of_ble_eq_true rfl) trivial rfl ?_
    refine V_goto (q := 18) dX11_lay_175 (by decide) ?_
    exact V_weak (hk_18 _ _ h) (sb_s rfl (sb_s rfl (sb_s rfl (sb_n (sb_s rfl (sb_n (sb_n (sb_n sb_0))))))))
set_option maxHeartbeats 4000000 in
set_option maxRecDepth 100000 in
theorem kX11_lay_L18 (d : Nat) (hd : 4 ≤ d) {l1 : Int} {l2 : Int} {k178 : Mm → Rs} {r : Int} {μ' : Mm} (hk_178 : ∀ (μ1 : Mm), k178 μ1 = some (r, μ') → VV d mX11_lay 178 [some (vR 70), some (vI l1), none, none, none, none, none, none] [] μ1 r μ') : ∀ (n : Nat) {l4 : Int} {μ : Mm}, X11_lay_L18 l1 l2 k178 n l4 μ = some (r, μ') → VV d mX11_lay 18 [some (vR 70), some (vI l1), some (vI l2), none, some (vI l4), none, none, none] [] μ r μ' := by
  intro n
  induction n with
  | zero => intro l4 μ h; rw [X11_lay_L18] at h; cases h
  | succ n ih =>
    intro l4 μ h
    rw [X11_lay_L18] at h
    refine V_iload (q := 20) dX11_lay_18 rfl rfl ?_
    refine V_aload_n (q := 21) dX11_lay_20 rfl rfl rfl ?_
    refine V_getI (q := 24) fl_X11_316 rfl rfl rfl dX11_lay_21 rfl ?_
    refine V_icmpgt (q := 178) (q2 := 27) dX11_lay_24 (by decide) rfl (fun hc5 => ?_) (fun hc5 => ?_)
    · have h := ifT hc5 h
      exact V_weak (hk_178 _ h) (sb_s rfl (sb_s rfl (sb_n (sb_n (sb_n (sb_n (sb_n (sb_n sb_0))))))))
    · have h := ifF hc5 h
      refine V_iload (q := 29) dX11_lay_27 rfl rfl ?_
      refine V_aload_n (q := 30) dX11_lay_29 rfl rfl rfl ?_
      refine V_getI (q := 33) fl_X11_316 rfl rfl rfl dX11_lay_30 rfl ?_
      refine V_icmpne (q := 40) (q2 := 36) dX11_lay_33 (by decide) rfl (fun hc6 => ?_) (fun hc6 => ?_)
      · have h := ifF hc6 h
        refine V_aload_n (q := 41) dX11_lay_40 rfl rfl rfl ?_
        refine V_iconst (q := 42) dX11_lay_41 rfl rfl ?_
        refine V_aload_n (q := 43) dX11_lay_42 rfl rfl rfl ?_
        refine V_getO (q := 46) (t := 83) fl_X11_46 rfl rfl rfl rfl dX11_lay_43 rfl ?_
        refine V_bipush (q := 48) dX11_lay_46 rfl rfl rfl ?_
        refine V_iload_n (q := 49) dX11_lay_48 rfl rfl rfl ?_
        refine V_imul (q := 50) dX11_lay_49 rfl ?_
        refine V_iload (q := 52) dX11_lay_50 rfl rfl ?_
        refine V_iadd (q := 53) dX11_lay_52 rfl ?_
        obtain ⟨hi8, h⟩ := ldA_i h
        refine V_iaload (q := 54) rfl hi8 dX11_lay_53 rfl ?_
        refine V_iadd (q := 55) dX11_lay_54 rfl ?_
        obtain ⟨v9, μ10, hc11, h⟩ := bd_i h
        refine V_cV1 (q := 58) (v := vI v9) (kX11_placeOf (d - 1) (by omega) hc11) (by omega) mv_X11_281 rfl rfl rfl rfl rfl rfl dX11_lay_55 rfl ?_
        exact V_weak (kX11_lay_J58 d hd (fun _ _ h => ih h) h) (sb_s rfl (sb_s rfl (sb_s rfl (sb_n (sb_s rfl (sb_n (sb_n (sb_n sb_0))))))))
      · have h := ifT hc6 h
        refine V_iload_n (q := 37) dX11_lay_36 rfl rfl rfl ?_
        refine V_goto (q := 58) dX11_lay_37 (by decide) ?_
        exact V_weak (kX11_lay_J58 d hd (fun _ _ h => ih h) h) (sb_s rfl (sb_s rfl (sb_s rfl (sb_n (sb_s rfl (sb_n (sb_n (sb_n sb_0))))))))
set_option maxHeartbeats 4000000 in
set_option maxRecDepth 100000 in
theorem kX11_lay_L181 (d : Nat) (hd : 4 ≤ d) {l1 : Int} {r : Int} {μ' : Mm} : ∀ (n : Nat) {l4 : Int} {μ : Mm}, X11_lay_L181 l1 n l4 μ = some (r, μ') → VV d mX11_lay 181 [some (vR 70), some (vI l1), none, none, some (vI l4), none, none, none] [] μ r μ' := by
  intro n
  induction n with
  | zero => intro l4 μ h; rw [X11_lay_L181] at h; cases h
  | succ n ih =>
    intro l4 μ h
    rw [X11_lay_L181] at h
    refine V_iload (q := 183) dX11_lay_181 rfl rfl ?_
    refine V_aload_n (q := 184) dX11_lay_183 rfl rfl rfl ?_
    refine V_getI (q := 187) fl_X11_316 rfl rfl rfl dX11_lay_184 rfl ?_
    refine V_icmpge (q := 220) (q2 := 190) dX11_lay_187 (by decide) rfl (fun hc35 => ?_) (fun hc35 => ?_)
    · have h := ifT hc35 h
      exact V_vret rfl h dX11_lay_220
    · have h := ifF hc35 h
      refine V_aload_n (q := 191) dX11_lay_190 rfl rfl rfl ?_
      refine V_getO (q := 194) (t := 90) fl_X11_74 rfl rfl rfl rfl dX11_lay_191 rfl ?_
      refine V_iload (q := 196) dX11_lay_194 rfl rfl ?_
      refine V_aload_n (q := 197) dX11_lay_196 rfl rfl rfl ?_
      refine V_getO (q := 200) (t := 86) fl_X11_55 rfl rfl rfl rfl dX11_lay_197 rfl ?_
      refine V_aload_n (q := 201) dX11_lay_200 rfl rfl rfl ?_
      refine V_getO (q := 204) (t := 83) fl_X11_46 rfl rfl rfl rfl dX11_lay_201 rfl ?_
      refine V_bipush (q := 206) dX11_lay_204 rfl rfl rfl ?_
      refine V_iload_n (q := 207) dX11_lay_206 rfl rfl rfl ?_
      refine V_imul (q := 208) dX11_lay_207 rfl ?_
      refine V_iload (q := 210) dX11_lay_208 rfl rfl ?_
      refine V_iadd (q := 211) dX11_lay_210 rfl ?_
      obtain ⟨hi37, h⟩ := ldA_i h
      refine V_iaload (q := 212) rfl hi37 dX11_lay_211 rfl ?_
      obtain ⟨hi39, h⟩ := ldA_i h
      refine V_iaload (q := 213) rfl hi39 dX11_lay_212 rfl ?_
      obtain ⟨hi41, h⟩ := stA_i h
      refine V_iastore (q := 214) rfl hi41 dX11_lay_213 rfl ?_
      refine V_iinc (q := 217) dX11_lay_214 rfl (Nat.le_of_ble_eq_true rfl) trivial rfl ?_
      refine V_goto (q := 181) dX11_lay_217 (by decide) ?_
      exact V_weak (ih h) (sb_s rfl (sb_s rfl (sb_n (sb_n (sb_s rfl (sb_n (sb_n (sb_n sb_0))))))))
set_option maxHeartbeats 4000000 in
set_option maxRecDepth 100000 in
theorem kX11_lay (d : Nat) (hd : 4 ≤ d) {l1 : Int} {l2 : Int} {l3 : Int} {μ : Mm} {r : Int} {μ' : Mm} (h : X11_lay l1 l2 l3 μ = some (r, μ')) : CC d mX11_lay [vR 70, vI l1, vI l2, vI l3] μ r μ' := by
  unfold X11_lay at h
  refine V_enter (by decide) (Nat.le_of_ble_eq_true rfl) ?_
  show VV d mX11_lay 0 [some (vR 70), some (vI l1), some (vI l2), some (vI l3), none, none, none, none] [] μ r μ'
  refine V_aload_n (q := 1) dX11_lay_0 rfl rfl rfl ?_
  refine V_aload_n (q := 2) dX11_lay_1 rfl rfl rfl ?_
  refine V_getO (q := 5) (t := 85) fl_X11_52 rfl rfl rfl rfl dX11_lay_2 rfl ?_
  refine V_iload_n (q := 6) dX11_lay_5 rfl rfl rfl ?_
  obtain ⟨hi2, h⟩ := ldA_i h
  refine V_iaload (q := 7) rfl hi2 dX11_lay_6 rfl ?_
  have h := sF_i h
  refine V_putI (q := 10) fl_X11_316 rfl rfl rfl dX11_lay_7 rfl ?_
  refine V_aload_n (q := 11) dX11_lay_10 rfl rfl rfl ?_
  refine V_iload_n (q := 12) dX11_lay_11 rfl rfl rfl ?_
  have h := sF_i h
  refine V_putI (q := 15) fl_X11_319 rfl rfl rfl dX11_lay_12 rfl ?_
  refine V_iconst (q := 16) dX11_lay_15 rfl rfl ?_
  refine V_istore (q := 18) dX11_lay_16 (Nat.le_of_ble_eq_true rfl) trivial rfl ?_
  refine V_weak (kX11_lay_L18 d hd (fun μ34 h => ?_) FU h) (sb_s rfl (sb_s rfl (sb_s rfl (sb_n (sb_s rfl (sb_n (sb_n (sb_n sb_0))))))))
  refine V_iconst (q := 179) dX11_lay_178 rfl rfl ?_
  refine V_istore (q := 181) dX11_lay_179 (Nat.le_of_ble_eq_true rfl) trivial rfl ?_
  exact V_weak (kX11_lay_L181 d hd  FU h) (sb_s rfl (sb_s rfl (sb_n (sb_n (sb_s rfl (sb_n (sb_n (sb_n sb_0))))))))
abbrev mX11_isReady : Mth := (yX11_isReady, cX11_isReady, 2, some .boolean)
theorem mi_X11_isReady : Cond.instanceMethod yX11_isReady ∈ tG ∧ Cond.selects yX11_isReady.cls yX11_isReady yX11_isReady ∈ tG ∧ Cond.initialized yX11_isReady.cls ∈ tG ∧ Cond.code yX11_isReady cX11_isReady 2 (some .boolean) ∈ tG ∧ (yX11_isReady.cls ≠ "java/lang/invoke/MethodHandle" ∧ yX11_isReady.cls ≠ "java/lang/invoke/VarHandle" ∧ (parseMethodDescriptor yX11_isReady.desc).map (fun d => d.parameters.length) = some 1) ∧ 2 ≤ 60 := ⟨(tG_of (List.mem_of_getElem? (i := 1563) (by decide +kernel)) (by decide +kernel)), (tG_of (List.mem_of_getElem? (i := 82) (by decide +kernel)) (by decide +kernel)), (tG_of (List.mem_of_getElem? (i := 112) (by decide +kernel)) (by decide +kernel)), (tG_of (List.mem_of_getElem? (i := 1564) (by decide +kernel)) (by decide +kernel)), ⟨by decide, by decide, by decide +kernel⟩, by decide⟩
theorem mv_X11_335 : mV RX11 335 mX11_isReady 1 := ⟨(tG_of (List.mem_of_getElem? (i := 1561) (by decide +kernel)) (by decide +kernel)), mi_X11_isReady⟩
theorem dX11_isReady_0 : decode cX11_isReady 0 = .ok (.aload_n 0, 1) := by decide +kernel
theorem dX11_isReady_1 : decode cX11_isReady 1 = .ok (.getfield 252, 3) := by decide +kernel
theorem dX11_isReady_4 : decode cX11_isReady 4 = .ok (.ifCond .eq 11, 3) := by decide +kernel
theorem dX11_isReady_7 : decode cX11_isReady 7 = .ok (.aload_n 0, 1) := by decide +kernel
theorem dX11_isReady_8 : decode cX11_isReady 8 = .ok (.iload_n 1, 1) := by decide +kernel
theorem dX11_isReady_9 : decode cX11_isReady 9 = .ok (.invokevirtual 304, 3) := by decide +kernel
theorem dX11_isReady_12 : decode cX11_isReady 12 = .ok (.ifCond .ne 5, 3) := by decide +kernel
theorem dX11_isReady_15 : decode cX11_isReady 15 = .ok (.iconst 0, 1) := by decide +kernel
theorem dX11_isReady_16 : decode cX11_isReady 16 = .ok (.ireturn, 1) := by decide +kernel
theorem dX11_isReady_17 : decode cX11_isReady 17 = .ok (.aload_n 0, 1) := by decide +kernel
theorem dX11_isReady_18 : decode cX11_isReady 18 = .ok (.iload_n 1, 1) := by decide +kernel
theorem dX11_isReady_19 : decode cX11_isReady 19 = .ok (.aload_n 0, 1) := by decide +kernel
theorem dX11_isReady_20 : decode cX11_isReady 20 = .ok (.getfield 307, 3) := by decide +kernel
theorem dX11_isReady_23 : decode cX11_isReady 23 = .ok (.invokevirtual 310, 3) := by decide +kernel
theorem dX11_isReady_26 : decode cX11_isReady 26 = .ok (.aload_n 0, 1) := by decide +kernel
theorem dX11_isReady_27 : decode cX11_isReady 27 = .ok (.iload_n 1, 1) := by decide +kernel
theorem dX11_isReady_28 : decode cX11_isReady 28 = .ok (.aload_n 0, 1) := by decide +kernel
theorem dX11_isReady_29 : decode cX11_isReady 29 = .ok (.iconst 2, 1) := by decide +kernel
theorem dX11_isReady_30 : decode cX11_isReady 30 = .ok (.invokevirtual 281, 3) := by decide +kernel
theorem dX11_isReady_33 : decode cX11_isReady 33 = .ok (.aload_n 0, 1) := by decide +kernel
theorem dX11_isReady_34 : decode cX11_isReady 34 = .ok (.getfield 58, 3) := by decide +kernel
theorem dX11_isReady_37 : decode cX11_isReady 37 = .ok (.invokevirtual 322, 3) := by decide +kernel
theorem dX11_isReady_40 : decode cX11_isReady 40 = .ok (.iconst 1, 1) := by decide +kernel
theorem dX11_isReady_41 : decode cX11_isReady 41 = .ok (.ireturn, 1) := by decide +kernel
def X11_isReady (l1 : Int) (μ : Mm) : Rs := if (μ 70 23) = 0 then (some (0, μ)) else (bd (X11_isPlay l1 μ) fun v2 μ3 => if v2 = 0 then (some (0, μ3)) else (bd (X11_layTimes l1 (μ3 70 31) μ3) fun v6 μ7 => bd (X11_placeOf 2 μ7) fun v9 μ10 => bd (X11_lay l1 v9 (μ10 70 30) μ10) fun v12 μ13 => some (1, μ13)))
set_option maxHeartbeats 4000000 in
set_option maxRecDepth 100000 in
theorem kX11_isReady (d : Nat) (hd : 7 ≤ d) {l1 : Int} {μ : Mm} {r : Int} {μ' : Mm} (h : X11_isReady l1 μ = some (r, μ')) : CC d mX11_isReady [vR 70, vI l1] μ r μ' := by
  unfold X11_isReady at h
  refine V_enter (by decide) (Nat.le_of_ble_eq_true rfl) ?_
  show VV d mX11_isReady 0 [some (vR 70), some (vI l1)] [] μ r μ'
  refine V_aload_n (q := 1) dX11_isReady_0 rfl rfl rfl ?_
  refine V_getI (q := 4) fl_X11_252 rfl rfl rfl dX11_isReady_1 rfl ?_
  refine V_ifeq (q := 15) (q2 := 7) dX11_isReady_4 (by decide) rfl (fun hc1 => ?_) (fun hc1 => ?_)
  · have h := ifT hc1 h
    refine V_iconst (q := 16) dX11_isReady_15 rfl rfl ?_
    exact V_zret rfl (Or.inl rfl) h dX11_isReady_16
  · have h := ifF hc1 h
    refine V_aload_n (q := 8) dX11_isReady_7 rfl rfl rfl ?_
    refine V_iload_n (q := 9) dX11_isReady_8 rfl rfl rfl ?_
    obtain ⟨v2, μ3, hc4, h⟩ := bd_i h
    refine V_cV1 (q := 12) (v := vI v2) (kX11_isPlay (d - 1) (by omega) hc4) (by omega) mv_X11_304 rfl rfl rfl rfl rfl rfl dX11_isReady_9 rfl ?_
    refine V_ifne (q := 17) (q2 := 15) dX11_isReady_12 (by decide) rfl (fun hc5 => ?_) (fun hc5 => ?_)
    · have h := ifF hc5 h
      refine V_aload_n (q := 18) dX11_isReady_17 rfl rfl rfl ?_
      refine V_iload_n (q := 19) dX11_isReady_18 rfl rfl rfl ?_
      refine V_aload_n (q := 20) dX11_isReady_19 rfl rfl rfl ?_
      refine V_getI (q := 23) fl_X11_307 rfl rfl rfl dX11_isReady_20 rfl ?_
      obtain ⟨v6, μ7, hc8, h⟩ := bd_i h
      refine V_cV0 (q := 26) (kX11_layTimes (d - 1) (by omega) hc8) (by omega) mv_X11_310 rfl rfl rfl rfl rfl rfl dX11_isReady_23 rfl ?_
      refine V_aload_n (q := 27) dX11_isReady_26 rfl rfl rfl ?_
      refine V_iload_n (q := 28) dX11_isReady_27 rfl rfl rfl ?_
      refine V_aload_n (q := 29) dX11_isReady_28 rfl rfl rfl ?_
      refine V_iconst (q := 30) dX11_isReady_29 rfl rfl ?_
      obtain ⟨v9, μ10, hc11, h⟩ := bd_i h
      refine V_cV1 (q := 33) (v := vI v9) (kX11_placeOf (d - 1) (by omega) hc11) (by omega) mv_X11_281 rfl rfl rfl rfl rfl rfl dX11_isReady_30 rfl ?_
      refine V_aload_n (q := 34) dX11_isReady_33 rfl rfl rfl ?_
      refine V_getI (q := 37) fl_X11_58 rfl rfl rfl dX11_isReady_34 rfl ?_
      obtain ⟨v12, μ13, hc14, h⟩ := bd_i h
      refine V_cV0 (q := 40) (kX11_lay (d - 1) (by omega) hc14) (by omega) mv_X11_322 rfl rfl rfl rfl rfl rfl dX11_isReady_37 rfl ?_
      refine V_iconst (q := 41) dX11_isReady_40 rfl rfl ?_
      exact V_zret rfl (Or.inr rfl) h dX11_isReady_41
    · have h := ifT hc5 h
      refine V_iconst (q := 16) dX11_isReady_15 rfl rfl ?_
      exact V_zret rfl (Or.inl rfl) h dX11_isReady_16
abbrev mX11_ten : Mth := (yX11_ten, cX11_ten, 3, some .int)
theorem mi_X11_ten : Cond.static yX11_ten ∈ tG ∧ Cond.initialized yX11_ten.cls ∈ tG ∧ Cond.code yX11_ten cX11_ten 3 (some .int) ∈ tG ∧ (yX11_ten.cls ≠ "java/lang/invoke/MethodHandle" ∧ yX11_ten.cls ≠ "java/lang/invoke/VarHandle" ∧ (parseMethodDescriptor yX11_ten.desc).map (fun d => d.parameters.length) = some 1) ∧ 3 ≤ 60 := ⟨(tG_of (List.mem_of_getElem? (i := 1578) (by decide +kernel)) (by decide +kernel)), (tG_of (List.mem_of_getElem? (i := 112) (by decide +kernel)) (by decide +kernel)), (tG_of (List.mem_of_getElem? (i := 1579) (by decide +kernel)) (by decide +kernel)), ⟨by decide, by decide, by decide +kernel⟩, by decide⟩
theorem mv_X11_326 : mS RX11 326 mX11_ten 1 := ⟨(tG_of (List.mem_of_getElem? (i := 1577) (by decide +kernel)) (by decide +kernel)), mi_X11_ten.1, (tG_of (List.mem_of_getElem? (i := 112) (by decide +kernel)) (by decide +kernel)), mi_X11_ten.2⟩
theorem dX11_ten_0 : decode cX11_ten 0 = .ok (.iconst 1, 1) := by decide +kernel
theorem dX11_ten_1 : decode cX11_ten 1 = .ok (.istore_n 1, 1) := by decide +kernel
theorem dX11_ten_2 : decode cX11_ten 2 = .ok (.iconst 0, 1) := by decide +kernel
theorem dX11_ten_3 : decode cX11_ten 3 = .ok (.istore_n 2, 1) := by decide +kernel
theorem dX11_ten_4 : decode cX11_ten 4 = .ok (.iload_n 2, 1) := by decide +kernel
theorem dX11_ten_5 : decode cX11_ten 5 = .ok (.iload_n 0, 1) := by decide +kernel
theorem dX11_ten_6 : decode cX11_ten 6 = .ok (.if_icmp .ge 14, 3) := by decide +kernel
theorem dX11_ten_9 : decode cX11_ten 9 = .ok (.iload_n 1, 1) := by decide +kernel
theorem dX11_ten_10 : decode cX11_ten 10 = .ok (.bipush 10, 2) := by decide +kernel
theorem dX11_ten_12 : decode cX11_ten 12 = .ok (.imul, 1) := by decide +kernel
theorem dX11_ten_13 : decode cX11_ten 13 = .ok (.istore_n 1, 1) := by decide +kernel
theorem dX11_ten_14 : decode cX11_ten 14 = .ok (.iinc 2 1, 3) := by decide +kernel
theorem dX11_ten_17 : decode cX11_ten 17 = .ok (.goto (-13), 3) := by decide +kernel
theorem dX11_ten_20 : decode cX11_ten 20 = .ok (.iload_n 1, 1) := by decide +kernel
theorem dX11_ten_21 : decode cX11_ten 21 = .ok (.ireturn, 1) := by decide +kernel
def X11_ten_L4 (l0 : Int) : Nat → Int → Int → Mm → Rs
  | 0, _, _, _ => none
  | n + 1, l1, l2, μ => if l0 ≤ l2 then (some (l1, μ)) else (X11_ten_L4 l0 n (iM l1 10) (iA l2 1) μ)
def X11_ten (l0 : Int) (μ : Mm) : Rs := X11_ten_L4 l0 FU 1 0 μ
set_option maxHeartbeats 4000000 in
set_option maxRecDepth 100000 in
theorem kX11_ten_L4 (d : Nat) (hd : 1 ≤ d) {l0 : Int} {r : Int} {μ' : Mm} : ∀ (n : Nat) {l1 l2 : Int} {μ : Mm}, X11_ten_L4 l0 n l1 l2 μ = some (r, μ') → VV d mX11_ten 4 [some (vI l0), some (vI l1), some (vI l2)] [] μ r μ' := by
  intro n
  induction n with
  | zero => intro l1 l2 μ h; rw [X11_ten_L4] at h; cases h
  | succ n ih =>
    intro l1 l2 μ h
    rw [X11_ten_L4] at h
    refine V_iload_n (q := 5) dX11_ten_4 rfl rfl rfl ?_
    refine V_iload_n (q := 6) dX11_ten_5 rfl rfl rfl ?_
    refine V_icmpge (q := 20) (q2 := 9) dX11_ten_6 (by decide) rfl (fun hc1 => ?_) (fun hc1 => ?_)
    · have h := ifT hc1 h
      refine V_iload_n (q := 21) dX11_ten_20 rfl rfl rfl ?_
      exact V_iret rfl h dX11_ten_21
    · have h := ifF hc1 h
      refine V_iload_n (q := 10) dX11_ten_9 rfl rfl rfl ?_
      refine V_bipush (q := 12) dX11_ten_10 rfl rfl rfl ?_
      refine V_imul (q := 13) dX11_ten_12 rfl ?_
      refine V_istore_n (q := 14) dX11_ten_13 rfl (Nat.le_of_ble_eq_true rfl) trivial rfl ?_
      refine V_iinc (q := 17) dX11_ten_14 rfl (Nat.le_of_ble_eq_true rfl) trivial rfl ?_
      refine V_goto (q := 4) dX11_ten_17 (by decide) ?_
      exact V_weak (ih h) (sb_s rfl (sb_s rfl (sb_s rfl sb_0)))
set_option maxHeartbeats 4000000 in
set_option maxRecDepth 100000 in
theorem kX11_ten (d : Nat) (hd : 1 ≤ d) {l0 : Int} {μ : Mm} {r : Int} {μ' : Mm} (h : X11_ten l0 μ = some (r, μ')) : CC d mX11_ten [vI l0] μ r μ' := by
  unfold X11_ten at h
  refine V_enter (by decide) (Nat.le_of_ble_eq_true rfl) ?_
  show VV d mX11_ten 0 [some (vI l0), none, none] [] μ r μ'
  refine V_iconst (q := 1) dX11_ten_0 rfl rfl ?_
  refine V_istore_n (q := 2) dX11_ten_1 rfl (Nat.le_of_ble_eq_true rfl) trivial rfl ?_
  refine V_iconst (q := 3) dX11_ten_2 rfl rfl ?_
  refine V_istore_n (q := 4) dX11_ten_3 rfl (Nat.le_of_ble_eq_true rfl) trivial rfl ?_
  exact V_weak (kX11_ten_L4 d hd  FU h) (sb_s rfl (sb_s rfl (sb_s rfl sb_0)))
abbrev mX11_nth : Mth := (yX11_nth, cX11_nth, 3, some .int)
theorem mi_X11_nth : Cond.instanceMethod yX11_nth ∈ tG ∧ Cond.selects yX11_nth.cls yX11_nth yX11_nth ∈ tG ∧ Cond.initialized yX11_nth.cls ∈ tG ∧ Cond.code yX11_nth cX11_nth 3 (some .int) ∈ tG ∧ (yX11_nth.cls ≠ "java/lang/invoke/MethodHandle" ∧ yX11_nth.cls ≠ "java/lang/invoke/VarHandle" ∧ (parseMethodDescriptor yX11_nth.desc).map (fun d => d.parameters.length) = some 2) ∧ 3 ≤ 60 := ⟨(tG_of (List.mem_of_getElem? (i := 1575) (by decide +kernel)) (by decide +kernel)), (tG_of (List.mem_of_getElem? (i := 85) (by decide +kernel)) (by decide +kernel)), (tG_of (List.mem_of_getElem? (i := 112) (by decide +kernel)) (by decide +kernel)), (tG_of (List.mem_of_getElem? (i := 1576) (by decide +kernel)) (by decide +kernel)), ⟨by decide, by decide, by decide +kernel⟩, by decide⟩
theorem mv_X11_329 : mV RX11 329 mX11_nth 2 := ⟨(tG_of (List.mem_of_getElem? (i := 1573) (by decide +kernel)) (by decide +kernel)), mi_X11_nth⟩
theorem dX11_nth_0 : decode cX11_nth 0 = .ok (.iload_n 1, 1) := by decide +kernel
theorem dX11_nth_1 : decode cX11_nth 1 = .ok (.aload_n 0, 1) := by decide +kernel
theorem dX11_nth_2 : decode cX11_nth 2 = .ok (.getfield 316, 3) := by decide +kernel
theorem dX11_nth_5 : decode cX11_nth 5 = .ok (.iconst 1, 1) := by decide +kernel
theorem dX11_nth_6 : decode cX11_nth 6 = .ok (.isub, 1) := by decide +kernel
theorem dX11_nth_7 : decode cX11_nth 7 = .ok (.iload_n 2, 1) := by decide +kernel
theorem dX11_nth_8 : decode cX11_nth 8 = .ok (.isub, 1) := by decide +kernel
theorem dX11_nth_9 : decode cX11_nth 9 = .ok (.invokestatic 326, 3) := by decide +kernel
theorem dX11_nth_12 : decode cX11_nth 12 = .ok (.idiv, 1) := by decide +kernel
theorem dX11_nth_13 : decode cX11_nth 13 = .ok (.bipush 10, 2) := by decide +kernel
theorem dX11_nth_15 : decode cX11_nth 15 = .ok (.irem, 1) := by decide +kernel
theorem dX11_nth_16 : decode cX11_nth 16 = .ok (.ireturn, 1) := by decide +kernel
def X11_nth (l1 : Int) (l2 : Int) (μ : Mm) : Rs := bd (X11_ten (iS (iS (μ 70 37) 1) l2) μ) fun v1 μ2 => dZ v1 (some (iR (iD l1 v1) 10, μ2))
set_option maxHeartbeats 4000000 in
set_option maxRecDepth 100000 in
theorem kX11_nth (d : Nat) (hd : 2 ≤ d) {l1 : Int} {l2 : Int} {μ : Mm} {r : Int} {μ' : Mm} (h : X11_nth l1 l2 μ = some (r, μ')) : CC d mX11_nth [vR 70, vI l1, vI l2] μ r μ' := by
  unfold X11_nth at h
  refine V_enter (by decide) (Nat.le_of_ble_eq_true rfl) ?_
  show VV d mX11_nth 0 [some (vR 70), some (vI l1), some (vI l2)] [] μ r μ'
  refine V_iload_n (q := 1) dX11_nth_0 rfl rfl rfl ?_
  refine V_aload_n (q := 2) dX11_nth_1 rfl rfl rfl ?_
  refine V_getI (q := 5) fl_X11_316 rfl rfl rfl dX11_nth_2 rfl ?_
  refine V_iconst (q := 6) dX11_nth_5 rfl rfl ?_
  refine V_isub (q := 7) dX11_nth_6 rfl ?_
  refine V_iload_n (q := 8) dX11_nth_7 rfl rfl rfl ?_
  refine V_isub (q := 9) dX11_nth_8 rfl ?_
  obtain ⟨v1, μ2, hc3, h⟩ := bd_i h
  refine V_cS1 (q := 12) (v := vI v1) (kX11_ten (d - 1) (by omega) hc3) (by omega) mv_X11_326 rfl rfl rfl rfl dX11_nth_9 rfl ?_
  obtain ⟨hz4, h⟩ := dZ_i h
  refine V_idiv (q := 13) dX11_nth_12 hz4 rfl ?_
  refine V_bipush (q := 15) dX11_nth_13 rfl rfl rfl ?_
  refine V_irem (q := 16) dX11_nth_15 (by decide) rfl ?_
  exact V_iret rfl h dX11_nth_16
abbrev mX11_isOrder : Mth := (yX11_isOrder, cX11_isOrder, 4, some .boolean)
theorem mi_X11_isOrder : Cond.instanceMethod yX11_isOrder ∈ tG ∧ Cond.selects yX11_isOrder.cls yX11_isOrder yX11_isOrder ∈ tG ∧ Cond.initialized yX11_isOrder.cls ∈ tG ∧ Cond.code yX11_isOrder cX11_isOrder 4 (some .boolean) ∈ tG ∧ (yX11_isOrder.cls ≠ "java/lang/invoke/MethodHandle" ∧ yX11_isOrder.cls ≠ "java/lang/invoke/VarHandle" ∧ (parseMethodDescriptor yX11_isOrder.desc).map (fun d => d.parameters.length) = some 1) ∧ 4 ≤ 60 := ⟨(tG_of (List.mem_of_getElem? (i := 1571) (by decide +kernel)) (by decide +kernel)), (tG_of (List.mem_of_getElem? (i := 84) (by decide +kernel)) (by decide +kernel)), (tG_of (List.mem_of_getElem? (i := 112) (by decide +kernel)) (by decide +kernel)), (tG_of (List.mem_of_getElem? (i := 1572) (by decide +kernel)) (by decide +kernel)), ⟨by decide, by decide, by decide +kernel⟩, by decide⟩
theorem mv_X11_338 : mV RX11 338 mX11_isOrder 1 := ⟨(tG_of (List.mem_of_getElem? (i := 1569) (by decide +kernel)) (by decide +kernel)), mi_X11_isOrder⟩
theorem dX11_isOrder_0 : decode cX11_isOrder 0 = .ok (.iconst 0, 1) := by decide +kernel
theorem dX11_isOrder_1 : decode cX11_isOrder 1 = .ok (.istore_n 2, 1) := by decide +kernel
theorem dX11_isOrder_2 : decode cX11_isOrder 2 = .ok (.iconst 0, 1) := by decide +kernel
theorem dX11_isOrder_3 : decode cX11_isOrder 3 = .ok (.istore_n 3, 1) := by decide +kernel
theorem dX11_isOrder_4 : decode cX11_isOrder 4 = .ok (.iload_n 3, 1) := by decide +kernel
theorem dX11_isOrder_5 : decode cX11_isOrder 5 = .ok (.aload_n 0, 1) := by decide +kernel
theorem dX11_isOrder_6 : decode cX11_isOrder 6 = .ok (.getfield 316, 3) := by decide +kernel
theorem dX11_isOrder_9 : decode cX11_isOrder 9 = .ok (.if_icmp .ge 20, 3) := by decide +kernel
theorem dX11_isOrder_12 : decode cX11_isOrder 12 = .ok (.iload_n 2, 1) := by decide +kernel
theorem dX11_isOrder_13 : decode cX11_isOrder 13 = .ok (.iconst 1, 1) := by decide +kernel
theorem dX11_isOrder_14 : decode cX11_isOrder 14 = .ok (.aload_n 0, 1) := by decide +kernel
theorem dX11_isOrder_15 : decode cX11_isOrder 15 = .ok (.iload_n 1, 1) := by decide +kernel
theorem dX11_isOrder_16 : decode cX11_isOrder 16 = .ok (.iload_n 3, 1) := by decide +kernel
theorem dX11_isOrder_17 : decode cX11_isOrder 17 = .ok (.invokevirtual 329, 3) := by decide +kernel
theorem dX11_isOrder_20 : decode cX11_isOrder 20 = .ok (.ishl, 1) := by decide +kernel
theorem dX11_isOrder_21 : decode cX11_isOrder 21 = .ok (.ior, 1) := by decide +kernel
theorem dX11_isOrder_22 : decode cX11_isOrder 22 = .ok (.istore_n 2, 1) := by decide +kernel
theorem dX11_isOrder_23 : decode cX11_isOrder 23 = .ok (.iinc 3 1, 3) := by decide +kernel
theorem dX11_isOrder_26 : decode cX11_isOrder 26 = .ok (.goto (-22), 3) := by decide +kernel
theorem dX11_isOrder_29 : decode cX11_isOrder 29 = .ok (.iload_n 1, 1) := by decide +kernel
theorem dX11_isOrder_30 : decode cX11_isOrder 30 = .ok (.iconst 0, 1) := by decide +kernel
theorem dX11_isOrder_31 : decode cX11_isOrder 31 = .ok (.aload_n 0, 1) := by decide +kernel
theorem dX11_isOrder_32 : decode cX11_isOrder 32 = .ok (.getfield 316, 3) := by decide +kernel
theorem dX11_isOrder_35 : decode cX11_isOrder 35 = .ok (.invokestatic 326, 3) := by decide +kernel
theorem dX11_isOrder_38 : decode cX11_isOrder 38 = .ok (.iconst 1, 1) := by decide +kernel
theorem dX11_isOrder_39 : decode cX11_isOrder 39 = .ok (.isub, 1) := by decide +kernel
theorem dX11_isOrder_40 : decode cX11_isOrder 40 = .ok (.invokestatic 213, 3) := by decide +kernel
theorem dX11_isOrder_43 : decode cX11_isOrder 43 = .ok (.ifCond .eq 19, 3) := by decide +kernel
theorem dX11_isOrder_46 : decode cX11_isOrder 46 = .ok (.iload_n 2, 1) := by decide +kernel
theorem dX11_isOrder_47 : decode cX11_isOrder 47 = .ok (.iconst 1, 1) := by decide +kernel
theorem dX11_isOrder_48 : decode cX11_isOrder 48 = .ok (.aload_n 0, 1) := by decide +kernel
theorem dX11_isOrder_49 : decode cX11_isOrder 49 = .ok (.getfield 316, 3) := by decide +kernel
theorem dX11_isOrder_52 : decode cX11_isOrder 52 = .ok (.ishl, 1) := by decide +kernel
theorem dX11_isOrder_53 : decode cX11_isOrder 53 = .ok (.iconst 1, 1) := by decide +kernel
theorem dX11_isOrder_54 : decode cX11_isOrder 54 = .ok (.isub, 1) := by decide +kernel
theorem dX11_isOrder_55 : decode cX11_isOrder 55 = .ok (.if_icmp .ne 7, 3) := by decide +kernel
theorem dX11_isOrder_58 : decode cX11_isOrder 58 = .ok (.iconst 1, 1) := by decide +kernel
theorem dX11_isOrder_59 : decode cX11_isOrder 59 = .ok (.goto 4, 3) := by decide +kernel
theorem dX11_isOrder_62 : decode cX11_isOrder 62 = .ok (.iconst 0, 1) := by decide +kernel
theorem dX11_isOrder_63 : decode cX11_isOrder 63 = .ok (.ireturn, 1) := by decide +kernel
def X11_isOrder_L4 (l1 : Int) (k29 : Int → Mm → Rs) : Nat → Int → Int → Mm → Rs
  | 0, _, _, _ => none
  | n + 1, l2, l3, μ => if (μ 70 37) ≤ l3 then (k29 l2 μ) else (bd (X11_nth l1 l3 μ) fun v2 μ3 => lt_ (bO l2 (bL 1 v2)) fun v5 => X11_isOrder_L4 l1 k29 n v5 (iA l3 1) μ3)
def X11_isOrder (l1 : Int) (μ : Mm) : Rs := X11_isOrder_L4 l1 (fun v6 μ7 => bd (X11_ten (μ7 70 37) μ7) fun v8 μ9 => bd (X11_in l1 0 (iS v8 1) μ9) fun v11 μ12 => if v11 = 0 then (some (0, μ12)) else (if v6 = (iS (bL 1 (μ12 70 37)) 1) then (some (1, μ12)) else (some (0, μ12)))) FU 0 0 μ
set_option maxHeartbeats 4000000 in
set_option maxRecDepth 100000 in
theorem kX11_isOrder_L4 (d : Nat) (hd : 3 ≤ d) {l1 : Int} {k29 : Int → Mm → Rs} {r : Int} {μ' : Mm} (hk_29 : ∀ (v2 : Int) (μ1 : Mm), k29 v2 μ1 = some (r, μ') → VV d mX11_isOrder 29 [some (vR 70), some (vI l1), some (vI v2), none] [] μ1 r μ') : ∀ (n : Nat) {l2 l3 : Int} {μ : Mm}, X11_isOrder_L4 l1 k29 n l2 l3 μ = some (r, μ') → VV d mX11_isOrder 4 [some (vR 70), some (vI l1), some (vI l2), some (vI l3)] [] μ r μ' := by
  intro n
  induction n with
  | zero => intro l2 l3 μ h; rw [X11_isOrder_L4] at h; cases h
  | succ n ih =>
    intro l2 l3 μ h
    rw [X11_isOrder_L4] at h
    refine V_iload_n (q := 5) dX11_isOrder_4 rfl rfl rfl ?_
    refine V_aload_n (q := 6) dX11_isOrder_5 rfl rfl rfl ?_
    refine V_getI (q := 9) fl_X11_316 rfl rfl rfl dX11_isOrder_6 rfl ?_
    refine V_icmpge (q := 29) (q2 := 12) dX11_isOrder_9 (by decide) rfl (fun hc1 => ?_) (fun hc1 => ?_)
    · have h := ifT hc1 h
      exact V_weak (hk_29 _ _ h) (sb_s rfl (sb_s rfl (sb_s rfl (sb_n sb_0))))
    · have h := ifF hc1 h
      refine V_iload_n (q := 13) dX11_isOrder_12 rfl rfl rfl ?_
      refine V_iconst (q := 14) dX11_isOrder_13 rfl rfl ?_
      refine V_aload_n (q := 15) dX11_isOrder_14 rfl rfl rfl ?_
      refine V_iload_n (q := 16) dX11_isOrder_15 rfl rfl rfl ?_
      refine V_iload_n (q := 17) dX11_isOrder_16 rfl rfl rfl ?_
      obtain ⟨v2, μ3, hc4, h⟩ := bd_i h
      refine V_cV1 (q := 20) (v := vI v2) (kX11_nth (d - 1) (by omega) hc4) (by omega) mv_X11_329 rfl rfl rfl rfl rfl rfl dX11_isOrder_17 rfl ?_
      refine V_ishl (q := 21) dX11_isOrder_20 rfl ?_
      refine V_ior (q := 22) dX11_isOrder_21 rfl ?_
      have h := lt_i h
      refine V_istore_n (q := 23) dX11_isOrder_22 rfl (Nat.le_of_ble_eq_true rfl) trivial rfl ?_
      refine V_iinc (q := 26) dX11_isOrder_23 rfl (Nat.le_of_ble_eq_true rfl) trivial rfl ?_
      refine V_goto (q := 4) dX11_isOrder_26 (by decide) ?_
      exact V_weak (ih h) (sb_s rfl (sb_s rfl (sb_s rfl (sb_s rfl sb_0))))
set_option maxHeartbeats 4000000 in
set_option maxRecDepth 100000 in
theorem kX11_isOrder (d : Nat) (hd : 3 ≤ d) {l1 : Int} {μ : Mm} {r : Int} {μ' : Mm} (h : X11_isOrder l1 μ = some (r, μ')) : CC d mX11_isOrder [vR 70, vI l1] μ r μ' := by
  unfold X11_isOrder at h
  refine V_enter (by decide) (Nat.le_of_ble_eq_true rfl) ?_
  show VV d mX11_isOrder 0 [some (vR 70), some (vI l1), none, none] [] μ r μ'
  refine V_iconst (q := 1) dX11_isOrder_0 rfl rfl ?_
  refine V_istore_n (q := 2) dX11_isOrder_1 rfl (Nat.le_of_ble_eq_true rfl) trivial rfl ?_
  refine V_iconst (q := 3) dX11_isOrder_2 rfl rfl ?_
  refine V_istore_n (q := 4) dX11_isOrder_3 rfl (Nat.le_of_ble_eq_true rfl) trivial rfl ?_
  refine V_weak (kX11_isOrder_L4 d hd (fun v6 μ7 h => ?_) FU h) (sb_s rfl (sb_s rfl (sb_s rfl (sb_s rfl sb_0))))
  refine V_iload_n (q := 30) dX11_isOrder_29 rfl rfl rfl ?_
  refine V_iconst (q := 31) dX11_isOrder_30 rfl rfl ?_
  refine V_aload_n (q := 32) dX11_isOrder_31 rfl rfl rfl ?_
  refine V_getI (q := 35) fl_X11_316 rfl rfl rfl dX11_isOrder_32 rfl ?_
  obtain ⟨v8, μ9, hc10, h⟩ := bd_i h
  refine V_cS1 (q := 38) (v := vI v8) (kX11_ten (d - 1) (by omega) hc10) (by omega) mv_X11_326 rfl rfl rfl rfl dX11_isOrder_35 rfl ?_
  refine V_iconst (q := 39) dX11_isOrder_38 rfl rfl ?_
  refine V_isub (q := 40) dX11_isOrder_39 rfl ?_
  obtain ⟨v11, μ12, hc13, h⟩ := bd_i h
  refine V_cS1 (q := 43) (v := vI v11) (kX11_in (d - 1) (by omega) hc13) (by omega) mv_X11_213 rfl rfl rfl rfl dX11_isOrder_40 rfl ?_
  refine V_ifeq (q := 62) (q2 := 46) dX11_isOrder_43 (by decide) rfl (fun hc14 => ?_) (fun hc14 => ?_)
  · have h := ifT hc14 h
    refine V_iconst (q := 63) dX11_isOrder_62 rfl rfl ?_
    exact V_zret rfl (Or.inl rfl) h dX11_isOrder_63
  · have h := ifF hc14 h
    refine V_iload_n (q := 47) dX11_isOrder_46 rfl rfl rfl ?_
    refine V_iconst (q := 48) dX11_isOrder_47 rfl rfl ?_
    refine V_aload_n (q := 49) dX11_isOrder_48 rfl rfl rfl ?_
    refine V_getI (q := 52) fl_X11_316 rfl rfl rfl dX11_isOrder_49 rfl ?_
    refine V_ishl (q := 53) dX11_isOrder_52 rfl ?_
    refine V_iconst (q := 54) dX11_isOrder_53 rfl rfl ?_
    refine V_isub (q := 55) dX11_isOrder_54 rfl ?_
    refine V_icmpne (q := 62) (q2 := 58) dX11_isOrder_55 (by decide) rfl (fun hc15 => ?_) (fun hc15 => ?_)
    · have h := ifF hc15 h
      refine V_iconst (q := 63) dX11_isOrder_62 rfl rfl ?_
      exact V_zret rfl (Or.inl rfl) h dX11_isOrder_63
    · have h := ifT hc15 h
      refine V_iconst (q := 59) dX11_isOrder_58 rfl rfl ?_
      refine V_goto (q := 63) dX11_isOrder_59 (by decide) ?_
      exact V_zret rfl (Or.inr rfl) h dX11_isOrder_63
abbrev mX11_go : Mth := (yX11_go, cX11_go, 6, some .boolean)
theorem mi_X11_go : Cond.instanceMethod yX11_go ∈ tG ∧ Cond.selects yX11_go.cls yX11_go yX11_go ∈ tG ∧ Cond.initialized yX11_go.cls ∈ tG ∧ Cond.code yX11_go cX11_go 6 (some .boolean) ∈ tG ∧ (yX11_go.cls ≠ "java/lang/invoke/MethodHandle" ∧ yX11_go.cls ≠ "java/lang/invoke/VarHandle" ∧ (parseMethodDescriptor yX11_go.desc).map (fun d => d.parameters.length) = some 1) ∧ 6 ≤ 60 := ⟨(tG_of (List.mem_of_getElem? (i := 1582) (by decide +kernel)) (by decide +kernel)), (tG_of (List.mem_of_getElem? (i := 86) (by decide +kernel)) (by decide +kernel)), (tG_of (List.mem_of_getElem? (i := 112) (by decide +kernel)) (by decide +kernel)), (tG_of (List.mem_of_getElem? (i := 1583) (by decide +kernel)) (by decide +kernel)), ⟨by decide, by decide, by decide +kernel⟩, by decide⟩
theorem mv_X11_341 : mV RX11 341 mX11_go 1 := ⟨(tG_of (List.mem_of_getElem? (i := 1580) (by decide +kernel)) (by decide +kernel)), mi_X11_go⟩
theorem dX11_go_0 : decode cX11_go 0 = .ok (.aload_n 0, 1) := by decide +kernel
theorem dX11_go_1 : decode cX11_go 1 = .ok (.getfield 316, 3) := by decide +kernel
theorem dX11_go_4 : decode cX11_go 4 = .ok (.istore_n 2, 1) := by decide +kernel
theorem dX11_go_5 : decode cX11_go 5 = .ok (.iconst 0, 1) := by decide +kernel
theorem dX11_go_6 : decode cX11_go 6 = .ok (.istore_n 3, 1) := by decide +kernel
theorem dX11_go_7 : decode cX11_go 7 = .ok (.iconst 0, 1) := by decide +kernel
theorem dX11_go_8 : decode cX11_go 8 = .ok (.istore 4, 2) := by decide +kernel
theorem dX11_go_10 : decode cX11_go 10 = .ok (.iload 4, 2) := by decide +kernel
theorem dX11_go_12 : decode cX11_go 12 = .ok (.aload_n 0, 1) := by decide +kernel
theorem dX11_go_13 : decode cX11_go 13 = .ok (.getfield 316, 3) := by decide +kernel
theorem dX11_go_16 : decode cX11_go 16 = .ok (.if_icmp .ge 99, 3) := by decide +kernel
theorem dX11_go_19 : decode cX11_go 19 = .ok (.aload_n 0, 1) := by decide +kernel
theorem dX11_go_20 : decode cX11_go 20 = .ok (.iload_n 1, 1) := by decide +kernel
theorem dX11_go_21 : decode cX11_go 21 = .ok (.iload 4, 2) := by decide +kernel
theorem dX11_go_23 : decode cX11_go 23 = .ok (.invokevirtual 329, 3) := by decide +kernel
theorem dX11_go_26 : decode cX11_go 26 = .ok (.istore 5, 2) := by decide +kernel
theorem dX11_go_28 : decode cX11_go 28 = .ok (.aload_n 0, 1) := by decide +kernel
theorem dX11_go_29 : decode cX11_go 29 = .ok (.getfield 71, 3) := by decide +kernel
theorem dX11_go_32 : decode cX11_go 32 = .ok (.bipush 8, 2) := by decide +kernel
theorem dX11_go_34 : decode cX11_go 34 = .ok (.iload_n 2, 1) := by decide +kernel
theorem dX11_go_35 : decode cX11_go 35 = .ok (.imul, 1) := by decide +kernel
theorem dX11_go_36 : decode cX11_go 36 = .ok (.iload 5, 2) := by decide +kernel
theorem dX11_go_38 : decode cX11_go 38 = .ok (.iadd, 1) := by decide +kernel
theorem dX11_go_39 : decode cX11_go 39 = .ok (.iaload, 1) := by decide +kernel
theorem dX11_go_40 : decode cX11_go 40 = .ok (.iconst (-1), 1) := by decide +kernel
theorem dX11_go_41 : decode cX11_go 41 = .ok (.if_icmp .ne 5, 3) := by decide +kernel
theorem dX11_go_44 : decode cX11_go 44 = .ok (.iconst 0, 1) := by decide +kernel
theorem dX11_go_45 : decode cX11_go 45 = .ok (.ireturn, 1) := by decide +kernel
theorem dX11_go_46 : decode cX11_go 46 = .ok (.aload_n 0, 1) := by decide +kernel
theorem dX11_go_47 : decode cX11_go 47 = .ok (.getfield 77, 3) := by decide +kernel
theorem dX11_go_50 : decode cX11_go 50 = .ok (.iload 5, 2) := by decide +kernel
theorem dX11_go_52 : decode cX11_go 52 = .ok (.iload_n 3, 1) := by decide +kernel
theorem dX11_go_53 : decode cX11_go 53 = .ok (.aload_n 0, 1) := by decide +kernel
theorem dX11_go_54 : decode cX11_go 54 = .ok (.getfield 71, 3) := by decide +kernel
theorem dX11_go_57 : decode cX11_go 57 = .ok (.bipush 8, 2) := by decide +kernel
theorem dX11_go_59 : decode cX11_go 59 = .ok (.iload_n 2, 1) := by decide +kernel
theorem dX11_go_60 : decode cX11_go 60 = .ok (.imul, 1) := by decide +kernel
theorem dX11_go_61 : decode cX11_go 61 = .ok (.iload 5, 2) := by decide +kernel
theorem dX11_go_63 : decode cX11_go 63 = .ok (.iadd, 1) := by decide +kernel
theorem dX11_go_64 : decode cX11_go 64 = .ok (.iaload, 1) := by decide +kernel
theorem dX11_go_65 : decode cX11_go 65 = .ok (.aload_n 0, 1) := by decide +kernel
theorem dX11_go_66 : decode cX11_go 66 = .ok (.getfield 319, 3) := by decide +kernel
theorem dX11_go_69 : decode cX11_go 69 = .ok (.imul, 1) := by decide +kernel
theorem dX11_go_70 : decode cX11_go 70 = .ok (.iadd, 1) := by decide +kernel
theorem dX11_go_71 : decode cX11_go 71 = .ok (.iastore, 1) := by decide +kernel
theorem dX11_go_72 : decode cX11_go 72 = .ok (.aload_n 0, 1) := by decide +kernel
theorem dX11_go_73 : decode cX11_go 73 = .ok (.getfield 77, 3) := by decide +kernel
theorem dX11_go_76 : decode cX11_go 76 = .ok (.iload 5, 2) := by decide +kernel
theorem dX11_go_78 : decode cX11_go 78 = .ok (.iaload, 1) := by decide +kernel
theorem dX11_go_79 : decode cX11_go 79 = .ok (.aload_n 0, 1) := by decide +kernel
theorem dX11_go_80 : decode cX11_go 80 = .ok (.getfield 74, 3) := by decide +kernel
theorem dX11_go_83 : decode cX11_go 83 = .ok (.iload 5, 2) := by decide +kernel
theorem dX11_go_85 : decode cX11_go 85 = .ok (.iaload, 1) := by decide +kernel
theorem dX11_go_86 : decode cX11_go 86 = .ok (.iadd, 1) := by decide +kernel
theorem dX11_go_87 : decode cX11_go 87 = .ok (.aload_n 0, 1) := by decide +kernel
theorem dX11_go_88 : decode cX11_go 88 = .ok (.getfield 68, 3) := by decide +kernel
theorem dX11_go_91 : decode cX11_go 91 = .ok (.iload 5, 2) := by decide +kernel
theorem dX11_go_93 : decode cX11_go 93 = .ok (.iaload, 1) := by decide +kernel
theorem dX11_go_94 : decode cX11_go 94 = .ok (.invokestatic 302, 3) := by decide +kernel
theorem dX11_go_97 : decode cX11_go 97 = .ok (.istore_n 3, 1) := by decide +kernel
theorem dX11_go_98 : decode cX11_go 98 = .ok (.aload_n 0, 1) := by decide +kernel
theorem dX11_go_99 : decode cX11_go 99 = .ok (.getfield 80, 3) := by decide +kernel
theorem dX11_go_102 : decode cX11_go 102 = .ok (.iload 5, 2) := by decide +kernel
theorem dX11_go_104 : decode cX11_go 104 = .ok (.iload_n 3, 1) := by decide +kernel
theorem dX11_go_105 : decode cX11_go 105 = .ok (.iastore, 1) := by decide +kernel
theorem dX11_go_106 : decode cX11_go 106 = .ok (.iload 5, 2) := by decide +kernel
theorem dX11_go_108 : decode cX11_go 108 = .ok (.istore_n 2, 1) := by decide +kernel
theorem dX11_go_109 : decode cX11_go 109 = .ok (.iinc 4 1, 3) := by decide +kernel
theorem dX11_go_112 : decode cX11_go 112 = .ok (.goto (-102), 3) := by decide +kernel
theorem dX11_go_115 : decode cX11_go 115 = .ok (.iconst 1, 1) := by decide +kernel
theorem dX11_go_116 : decode cX11_go 116 = .ok (.ireturn, 1) := by decide +kernel
def X11_go_L10 (l1 : Int) : Nat → Int → Int → Int → Mm → Rs
  | 0, _, _, _, _ => none
  | n + 1, l2, l3, l4, μ => if (μ 70 37) ≤ l4 then (some (1, μ)) else (bd (X11_nth l1 l4 μ) fun v2 μ3 => ldA μ3 89 (iA (iM 8 l2) v2) fun v5 => if v5 = (-1) then (some (0, μ3)) else (ldA μ3 89 (iA (iM 8 l2) v2) fun v8 => stA μ3 91 v2 (iA l3 (iM v8 (μ3 70 38))) fun μ10 => ldA μ10 91 v2 fun v12 => ldA μ10 90 v2 fun v14 => ldA μ10 88 v2 fun v16 => bd (J9_max_7cf53 (iA v12 v14) v16 μ10) fun v18 μ19 => stA μ19 92 v2 v18 fun μ21 => X11_go_L10 l1 n v2 v18 (iA l4 1) μ21))
def X11_go (l1 : Int) (μ : Mm) : Rs := X11_go_L10 l1 FU (μ 70 37) 0 0 μ
set_option maxHeartbeats 4000000 in
set_option maxRecDepth 100000 in
theorem kX11_go_L10 (d : Nat) (hd : 3 ≤ d) {l1 : Int} {r : Int} {μ' : Mm} : ∀ (n : Nat) {l2 l3 l4 : Int} {μ : Mm}, X11_go_L10 l1 n l2 l3 l4 μ = some (r, μ') → VV d mX11_go 10 [some (vR 70), some (vI l1), some (vI l2), some (vI l3), some (vI l4), none] [] μ r μ' := by
  intro n
  induction n with
  | zero => intro l2 l3 l4 μ h; rw [X11_go_L10] at h; cases h
  | succ n ih =>
    intro l2 l3 l4 μ h
    rw [X11_go_L10] at h
    refine V_iload (q := 12) dX11_go_10 rfl rfl ?_
    refine V_aload_n (q := 13) dX11_go_12 rfl rfl rfl ?_
    refine V_getI (q := 16) fl_X11_316 rfl rfl rfl dX11_go_13 rfl ?_
    refine V_icmpge (q := 115) (q2 := 19) dX11_go_16 (by decide) rfl (fun hc1 => ?_) (fun hc1 => ?_)
    · have h := ifT hc1 h
      refine V_iconst (q := 116) dX11_go_115 rfl rfl ?_
      exact V_zret rfl (Or.inr rfl) h dX11_go_116
    · have h := ifF hc1 h
      refine V_aload_n (q := 20) dX11_go_19 rfl rfl rfl ?_
      refine V_iload_n (q := 21) dX11_go_20 rfl rfl rfl ?_
      refine V_iload (q := 23) dX11_go_21 rfl rfl ?_
      obtain ⟨v2, μ3, hc4, h⟩ := bd_i h
      refine V_cV1 (q := 26) (v := vI v2) (kX11_nth (d - 1) (by omega) hc4) (by omega) mv_X11_329 rfl rfl rfl rfl rfl rfl dX11_go_23 rfl ?_
      refine V_istore (q := 28) dX11_go_26 (Nat.le_of_ble_eq_true rfl) trivial rfl ?_
      refine V_aload_n (q := 29) dX11_go_28 rfl rfl rfl ?_
      refine V_getO (q := 32) (t := 89) fl_X11_71 rfl rfl rfl rfl dX11_go_29 rfl ?_
      refine V_bipush (q := 34) dX11_go_32 rfl rfl rfl ?_
      refine V_iload_n (q := 35) dX11_go_34 rfl rfl rfl ?_
      refine V_imul (q := 36) dX11_go_35 rfl ?_
      refine V_iload (q := 38) dX11_go_36 rfl rfl ?_
      refine V_iadd (q := 39) dX11_go_38 rfl ?_
      obtain ⟨hi6, h⟩ := ldA_i h
      refine V_iaload (q := 40) rfl hi6 dX11_go_39 rfl ?_
      refine V_iconst (q := 41) dX11_go_40 rfl rfl ?_
      refine V_icmpne (q := 46) (q2 := 44) dX11_go_41 (by decide) rfl (fun hc7 => ?_) (fun hc7 => ?_)
      · have h := ifF hc7 h
        refine V_aload_n (q := 47) dX11_go_46 rfl rfl rfl ?_
        refine V_getO (q := 50) (t := 91) fl_X11_77 rfl rfl rfl rfl dX11_go_47 rfl ?_
        refine V_iload (q := 52) dX11_go_50 rfl rfl ?_
        refine V_iload_n (q := 53) dX11_go_52 rfl rfl rfl ?_
        refine V_aload_n (q := 54) dX11_go_53 rfl rfl rfl ?_
        refine V_getO (q := 57) (t := 89) fl_X11_71 rfl rfl rfl rfl dX11_go_54 rfl ?_
        refine V_bipush (q := 59) dX11_go_57 rfl rfl rfl ?_
        refine V_iload_n (q := 60) dX11_go_59 rfl rfl rfl ?_
        refine V_imul (q := 61) dX11_go_60 rfl ?_
        refine V_iload (q := 63) dX11_go_61 rfl rfl ?_
        refine V_iadd (q := 64) dX11_go_63 rfl ?_
        obtain ⟨hi9, h⟩ := ldA_i h
        refine V_iaload (q := 65) rfl hi9 dX11_go_64 rfl ?_
        refine V_aload_n (q := 66) dX11_go_65 rfl rfl rfl ?_
        refine V_getI (q := 69) fl_X11_319 rfl rfl rfl dX11_go_66 rfl ?_
        refine V_imul (q := 70) dX11_go_69 rfl ?_
        refine V_iadd (q := 71) dX11_go_70 rfl ?_
        obtain ⟨hi11, h⟩ := stA_i h
        refine V_iastore (q := 72) rfl hi11 dX11_go_71 rfl ?_
        refine V_aload_n (q := 73) dX11_go_72 rfl rfl rfl ?_
        refine V_getO (q := 76) (t := 91) fl_X11_77 rfl rfl rfl rfl dX11_go_73 rfl ?_
        refine V_iload (q := 78) dX11_go_76 rfl rfl ?_
        obtain ⟨hi13, h⟩ := ldA_i h
        refine V_iaload (q := 79) rfl hi13 dX11_go_78 rfl ?_
        refine V_aload_n (q := 80) dX11_go_79 rfl rfl rfl ?_
        refine V_getO (q := 83) (t := 90) fl_X11_74 rfl rfl rfl rfl dX11_go_80 rfl ?_
        refine V_iload (q := 85) dX11_go_83 rfl rfl ?_
        obtain ⟨hi15, h⟩ := ldA_i h
        refine V_iaload (q := 86) rfl hi15 dX11_go_85 rfl ?_
        refine V_iadd (q := 87) dX11_go_86 rfl ?_
        refine V_aload_n (q := 88) dX11_go_87 rfl rfl rfl ?_
        refine V_getO (q := 91) (t := 88) fl_X11_68 rfl rfl rfl rfl dX11_go_88 rfl ?_
        refine V_iload (q := 93) dX11_go_91 rfl rfl ?_
        obtain ⟨hi17, h⟩ := ldA_i h
        refine V_iaload (q := 94) rfl hi17 dX11_go_93 rfl ?_
        obtain ⟨v18, μ19, hc20, h⟩ := bd_i h
        refine V_cS1 (q := 97) (v := vI v18) (kJ9_max_7cf53 (d - 1) (by omega) hc20) (by omega) mv_X11_302 rfl rfl rfl rfl dX11_go_94 rfl ?_
        refine V_istore_n (q := 98) dX11_go_97 rfl (Nat.le_of_ble_eq_true rfl) trivial rfl ?_
        refine V_aload_n (q := 99) dX11_go_98 rfl rfl rfl ?_
        refine V_getO (q := 102) (t := 92) fl_X11_80 rfl rfl rfl rfl dX11_go_99 rfl ?_
        refine V_iload (q := 104) dX11_go_102 rfl rfl ?_
        refine V_iload_n (q := 105) dX11_go_104 rfl rfl rfl ?_
        obtain ⟨hi22, h⟩ := stA_i h
        refine V_iastore (q := 106) rfl hi22 dX11_go_105 rfl ?_
        refine V_iload (q := 108) dX11_go_106 rfl rfl ?_
        refine V_istore_n (q := 109) dX11_go_108 rfl (Nat.le_of_ble_eq_true rfl) trivial rfl ?_
        refine V_iinc (q := 112) dX11_go_109 rfl (Nat.le_of_ble_eq_true rfl) trivial rfl ?_
        refine V_goto (q := 10) dX11_go_112 (by decide) ?_
        exact V_weak (ih h) (sb_s rfl (sb_s rfl (sb_s rfl (sb_s rfl (sb_s rfl (sb_n sb_0))))))
      · have h := ifT hc7 h
        refine V_iconst (q := 45) dX11_go_44 rfl rfl ?_
        exact V_zret rfl (Or.inl rfl) h dX11_go_45
set_option maxHeartbeats 4000000 in
set_option maxRecDepth 100000 in
theorem kX11_go (d : Nat) (hd : 3 ≤ d) {l1 : Int} {μ : Mm} {r : Int} {μ' : Mm} (h : X11_go l1 μ = some (r, μ')) : CC d mX11_go [vR 70, vI l1] μ r μ' := by
  unfold X11_go at h
  refine V_enter (by decide) (Nat.le_of_ble_eq_true rfl) ?_
  show VV d mX11_go 0 [some (vR 70), some (vI l1), none, none, none, none] [] μ r μ'
  refine V_aload_n (q := 1) dX11_go_0 rfl rfl rfl ?_
  refine V_getI (q := 4) fl_X11_316 rfl rfl rfl dX11_go_1 rfl ?_
  refine V_istore_n (q := 5) dX11_go_4 rfl (Nat.le_of_ble_eq_true rfl) trivial rfl ?_
  refine V_iconst (q := 6) dX11_go_5 rfl rfl ?_
  refine V_istore_n (q := 7) dX11_go_6 rfl (Nat.le_of_ble_eq_true rfl) trivial rfl ?_
  refine V_iconst (q := 8) dX11_go_7 rfl rfl ?_
  refine V_istore (q := 10) dX11_go_8 (Nat.le_of_ble_eq_true rfl) trivial rfl ?_
  exact V_weak (kX11_go_L10 d hd  FU h) (sb_s rfl (sb_s rfl (sb_s rfl (sb_s rfl (sb_s rfl (sb_n sb_0))))))
abbrev mX11_late : Mth := (yX11_late, cX11_late, 2, some .int)
theorem mi_X11_late : Cond.instanceMethod yX11_late ∈ tG ∧ Cond.selects yX11_late.cls yX11_late yX11_late ∈ tG ∧ Cond.initialized yX11_late.cls ∈ tG ∧ Cond.code yX11_late cX11_late 2 (some .int) ∈ tG ∧ (yX11_late.cls ≠ "java/lang/invoke/MethodHandle" ∧ yX11_late.cls ≠ "java/lang/invoke/VarHandle" ∧ (parseMethodDescriptor yX11_late.desc).map (fun d => d.parameters.length) = some 1) ∧ 2 ≤ 60 := ⟨(tG_of (List.mem_of_getElem? (i := 1590) (by decide +kernel)) (by decide +kernel)), (tG_of (List.mem_of_getElem? (i := 88) (by decide +kernel)) (by decide +kernel)), (tG_of (List.mem_of_getElem? (i := 112) (by decide +kernel)) (by decide +kernel)), (tG_of (List.mem_of_getElem? (i := 1591) (by decide +kernel)) (by decide +kernel)), ⟨by decide, by decide, by decide +kernel⟩, by decide⟩
theorem mv_X11_332 : mV RX11 332 mX11_late 1 := ⟨(tG_of (List.mem_of_getElem? (i := 1588) (by decide +kernel)) (by decide +kernel)), mi_X11_late⟩
theorem dX11_late_0 : decode cX11_late 0 = .ok (.iconst 0, 1) := by decide +kernel
theorem dX11_late_1 : decode cX11_late 1 = .ok (.aload_n 0, 1) := by decide +kernel
theorem dX11_late_2 : decode cX11_late 2 = .ok (.getfield 80, 3) := by decide +kernel
theorem dX11_late_5 : decode cX11_late 5 = .ok (.iload_n 1, 1) := by decide +kernel
theorem dX11_late_6 : decode cX11_late 6 = .ok (.iaload, 1) := by decide +kernel
theorem dX11_late_7 : decode cX11_late 7 = .ok (.aload_n 0, 1) := by decide +kernel
theorem dX11_late_8 : decode cX11_late 8 = .ok (.getfield 68, 3) := by decide +kernel
theorem dX11_late_11 : decode cX11_late 11 = .ok (.iload_n 1, 1) := by decide +kernel
theorem dX11_late_12 : decode cX11_late 12 = .ok (.iaload, 1) := by decide +kernel
theorem dX11_late_13 : decode cX11_late 13 = .ok (.isub, 1) := by decide +kernel
theorem dX11_late_14 : decode cX11_late 14 = .ok (.invokestatic 302, 3) := by decide +kernel
theorem dX11_late_17 : decode cX11_late 17 = .ok (.ireturn, 1) := by decide +kernel
def X11_late (l1 : Int) (μ : Mm) : Rs := ldA μ 92 l1 fun v1 => ldA μ 88 l1 fun v3 => bd (J9_max_7cf53 0 (iS v1 v3) μ) fun v5 μ6 => some (v5, μ6)
set_option maxHeartbeats 4000000 in
set_option maxRecDepth 100000 in
theorem kX11_late (d : Nat) (hd : 2 ≤ d) {l1 : Int} {μ : Mm} {r : Int} {μ' : Mm} (h : X11_late l1 μ = some (r, μ')) : CC d mX11_late [vR 70, vI l1] μ r μ' := by
  unfold X11_late at h
  refine V_enter (by decide) (Nat.le_of_ble_eq_true rfl) ?_
  show VV d mX11_late 0 [some (vR 70), some (vI l1)] [] μ r μ'
  refine V_iconst (q := 1) dX11_late_0 rfl rfl ?_
  refine V_aload_n (q := 2) dX11_late_1 rfl rfl rfl ?_
  refine V_getO (q := 5) (t := 92) fl_X11_80 rfl rfl rfl rfl dX11_late_2 rfl ?_
  refine V_iload_n (q := 6) dX11_late_5 rfl rfl rfl ?_
  obtain ⟨hi2, h⟩ := ldA_i h
  refine V_iaload (q := 7) rfl hi2 dX11_late_6 rfl ?_
  refine V_aload_n (q := 8) dX11_late_7 rfl rfl rfl ?_
  refine V_getO (q := 11) (t := 88) fl_X11_68 rfl rfl rfl rfl dX11_late_8 rfl ?_
  refine V_iload_n (q := 12) dX11_late_11 rfl rfl rfl ?_
  obtain ⟨hi4, h⟩ := ldA_i h
  refine V_iaload (q := 13) rfl hi4 dX11_late_12 rfl ?_
  refine V_isub (q := 14) dX11_late_13 rfl ?_
  obtain ⟨v5, μ6, hc7, h⟩ := bd_i h
  refine V_cS1 (q := 17) (v := vI v5) (kJ9_max_7cf53 (d - 1) (by omega) hc7) (by omega) mv_X11_302 rfl rfl rfl rfl dX11_late_14 rfl ?_
  exact V_iret rfl h dX11_late_17
abbrev mX11_tellOf : Mth := (yX11_tellOf, cX11_tellOf, 7, some .int)
theorem mi_X11_tellOf : Cond.instanceMethod yX11_tellOf ∈ tG ∧ Cond.selects yX11_tellOf.cls yX11_tellOf yX11_tellOf ∈ tG ∧ Cond.initialized yX11_tellOf.cls ∈ tG ∧ Cond.code yX11_tellOf cX11_tellOf 7 (some .int) ∈ tG ∧ (yX11_tellOf.cls ≠ "java/lang/invoke/MethodHandle" ∧ yX11_tellOf.cls ≠ "java/lang/invoke/VarHandle" ∧ (parseMethodDescriptor yX11_tellOf.desc).map (fun d => d.parameters.length) = some 2) ∧ 7 ≤ 60 := ⟨(tG_of (List.mem_of_getElem? (i := 1586) (by decide +kernel)) (by decide +kernel)), (tG_of (List.mem_of_getElem? (i := 87) (by decide +kernel)) (by decide +kernel)), (tG_of (List.mem_of_getElem? (i := 112) (by decide +kernel)) (by decide +kernel)), (tG_of (List.mem_of_getElem? (i := 1587) (by decide +kernel)) (by decide +kernel)), ⟨by decide, by decide, by decide +kernel⟩, by decide⟩
theorem mv_X11_344 : mV RX11 344 mX11_tellOf 2 := ⟨(tG_of (List.mem_of_getElem? (i := 1584) (by decide +kernel)) (by decide +kernel)), mi_X11_tellOf⟩
theorem dX11_tellOf_0 : decode cX11_tellOf 0 = .ok (.iconst 0, 1) := by decide +kernel
theorem dX11_tellOf_1 : decode cX11_tellOf 1 = .ok (.istore_n 3, 1) := by decide +kernel
theorem dX11_tellOf_2 : decode cX11_tellOf 2 = .ok (.iconst 0, 1) := by decide +kernel
theorem dX11_tellOf_3 : decode cX11_tellOf 3 = .ok (.istore 4, 2) := by decide +kernel
theorem dX11_tellOf_5 : decode cX11_tellOf 5 = .ok (.iconst 0, 1) := by decide +kernel
theorem dX11_tellOf_6 : decode cX11_tellOf 6 = .ok (.istore 5, 2) := by decide +kernel
theorem dX11_tellOf_8 : decode cX11_tellOf 8 = .ok (.iconst 0, 1) := by decide +kernel
theorem dX11_tellOf_9 : decode cX11_tellOf 9 = .ok (.istore 6, 2) := by decide +kernel
theorem dX11_tellOf_11 : decode cX11_tellOf 11 = .ok (.iload 6, 2) := by decide +kernel
theorem dX11_tellOf_13 : decode cX11_tellOf 13 = .ok (.aload_n 0, 1) := by decide +kernel
theorem dX11_tellOf_14 : decode cX11_tellOf 14 = .ok (.getfield 316, 3) := by decide +kernel
theorem dX11_tellOf_17 : decode cX11_tellOf 17 = .ok (.if_icmp .ge 50, 3) := by decide +kernel
theorem dX11_tellOf_20 : decode cX11_tellOf 20 = .ok (.iload_n 3, 1) := by decide +kernel
theorem dX11_tellOf_21 : decode cX11_tellOf 21 = .ok (.aload_n 0, 1) := by decide +kernel
theorem dX11_tellOf_22 : decode cX11_tellOf 22 = .ok (.iload 6, 2) := by decide +kernel
theorem dX11_tellOf_24 : decode cX11_tellOf 24 = .ok (.invokevirtual 332, 3) := by decide +kernel
theorem dX11_tellOf_27 : decode cX11_tellOf 27 = .ok (.iadd, 1) := by decide +kernel
theorem dX11_tellOf_28 : decode cX11_tellOf 28 = .ok (.istore_n 3, 1) := by decide +kernel
theorem dX11_tellOf_29 : decode cX11_tellOf 29 = .ok (.iload 4, 2) := by decide +kernel
theorem dX11_tellOf_31 : decode cX11_tellOf 31 = .ok (.aload_n 0, 1) := by decide +kernel
theorem dX11_tellOf_32 : decode cX11_tellOf 32 = .ok (.iload 6, 2) := by decide +kernel
theorem dX11_tellOf_34 : decode cX11_tellOf 34 = .ok (.invokevirtual 332, 3) := by decide +kernel
theorem dX11_tellOf_37 : decode cX11_tellOf 37 = .ok (.invokestatic 302, 3) := by decide +kernel
theorem dX11_tellOf_40 : decode cX11_tellOf 40 = .ok (.istore 4, 2) := by decide +kernel
theorem dX11_tellOf_42 : decode cX11_tellOf 42 = .ok (.iload 5, 2) := by decide +kernel
theorem dX11_tellOf_44 : decode cX11_tellOf 44 = .ok (.aload_n 0, 1) := by decide +kernel
theorem dX11_tellOf_45 : decode cX11_tellOf 45 = .ok (.iload 6, 2) := by decide +kernel
theorem dX11_tellOf_47 : decode cX11_tellOf 47 = .ok (.invokevirtual 332, 3) := by decide +kernel
theorem dX11_tellOf_50 : decode cX11_tellOf 50 = .ok (.ifCond .le 7, 3) := by decide +kernel
theorem dX11_tellOf_53 : decode cX11_tellOf 53 = .ok (.iconst 1, 1) := by decide +kernel
theorem dX11_tellOf_54 : decode cX11_tellOf 54 = .ok (.goto 4, 3) := by decide +kernel
theorem dX11_tellOf_57 : decode cX11_tellOf 57 = .ok (.iconst 0, 1) := by decide +kernel
theorem dX11_tellOf_58 : decode cX11_tellOf 58 = .ok (.iadd, 1) := by decide +kernel
theorem dX11_tellOf_59 : decode cX11_tellOf 59 = .ok (.istore 5, 2) := by decide +kernel
theorem dX11_tellOf_61 : decode cX11_tellOf 61 = .ok (.iinc 6 1, 3) := by decide +kernel
theorem dX11_tellOf_64 : decode cX11_tellOf 64 = .ok (.goto (-53), 3) := by decide +kernel
theorem dX11_tellOf_67 : decode cX11_tellOf 67 = .ok (.iload_n 2, 1) := by decide +kernel
theorem dX11_tellOf_68 : decode cX11_tellOf 68 = .ok (.ifCond .ne 7, 3) := by decide +kernel
theorem dX11_tellOf_71 : decode cX11_tellOf 71 = .ok (.iload_n 3, 1) := by decide +kernel
theorem dX11_tellOf_72 : decode cX11_tellOf 72 = .ok (.goto 32, 3) := by decide +kernel
theorem dX11_tellOf_75 : decode cX11_tellOf 75 = .ok (.iload_n 2, 1) := by decide +kernel
theorem dX11_tellOf_76 : decode cX11_tellOf 76 = .ok (.iconst 1, 1) := by decide +kernel
theorem dX11_tellOf_77 : decode cX11_tellOf 77 = .ok (.if_icmp .ne 8, 3) := by decide +kernel
theorem dX11_tellOf_80 : decode cX11_tellOf 80 = .ok (.iload 4, 2) := by decide +kernel
theorem dX11_tellOf_82 : decode cX11_tellOf 82 = .ok (.goto 22, 3) := by decide +kernel
theorem dX11_tellOf_85 : decode cX11_tellOf 85 = .ok (.iload_n 2, 1) := by decide +kernel
theorem dX11_tellOf_86 : decode cX11_tellOf 86 = .ok (.iconst 2, 1) := by decide +kernel
theorem dX11_tellOf_87 : decode cX11_tellOf 87 = .ok (.if_icmp .ne 8, 3) := by decide +kernel
theorem dX11_tellOf_90 : decode cX11_tellOf 90 = .ok (.iload 5, 2) := by decide +kernel
theorem dX11_tellOf_92 : decode cX11_tellOf 92 = .ok (.goto 12, 3) := by decide +kernel
theorem dX11_tellOf_95 : decode cX11_tellOf 95 = .ok (.aload_n 0, 1) := by decide +kernel
theorem dX11_tellOf_96 : decode cX11_tellOf 96 = .ok (.getfield 80, 3) := by decide +kernel
theorem dX11_tellOf_99 : decode cX11_tellOf 99 = .ok (.iload_n 1, 1) := by decide +kernel
theorem dX11_tellOf_100 : decode cX11_tellOf 100 = .ok (.bipush 10, 2) := by decide +kernel
theorem dX11_tellOf_102 : decode cX11_tellOf 102 = .ok (.irem, 1) := by decide +kernel
theorem dX11_tellOf_103 : decode cX11_tellOf 103 = .ok (.iaload, 1) := by decide +kernel
theorem dX11_tellOf_104 : decode cX11_tellOf 104 = .ok (.ireturn, 1) := by decide +kernel
def X11_tellOf_L11 (l1 : Int) (l2 : Int) (k67 : Int → Int → Int → Mm → Rs) : Nat → Int → Int → Int → Int → Mm → Rs
  | 0, _, _, _, _, _ => none
  | n + 1, l3, l4, l5, l6, μ => if (μ 70 37) ≤ l6 then (k67 l3 l4 l5 μ) else (bd (X11_late l6 μ) fun v2 μ3 => bd (X11_late l6 μ3) fun v5 μ6 => bd (J9_max_7cf53 l4 v5 μ6) fun v8 μ9 => bd (X11_late l6 μ9) fun v11 μ12 => if v11 ≤ 0 then (X11_tellOf_L11 l1 l2 k67 n (iA l3 v2) v8 (iA l5 0) (iA l6 1) μ12) else (X11_tellOf_L11 l1 l2 k67 n (iA l3 v2) v8 (iA l5 1) (iA l6 1) μ12))
def X11_tellOf (l1 : Int) (l2 : Int) (μ : Mm) : Rs := X11_tellOf_L11 l1 l2 (fun v15 v16 v17 μ18 => if l2 = 0 then (some (v15, μ18)) else (if l2 = 1 then (some (v16, μ18)) else (if l2 = 2 then (some (v17, μ18)) else (ldA μ18 92 (iR l1 10) fun v22 => some (v22, μ18))))) FU 0 0 0 0 μ
set_option maxHeartbeats 4000000 in
set_option maxRecDepth 100000 in
theorem kX11_tellOf_L11 (d : Nat) (hd : 3 ≤ d) {l1 : Int} {l2 : Int} {k67 : Int → Int → Int → Mm → Rs} {r : Int} {μ' : Mm} (hk_67 : ∀ (v3 v4 v5 : Int) (μ1 : Mm), k67 v3 v4 v5 μ1 = some (r, μ') → VV d mX11_tellOf 67 [some (vR 70), some (vI l1), some (vI l2), some (vI v3), some (vI v4), some (vI v5), none] [] μ1 r μ') : ∀ (n : Nat) {l3 l4 l5 l6 : Int} {μ : Mm}, X11_tellOf_L11 l1 l2 k67 n l3 l4 l5 l6 μ = some (r, μ') → VV d mX11_tellOf 11 [some (vR 70), some (vI l1), some (vI l2), some (vI l3), some (vI l4), some (vI l5), some (vI l6)] [] μ r μ' := by
  intro n
  induction n with
  | zero => intro l3 l4 l5 l6 μ h; rw [X11_tellOf_L11] at h; cases h
  | succ n ih =>
    intro l3 l4 l5 l6 μ h
    rw [X11_tellOf_L11] at h
    refine V_iload (q := 13) dX11_tellOf_11 rfl rfl ?_
    refine V_aload_n (q := 14) dX11_tellOf_13 rfl rfl rfl ?_
    refine V_getI (q := 17) fl_X11_316 rfl rfl rfl dX11_tellOf_14 rfl ?_
    refine V_icmpge (q := 67) (q2 := 20) dX11_tellOf_17 (by decide) rfl (fun hc1 => ?_) (fun hc1 => ?_)
    · have h := ifT hc1 h
      exact V_weak (hk_67 _ _ _ _ h) (sb_s rfl (sb_s rfl (sb_s rfl (sb_s rfl (sb_s rfl (sb_s rfl (sb_n sb_0)))))))
    · have h := ifF hc1 h
      refine V_iload_n (q := 21) dX11_tellOf_20 rfl rfl rfl ?_
      refine V_aload_n (q := 22) dX11_tellOf_21 rfl rfl rfl ?_
      refine V_iload (q := 24) dX11_tellOf_22 rfl rfl ?_
      obtain ⟨v2, μ3, hc4, h⟩ := bd_i h
      refine V_cV1 (q := 27) (v := vI v2) (kX11_late (d - 1) (by omega) hc4) (by omega) mv_X11_332 rfl rfl rfl rfl rfl rfl dX11_tellOf_24 rfl ?_
      refine V_iadd (q := 28) dX11_tellOf_27 rfl ?_
      refine V_istore_n (q := 29) dX11_tellOf_28 rfl (Nat.le_of_ble_eq_true rfl) trivial rfl ?_
      refine V_iload (q := 31) dX11_tellOf_29 rfl rfl ?_
      refine V_aload_n (q := 32) dX11_tellOf_31 rfl rfl rfl ?_
      refine V_iload (q := 34) dX11_tellOf_32 rfl rfl ?_
      obtain ⟨v5, μ6, hc7, h⟩ := bd_i h
      refine V_cV1 (q := 37) (v := vI v5) (kX11_late (d - 1) (by omega) hc7) (by omega) mv_X11_332 rfl rfl rfl rfl rfl rfl dX11_tellOf_34 rfl ?_
      obtain ⟨v8, μ9, hc10, h⟩ := bd_i h
      refine V_cS1 (q := 40) (v := vI v8) (kJ9_max_7cf53 (d - 1) (by omega) hc10) (by omega) mv_X11_302 rfl rfl rfl rfl dX11_tellOf_37 rfl ?_
      refine V_istore (q := 42) dX11_tellOf_40 (Nat.le_of_ble_eq_true rfl) trivial rfl ?_
      refine V_iload (q := 44) dX11_tellOf_42 rfl rfl ?_
      refine V_aload_n (q := 45) dX11_tellOf_44 rfl rfl rfl ?_
      refine V_iload (q := 47) dX11_tellOf_45 rfl rfl ?_
      obtain ⟨v11, μ12, hc13, h⟩ := bd_i h
      refine V_cV1 (q := 50) (v := vI v11) (kX11_late (d - 1) (by omega) hc13) (by omega) mv_X11_332 rfl rfl rfl rfl rfl rfl dX11_tellOf_47 rfl ?_
      refine V_ifle (q := 57) (q2 := 53) dX11_tellOf_50 (by decide) rfl (fun hc14 => ?_) (fun hc14 => ?_)
      · have h := ifT hc14 h
        refine V_iconst (q := 58) dX11_tellOf_57 rfl rfl ?_
        refine V_iadd (q := 59) dX11_tellOf_58 rfl ?_
        refine V_istore (q := 61) dX11_tellOf_59 (Nat.le_of_ble_eq_true rfl) trivial rfl ?_
        refine V_iinc (q := 64) dX11_tellOf_61 rfl (Nat.le_of_ble_eq_true rfl) trivial rfl ?_
        refine V_goto (q := 11) dX11_tellOf_64 (by decide) ?_
        exact V_weak (ih h) (sb_s rfl (sb_s rfl (sb_s rfl (sb_s rfl (sb_s rfl (sb_s rfl (sb_s rfl sb_0)))))))
      · have h := ifF hc14 h
        refine V_iconst (q := 54) dX11_tellOf_53 rfl rfl ?_
        refine V_goto (q := 58) dX11_tellOf_54 (by decide) ?_
        refine V_iadd (q := 59) dX11_tellOf_58 rfl ?_
        refine V_istore (q := 61) dX11_tellOf_59 (Nat.le_of_ble_eq_true rfl) trivial rfl ?_
        refine V_iinc (q := 64) dX11_tellOf_61 rfl (Nat.le_of_ble_eq_true rfl) trivial rfl ?_
        refine V_goto (q := 11) dX11_tellOf_64 (by decide) ?_
        exact V_weak (ih h) (sb_s rfl (sb_s rfl (sb_s rfl (sb_s rfl (sb_s rfl (sb_s rfl (sb_s rfl sb_0)))))))
set_option maxHeartbeats 4000000 in
set_option maxRecDepth 100000 in
theorem kX11_tellOf (d : Nat) (hd : 3 ≤ d) {l1 : Int} {l2 : Int} {μ : Mm} {r : Int} {μ' : Mm} (h : X11_tellOf l1 l2 μ = some (r, μ')) : CC d mX11_tellOf [vR 70, vI l1, vI l2] μ r μ' := by
  unfold X11_tellOf at h
  refine V_enter (by decide) (Nat.le_of_ble_eq_true rfl) ?_
  show VV d mX11_tellOf 0 [some (vR 70), some (vI l1), some (vI l2), none, none, none, none] [] μ r μ'
  refine V_iconst (q := 1) dX11_tellOf_0 rfl rfl ?_
  refine V_istore_n (q := 2) dX11_tellOf_1 rfl (Nat.le_of_ble_eq_true rfl) trivial rfl ?_
  refine V_iconst (q := 3) dX11_tellOf_2 rfl rfl ?_
  refine V_istore (q := 5) dX11_tellOf_3 (Nat.le_of_ble_eq_true rfl) trivial rfl ?_
  refine V_iconst (q := 6) dX11_tellOf_5 rfl rfl ?_
  refine V_istore (q := 8) dX11_tellOf_6 (Nat.le_of_ble_eq_true rfl) trivial rfl ?_
  refine V_iconst (q := 9) dX11_tellOf_8 rfl rfl ?_
  refine V_istore (q := 11) dX11_tellOf_9 (Nat.le_of_ble_eq_true rfl) trivial rfl ?_
  refine V_weak (kX11_tellOf_L11 d hd (fun v15 v16 v17 μ18 h => ?_) FU h) (sb_s rfl (sb_s rfl (sb_s rfl (sb_s rfl (sb_s rfl (sb_s rfl (sb_s rfl sb_0)))))))
  refine V_iload_n (q := 68) dX11_tellOf_67 rfl rfl rfl ?_
  refine V_ifne (q := 75) (q2 := 71) dX11_tellOf_68 (by decide) rfl (fun hc19 => ?_) (fun hc19 => ?_)
  · have h := ifF hc19 h
    refine V_iload_n (q := 76) dX11_tellOf_75 rfl rfl rfl ?_
    refine V_iconst (q := 77) dX11_tellOf_76 rfl rfl ?_
    refine V_icmpne (q := 85) (q2 := 80) dX11_tellOf_77 (by decide) rfl (fun hc20 => ?_) (fun hc20 => ?_)
    · have h := ifF hc20 h
      refine V_iload_n (q := 86) dX11_tellOf_85 rfl rfl rfl ?_
      refine V_iconst (q := 87) dX11_tellOf_86 rfl rfl ?_
      refine V_icmpne (q := 95) (q2 := 90) dX11_tellOf_87 (by decide) rfl (fun hc21 => ?_) (fun hc21 => ?_)
      · have h := ifF hc21 h
        refine V_aload_n (q := 96) dX11_tellOf_95 rfl rfl rfl ?_
        refine V_getO (q := 99) (t := 92) fl_X11_80 rfl rfl rfl rfl dX11_tellOf_96 rfl ?_
        refine V_iload_n (q := 100) dX11_tellOf_99 rfl rfl rfl ?_
        refine V_bipush (q := 102) dX11_tellOf_100 rfl rfl rfl ?_
        refine V_irem (q := 103) dX11_tellOf_102 (by decide) rfl ?_
        obtain ⟨hi23, h⟩ := ldA_i h
        refine V_iaload (q := 104) rfl hi23 dX11_tellOf_103 rfl ?_
        exact V_iret rfl h dX11_tellOf_104
      · have h := ifT hc21 h
        refine V_iload (q := 92) dX11_tellOf_90 rfl rfl ?_
        refine V_goto (q := 104) dX11_tellOf_92 (by decide) ?_
        exact V_iret rfl h dX11_tellOf_104
    · have h := ifT hc20 h
      refine V_iload (q := 82) dX11_tellOf_80 rfl rfl ?_
      refine V_goto (q := 104) dX11_tellOf_82 (by decide) ?_
      exact V_iret rfl h dX11_tellOf_104
  · have h := ifT hc19 h
    refine V_iload_n (q := 72) dX11_tellOf_71 rfl rfl rfl ?_
    refine V_goto (q := 104) dX11_tellOf_72 (by decide) ?_
    exact V_iret rfl h dX11_tellOf_104
abbrev mX11_order : Mth := (yX11_order, cX11_order, 4, some .int)
theorem mi_X11_order : Cond.instanceMethod yX11_order ∈ tG ∧ Cond.selects yX11_order.cls yX11_order yX11_order ∈ tG ∧ Cond.initialized yX11_order.cls ∈ tG ∧ Cond.code yX11_order cX11_order 4 (some .int) ∈ tG ∧ (yX11_order.cls ≠ "java/lang/invoke/MethodHandle" ∧ yX11_order.cls ≠ "java/lang/invoke/VarHandle" ∧ (parseMethodDescriptor yX11_order.desc).map (fun d => d.parameters.length) = some 3) ∧ 4 ≤ 60 := ⟨(tG_of (List.mem_of_getElem? (i := 1558) (by decide +kernel)) (by decide +kernel)), (tG_of (List.mem_of_getElem? (i := 1559) (by decide +kernel)) (by decide +kernel)), (tG_of (List.mem_of_getElem? (i := 112) (by decide +kernel)) (by decide +kernel)), (tG_of (List.mem_of_getElem? (i := 1560) (by decide +kernel)) (by decide +kernel)), ⟨by decide, by decide, by decide +kernel⟩, by decide⟩
theorem dX11_order_0 : decode cX11_order 0 = .ok (.aload_n 0, 1) := by decide +kernel
theorem dX11_order_1 : decode cX11_order 1 = .ok (.iload_n 1, 1) := by decide +kernel
theorem dX11_order_2 : decode cX11_order 2 = .ok (.invokevirtual 335, 3) := by decide +kernel
theorem dX11_order_5 : decode cX11_order 5 = .ok (.ifCond .eq 37, 3) := by decide +kernel
theorem dX11_order_8 : decode cX11_order 8 = .ok (.aload_n 0, 1) := by decide +kernel
theorem dX11_order_9 : decode cX11_order 9 = .ok (.iload_n 2, 1) := by decide +kernel
theorem dX11_order_10 : decode cX11_order 10 = .ok (.invokevirtual 338, 3) := by decide +kernel
theorem dX11_order_13 : decode cX11_order 13 = .ok (.ifCond .eq 29, 3) := by decide +kernel
theorem dX11_order_16 : decode cX11_order 16 = .ok (.iload_n 3, 1) := by decide +kernel
theorem dX11_order_17 : decode cX11_order 17 = .ok (.iconst 0, 1) := by decide +kernel
theorem dX11_order_18 : decode cX11_order 18 = .ok (.iconst 3, 1) := by decide +kernel
theorem dX11_order_19 : decode cX11_order 19 = .ok (.invokestatic 213, 3) := by decide +kernel
theorem dX11_order_22 : decode cX11_order 22 = .ok (.ifCond .eq 20, 3) := by decide +kernel
theorem dX11_order_25 : decode cX11_order 25 = .ok (.aload_n 0, 1) := by decide +kernel
theorem dX11_order_26 : decode cX11_order 26 = .ok (.iload_n 2, 1) := by decide +kernel
theorem dX11_order_27 : decode cX11_order 27 = .ok (.invokevirtual 341, 3) := by decide +kernel
theorem dX11_order_30 : decode cX11_order 30 = .ok (.ifCond .eq 12, 3) := by decide +kernel
theorem dX11_order_33 : decode cX11_order 33 = .ok (.aload_n 0, 1) := by decide +kernel
theorem dX11_order_34 : decode cX11_order 34 = .ok (.iload_n 2, 1) := by decide +kernel
theorem dX11_order_35 : decode cX11_order 35 = .ok (.iload_n 3, 1) := by decide +kernel
theorem dX11_order_36 : decode cX11_order 36 = .ok (.invokevirtual 344, 3) := by decide +kernel
theorem dX11_order_39 : decode cX11_order 39 = .ok (.goto 4, 3) := by decide +kernel
theorem dX11_order_42 : decode cX11_order 42 = .ok (.iconst (-1), 1) := by decide +kernel
theorem dX11_order_43 : decode cX11_order 43 = .ok (.ireturn, 1) := by decide +kernel
def X11_order (l1 : Int) (l2 : Int) (l3 : Int) (μ : Mm) : Rs := bd (X11_isReady l1 μ) fun v1 μ2 => if v1 = 0 then (some ((-1), μ2)) else (bd (X11_isOrder l2 μ2) fun v5 μ6 => if v5 = 0 then (some ((-1), μ6)) else (bd (X11_in l3 0 3 μ6) fun v9 μ10 => if v9 = 0 then (some ((-1), μ10)) else (bd (X11_go l2 μ10) fun v13 μ14 => if v13 = 0 then (some ((-1), μ14)) else (bd (X11_tellOf l2 l3 μ14) fun v17 μ18 => some (v17, μ18)))))
set_option maxHeartbeats 4000000 in
set_option maxRecDepth 100000 in
theorem kX11_order (d : Nat) (hd : 8 ≤ d) {l1 : Int} {l2 : Int} {l3 : Int} {μ : Mm} {r : Int} {μ' : Mm} (h : X11_order l1 l2 l3 μ = some (r, μ')) : CC d mX11_order [vR 70, vI l1, vI l2, vI l3] μ r μ' := by
  unfold X11_order at h
  refine V_enter (by decide) (Nat.le_of_ble_eq_true rfl) ?_
  show VV d mX11_order 0 [some (vR 70), some (vI l1), some (vI l2), some (vI l3)] [] μ r μ'
  refine V_aload_n (q := 1) dX11_order_0 rfl rfl rfl ?_
  refine V_iload_n (q := 2) dX11_order_1 rfl rfl rfl ?_
  obtain ⟨v1, μ2, hc3, h⟩ := bd_i h
  refine V_cV1 (q := 5) (v := vI v1) (kX11_isReady (d - 1) (by omega) hc3) (by omega) mv_X11_335 rfl rfl rfl rfl rfl rfl dX11_order_2 rfl ?_
  refine V_ifeq (q := 42) (q2 := 8) dX11_order_5 (by decide) rfl (fun hc4 => ?_) (fun hc4 => ?_)
  · have h := ifT hc4 h
    refine V_iconst (q := 43) dX11_order_42 rfl rfl ?_
    exact V_iret rfl h dX11_order_43
  · have h := ifF hc4 h
    refine V_aload_n (q := 9) dX11_order_8 rfl rfl rfl ?_
    refine V_iload_n (q := 10) dX11_order_9 rfl rfl rfl ?_
    obtain ⟨v5, μ6, hc7, h⟩ := bd_i h
    refine V_cV1 (q := 13) (v := vI v5) (kX11_isOrder (d - 1) (by omega) hc7) (by omega) mv_X11_338 rfl rfl rfl rfl rfl rfl dX11_order_10 rfl ?_
    refine V_ifeq (q := 42) (q2 := 16) dX11_order_13 (by decide) rfl (fun hc8 => ?_) (fun hc8 => ?_)
    · have h := ifT hc8 h
      refine V_iconst (q := 43) dX11_order_42 rfl rfl ?_
      exact V_iret rfl h dX11_order_43
    · have h := ifF hc8 h
      refine V_iload_n (q := 17) dX11_order_16 rfl rfl rfl ?_
      refine V_iconst (q := 18) dX11_order_17 rfl rfl ?_
      refine V_iconst (q := 19) dX11_order_18 rfl rfl ?_
      obtain ⟨v9, μ10, hc11, h⟩ := bd_i h
      refine V_cS1 (q := 22) (v := vI v9) (kX11_in (d - 1) (by omega) hc11) (by omega) mv_X11_213 rfl rfl rfl rfl dX11_order_19 rfl ?_
      refine V_ifeq (q := 42) (q2 := 25) dX11_order_22 (by decide) rfl (fun hc12 => ?_) (fun hc12 => ?_)
      · have h := ifT hc12 h
        refine V_iconst (q := 43) dX11_order_42 rfl rfl ?_
        exact V_iret rfl h dX11_order_43
      · have h := ifF hc12 h
        refine V_aload_n (q := 26) dX11_order_25 rfl rfl rfl ?_
        refine V_iload_n (q := 27) dX11_order_26 rfl rfl rfl ?_
        obtain ⟨v13, μ14, hc15, h⟩ := bd_i h
        refine V_cV1 (q := 30) (v := vI v13) (kX11_go (d - 1) (by omega) hc15) (by omega) mv_X11_341 rfl rfl rfl rfl rfl rfl dX11_order_27 rfl ?_
        refine V_ifeq (q := 42) (q2 := 33) dX11_order_30 (by decide) rfl (fun hc16 => ?_) (fun hc16 => ?_)
        · have h := ifT hc16 h
          refine V_iconst (q := 43) dX11_order_42 rfl rfl ?_
          exact V_iret rfl h dX11_order_43
        · have h := ifF hc16 h
          refine V_aload_n (q := 34) dX11_order_33 rfl rfl rfl ?_
          refine V_iload_n (q := 35) dX11_order_34 rfl rfl rfl ?_
          refine V_iload_n (q := 36) dX11_order_35 rfl rfl rfl ?_
          obtain ⟨v17, μ18, hc19, h⟩ := bd_i h
          refine V_cV1 (q := 39) (v := vI v17) (kX11_tellOf (d - 1) (by omega) hc19) (by omega) mv_X11_344 rfl rfl rfl rfl rfl rfl dX11_order_36 rfl ?_
          refine V_goto (q := 43) dX11_order_39 (by decide) ?_
          exact V_iret rfl h dX11_order_43
abbrev mX11_done : Mth := (yX11_done, cX11_done, 5, some .int)
theorem mi_X11_done : Cond.instanceMethod yX11_done ∈ tG ∧ Cond.selects yX11_done.cls yX11_done yX11_done ∈ tG ∧ Cond.initialized yX11_done.cls ∈ tG ∧ Cond.code yX11_done cX11_done 5 (some .int) ∈ tG ∧ (yX11_done.cls ≠ "java/lang/invoke/MethodHandle" ∧ yX11_done.cls ≠ "java/lang/invoke/VarHandle" ∧ (parseMethodDescriptor yX11_done.desc).map (fun d => d.parameters.length) = some 4) ∧ 5 ≤ 60 := ⟨(tG_of (List.mem_of_getElem? (i := 1593) (by decide +kernel)) (by decide +kernel)), (tG_of (List.mem_of_getElem? (i := 1594) (by decide +kernel)) (by decide +kernel)), (tG_of (List.mem_of_getElem? (i := 112) (by decide +kernel)) (by decide +kernel)), (tG_of (List.mem_of_getElem? (i := 1595) (by decide +kernel)) (by decide +kernel)), ⟨by decide, by decide, by decide +kernel⟩, by decide⟩
theorem dX11_done_0 : decode cX11_done 0 = .ok (.aload_n 0, 1) := by decide +kernel
theorem dX11_done_1 : decode cX11_done 1 = .ok (.iload_n 1, 1) := by decide +kernel
theorem dX11_done_2 : decode cX11_done 2 = .ok (.invokevirtual 335, 3) := by decide +kernel
theorem dX11_done_5 : decode cX11_done 5 = .ok (.ifCond .eq 43, 3) := by decide +kernel
theorem dX11_done_8 : decode cX11_done 8 = .ok (.aload_n 0, 1) := by decide +kernel
theorem dX11_done_9 : decode cX11_done 9 = .ok (.iload_n 2, 1) := by decide +kernel
theorem dX11_done_10 : decode cX11_done 10 = .ok (.invokevirtual 338, 3) := by decide +kernel
theorem dX11_done_13 : decode cX11_done 13 = .ok (.ifCond .eq 35, 3) := by decide +kernel
theorem dX11_done_16 : decode cX11_done 16 = .ok (.iload_n 3, 1) := by decide +kernel
theorem dX11_done_17 : decode cX11_done 17 = .ok (.iconst 0, 1) := by decide +kernel
theorem dX11_done_18 : decode cX11_done 18 = .ok (.aload_n 0, 1) := by decide +kernel
theorem dX11_done_19 : decode cX11_done 19 = .ok (.getfield 316, 3) := by decide +kernel
theorem dX11_done_22 : decode cX11_done 22 = .ok (.iconst 1, 1) := by decide +kernel
theorem dX11_done_23 : decode cX11_done 23 = .ok (.isub, 1) := by decide +kernel
theorem dX11_done_24 : decode cX11_done 24 = .ok (.invokestatic 213, 3) := by decide +kernel
theorem dX11_done_27 : decode cX11_done 27 = .ok (.ifCond .eq 21, 3) := by decide +kernel
theorem dX11_done_30 : decode cX11_done 30 = .ok (.iload 4, 2) := by decide +kernel
theorem dX11_done_32 : decode cX11_done 32 = .ok (.iconst 0, 1) := by decide +kernel
theorem dX11_done_33 : decode cX11_done 33 = .ok (.iconst 2, 1) := by decide +kernel
theorem dX11_done_34 : decode cX11_done 34 = .ok (.invokestatic 213, 3) := by decide +kernel
theorem dX11_done_37 : decode cX11_done 37 = .ok (.ifCond .eq 11, 3) := by decide +kernel
theorem dX11_done_40 : decode cX11_done 40 = .ok (.aload_n 0, 1) := by decide +kernel
theorem dX11_done_41 : decode cX11_done 41 = .ok (.iload_n 2, 1) := by decide +kernel
theorem dX11_done_42 : decode cX11_done 42 = .ok (.invokevirtual 341, 3) := by decide +kernel
theorem dX11_done_45 : decode cX11_done 45 = .ok (.ifCond .ne 5, 3) := by decide +kernel
theorem dX11_done_48 : decode cX11_done 48 = .ok (.iconst (-1), 1) := by decide +kernel
theorem dX11_done_49 : decode cX11_done 49 = .ok (.ireturn, 1) := by decide +kernel
theorem dX11_done_50 : decode cX11_done 50 = .ok (.iload 4, 2) := by decide +kernel
theorem dX11_done_52 : decode cX11_done 52 = .ok (.ifCond .ne 12, 3) := by decide +kernel
theorem dX11_done_55 : decode cX11_done 55 = .ok (.aload_n 0, 1) := by decide +kernel
theorem dX11_done_56 : decode cX11_done 56 = .ok (.getfield 80, 3) := by decide +kernel
theorem dX11_done_59 : decode cX11_done 59 = .ok (.iload_n 3, 1) := by decide +kernel
theorem dX11_done_60 : decode cX11_done 60 = .ok (.iaload, 1) := by decide +kernel
theorem dX11_done_61 : decode cX11_done 61 = .ok (.goto 23, 3) := by decide +kernel
theorem dX11_done_64 : decode cX11_done 64 = .ok (.iload 4, 2) := by decide +kernel
theorem dX11_done_66 : decode cX11_done 66 = .ok (.iconst 1, 1) := by decide +kernel
theorem dX11_done_67 : decode cX11_done 67 = .ok (.if_icmp .ne 11, 3) := by decide +kernel
theorem dX11_done_70 : decode cX11_done 70 = .ok (.aload_n 0, 1) := by decide +kernel
theorem dX11_done_71 : decode cX11_done 71 = .ok (.iload_n 3, 1) := by decide +kernel
theorem dX11_done_72 : decode cX11_done 72 = .ok (.invokevirtual 332, 3) := by decide +kernel
theorem dX11_done_75 : decode cX11_done 75 = .ok (.goto 9, 3) := by decide +kernel
theorem dX11_done_78 : decode cX11_done 78 = .ok (.aload_n 0, 1) := by decide +kernel
theorem dX11_done_79 : decode cX11_done 79 = .ok (.getfield 77, 3) := by decide +kernel
theorem dX11_done_82 : decode cX11_done 82 = .ok (.iload_n 3, 1) := by decide +kernel
theorem dX11_done_83 : decode cX11_done 83 = .ok (.iaload, 1) := by decide +kernel
theorem dX11_done_84 : decode cX11_done 84 = .ok (.ireturn, 1) := by decide +kernel
def X11_done (l1 : Int) (l2 : Int) (l3 : Int) (l4 : Int) (μ : Mm) : Rs := bd (X11_isReady l1 μ) fun v1 μ2 => if v1 = 0 then (some ((-1), μ2)) else (bd (X11_isOrder l2 μ2) fun v5 μ6 => if v5 = 0 then (some ((-1), μ6)) else (bd (X11_in l3 0 (iS (μ6 70 37) 1) μ6) fun v9 μ10 => if v9 = 0 then (some ((-1), μ10)) else (bd (X11_in l4 0 2 μ10) fun v13 μ14 => if v13 = 0 then (some ((-1), μ14)) else (bd (X11_go l2 μ14) fun v17 μ18 => if v17 = 0 then (some ((-1), μ18)) else (if l4 = 0 then (ldA μ18 92 l3 fun v28 => some (v28, μ18)) else (if l4 = 1 then (bd (X11_late l3 μ18) fun v25 μ26 => some (v25, μ26)) else (ldA μ18 91 l3 fun v23 => some (v23, μ18))))))))
set_option maxHeartbeats 4000000 in
set_option maxRecDepth 100000 in
theorem kX11_done (d : Nat) (hd : 8 ≤ d) {l1 : Int} {l2 : Int} {l3 : Int} {l4 : Int} {μ : Mm} {r : Int} {μ' : Mm} (h : X11_done l1 l2 l3 l4 μ = some (r, μ')) : CC d mX11_done [vR 70, vI l1, vI l2, vI l3, vI l4] μ r μ' := by
  unfold X11_done at h
  refine V_enter (by decide) (Nat.le_of_ble_eq_true rfl) ?_
  show VV d mX11_done 0 [some (vR 70), some (vI l1), some (vI l2), some (vI l3), some (vI l4)] [] μ r μ'
  refine V_aload_n (q := 1) dX11_done_0 rfl rfl rfl ?_
  refine V_iload_n (q := 2) dX11_done_1 rfl rfl rfl ?_
  obtain ⟨v1, μ2, hc3, h⟩ := bd_i h
  refine V_cV1 (q := 5) (v := vI v1) (kX11_isReady (d - 1) (by omega) hc3) (by omega) mv_X11_335 rfl rfl rfl rfl rfl rfl dX11_done_2 rfl ?_
  refine V_ifeq (q := 48) (q2 := 8) dX11_done_5 (by decide) rfl (fun hc4 => ?_) (fun hc4 => ?_)
  · have h := ifT hc4 h
    refine V_iconst (q := 49) dX11_done_48 rfl rfl ?_
    exact V_iret rfl h dX11_done_49
  · have h := ifF hc4 h
    refine V_aload_n (q := 9) dX11_done_8 rfl rfl rfl ?_
    refine V_iload_n (q := 10) dX11_done_9 rfl rfl rfl ?_
    obtain ⟨v5, μ6, hc7, h⟩ := bd_i h
    refine V_cV1 (q := 13) (v := vI v5) (kX11_isOrder (d - 1) (by omega) hc7) (by omega) mv_X11_338 rfl rfl rfl rfl rfl rfl dX11_done_10 rfl ?_
    refine V_ifeq (q := 48) (q2 := 16) dX11_done_13 (by decide) rfl (fun hc8 => ?_) (fun hc8 => ?_)
    · have h := ifT hc8 h
      refine V_iconst (q := 49) dX11_done_48 rfl rfl ?_
      exact V_iret rfl h dX11_done_49
    · have h := ifF hc8 h
      refine V_iload_n (q := 17) dX11_done_16 rfl rfl rfl ?_
      refine V_iconst (q := 18) dX11_done_17 rfl rfl ?_
      refine V_aload_n (q := 19) dX11_done_18 rfl rfl rfl ?_
      refine V_getI (q := 22) fl_X11_316 rfl rfl rfl dX11_done_19 rfl ?_
      refine V_iconst (q := 23) dX11_done_22 rfl rfl ?_
      refine V_isub (q := 24) dX11_done_23 rfl ?_
      obtain ⟨v9, μ10, hc11, h⟩ := bd_i h
      refine V_cS1 (q := 27) (v := vI v9) (kX11_in (d - 1) (by omega) hc11) (by omega) mv_X11_213 rfl rfl rfl rfl dX11_done_24 rfl ?_
      refine V_ifeq (q := 48) (q2 := 30) dX11_done_27 (by decide) rfl (fun hc12 => ?_) (fun hc12 => ?_)
      · have h := ifT hc12 h
        refine V_iconst (q := 49) dX11_done_48 rfl rfl ?_
        exact V_iret rfl h dX11_done_49
      · have h := ifF hc12 h
        refine V_iload (q := 32) dX11_done_30 rfl rfl ?_
        refine V_iconst (q := 33) dX11_done_32 rfl rfl ?_
        refine V_iconst (q := 34) dX11_done_33 rfl rfl ?_
        obtain ⟨v13, μ14, hc15, h⟩ := bd_i h
        refine V_cS1 (q := 37) (v := vI v13) (kX11_in (d - 1) (by omega) hc15) (by omega) mv_X11_213 rfl rfl rfl rfl dX11_done_34 rfl ?_
        refine V_ifeq (q := 48) (q2 := 40) dX11_done_37 (by decide) rfl (fun hc16 => ?_) (fun hc16 => ?_)
        · have h := ifT hc16 h
          refine V_iconst (q := 49) dX11_done_48 rfl rfl ?_
          exact V_iret rfl h dX11_done_49
        · have h := ifF hc16 h
          refine V_aload_n (q := 41) dX11_done_40 rfl rfl rfl ?_
          refine V_iload_n (q := 42) dX11_done_41 rfl rfl rfl ?_
          obtain ⟨v17, μ18, hc19, h⟩ := bd_i h
          refine V_cV1 (q := 45) (v := vI v17) (kX11_go (d - 1) (by omega) hc19) (by omega) mv_X11_341 rfl rfl rfl rfl rfl rfl dX11_done_42 rfl ?_
          refine V_ifne (q := 50) (q2 := 48) dX11_done_45 (by decide) rfl (fun hc20 => ?_) (fun hc20 => ?_)
          · have h := ifF hc20 h
            refine V_iload (q := 52) dX11_done_50 rfl rfl ?_
            refine V_ifne (q := 64) (q2 := 55) dX11_done_52 (by decide) rfl (fun hc21 => ?_) (fun hc21 => ?_)
            · have h := ifF hc21 h
              refine V_iload (q := 66) dX11_done_64 rfl rfl ?_
              refine V_iconst (q := 67) dX11_done_66 rfl rfl ?_
              refine V_icmpne (q := 78) (q2 := 70) dX11_done_67 (by decide) rfl (fun hc22 => ?_) (fun hc22 => ?_)
              · have h := ifF hc22 h
                refine V_aload_n (q := 79) dX11_done_78 rfl rfl rfl ?_
                refine V_getO (q := 82) (t := 91) fl_X11_77 rfl rfl rfl rfl dX11_done_79 rfl ?_
                refine V_iload_n (q := 83) dX11_done_82 rfl rfl rfl ?_
                obtain ⟨hi24, h⟩ := ldA_i h
                refine V_iaload (q := 84) rfl hi24 dX11_done_83 rfl ?_
                exact V_iret rfl h dX11_done_84
              · have h := ifT hc22 h
                refine V_aload_n (q := 71) dX11_done_70 rfl rfl rfl ?_
                refine V_iload_n (q := 72) dX11_done_71 rfl rfl rfl ?_
                obtain ⟨v25, μ26, hc27, h⟩ := bd_i h
                refine V_cV1 (q := 75) (v := vI v25) (kX11_late (d - 1) (by omega) hc27) (by omega) mv_X11_332 rfl rfl rfl rfl rfl rfl dX11_done_72 rfl ?_
                refine V_goto (q := 84) dX11_done_75 (by decide) ?_
                exact V_iret rfl h dX11_done_84
            · have h := ifT hc21 h
              refine V_aload_n (q := 56) dX11_done_55 rfl rfl rfl ?_
              refine V_getO (q := 59) (t := 92) fl_X11_80 rfl rfl rfl rfl dX11_done_56 rfl ?_
              refine V_iload_n (q := 60) dX11_done_59 rfl rfl rfl ?_
              obtain ⟨hi29, h⟩ := ldA_i h
              refine V_iaload (q := 61) rfl hi29 dX11_done_60 rfl ?_
              refine V_goto (q := 84) dX11_done_61 (by decide) ?_
              exact V_iret rfl h dX11_done_84
          · have h := ifT hc20 h
            refine V_iconst (q := 49) dX11_done_48 rfl rfl ?_
            exact V_iret rfl h dX11_done_49
abbrev mX11_where : Mth := (yX11_where, cX11_where, 6, some .int)
theorem mi_X11_where : Cond.instanceMethod yX11_where ∈ tG ∧ Cond.selects yX11_where.cls yX11_where yX11_where ∈ tG ∧ Cond.initialized yX11_where.cls ∈ tG ∧ Cond.code yX11_where cX11_where 6 (some .int) ∈ tG ∧ (yX11_where.cls ≠ "java/lang/invoke/MethodHandle" ∧ yX11_where.cls ≠ "java/lang/invoke/VarHandle" ∧ (parseMethodDescriptor yX11_where.desc).map (fun d => d.parameters.length) = some 3) ∧ 6 ≤ 60 := ⟨(tG_of (List.mem_of_getElem? (i := 1597) (by decide +kernel)) (by decide +kernel)), (tG_of (List.mem_of_getElem? (i := 1598) (by decide +kernel)) (by decide +kernel)), (tG_of (List.mem_of_getElem? (i := 112) (by decide +kernel)) (by decide +kernel)), (tG_of (List.mem_of_getElem? (i := 1599) (by decide +kernel)) (by decide +kernel)), ⟨by decide, by decide, by decide +kernel⟩, by decide⟩
theorem dX11_where_0 : decode cX11_where 0 = .ok (.aload_n 0, 1) := by decide +kernel
theorem dX11_where_1 : decode cX11_where 1 = .ok (.iload_n 1, 1) := by decide +kernel
theorem dX11_where_2 : decode cX11_where 2 = .ok (.invokevirtual 335, 3) := by decide +kernel
theorem dX11_where_5 : decode cX11_where 5 = .ok (.ifCond .eq 23, 3) := by decide +kernel
theorem dX11_where_8 : decode cX11_where 8 = .ok (.aload_n 0, 1) := by decide +kernel
theorem dX11_where_9 : decode cX11_where 9 = .ok (.iload_n 2, 1) := by decide +kernel
theorem dX11_where_10 : decode cX11_where 10 = .ok (.invokevirtual 338, 3) := by decide +kernel
theorem dX11_where_13 : decode cX11_where 13 = .ok (.ifCond .eq 15, 3) := by decide +kernel
theorem dX11_where_16 : decode cX11_where 16 = .ok (.iload_n 3, 1) := by decide +kernel
theorem dX11_where_17 : decode cX11_where 17 = .ok (.ifCond .lt 11, 3) := by decide +kernel
theorem dX11_where_20 : decode cX11_where 20 = .ok (.aload_n 0, 1) := by decide +kernel
theorem dX11_where_21 : decode cX11_where 21 = .ok (.iload_n 2, 1) := by decide +kernel
theorem dX11_where_22 : decode cX11_where 22 = .ok (.invokevirtual 341, 3) := by decide +kernel
theorem dX11_where_25 : decode cX11_where 25 = .ok (.ifCond .ne 5, 3) := by decide +kernel
theorem dX11_where_28 : decode cX11_where 28 = .ok (.iconst (-1), 1) := by decide +kernel
theorem dX11_where_29 : decode cX11_where 29 = .ok (.ireturn, 1) := by decide +kernel
theorem dX11_where_30 : decode cX11_where 30 = .ok (.iconst 0, 1) := by decide +kernel
theorem dX11_where_31 : decode cX11_where 31 = .ok (.istore 4, 2) := by decide +kernel
theorem dX11_where_33 : decode cX11_where 33 = .ok (.iload 4, 2) := by decide +kernel
theorem dX11_where_35 : decode cX11_where 35 = .ok (.aload_n 0, 1) := by decide +kernel
theorem dX11_where_36 : decode cX11_where 36 = .ok (.getfield 316, 3) := by decide +kernel
theorem dX11_where_39 : decode cX11_where 39 = .ok (.if_icmp .ge 52, 3) := by decide +kernel
theorem dX11_where_42 : decode cX11_where 42 = .ok (.aload_n 0, 1) := by decide +kernel
theorem dX11_where_43 : decode cX11_where 43 = .ok (.iload_n 2, 1) := by decide +kernel
theorem dX11_where_44 : decode cX11_where 44 = .ok (.iload 4, 2) := by decide +kernel
theorem dX11_where_46 : decode cX11_where 46 = .ok (.invokevirtual 329, 3) := by decide +kernel
theorem dX11_where_49 : decode cX11_where 49 = .ok (.istore 5, 2) := by decide +kernel
theorem dX11_where_51 : decode cX11_where 51 = .ok (.iload_n 3, 1) := by decide +kernel
theorem dX11_where_52 : decode cX11_where 52 = .ok (.aload_n 0, 1) := by decide +kernel
theorem dX11_where_53 : decode cX11_where 53 = .ok (.getfield 77, 3) := by decide +kernel
theorem dX11_where_56 : decode cX11_where 56 = .ok (.iload 5, 2) := by decide +kernel
theorem dX11_where_58 : decode cX11_where 58 = .ok (.iaload, 1) := by decide +kernel
theorem dX11_where_59 : decode cX11_where 59 = .ok (.aload_n 0, 1) := by decide +kernel
theorem dX11_where_60 : decode cX11_where 60 = .ok (.getfield 80, 3) := by decide +kernel
theorem dX11_where_63 : decode cX11_where 63 = .ok (.iload 5, 2) := by decide +kernel
theorem dX11_where_65 : decode cX11_where 65 = .ok (.iaload, 1) := by decide +kernel
theorem dX11_where_66 : decode cX11_where 66 = .ok (.invokestatic 213, 3) := by decide +kernel
theorem dX11_where_69 : decode cX11_where 69 = .ok (.ifCond .eq 16, 3) := by decide +kernel
theorem dX11_where_72 : decode cX11_where 72 = .ok (.aload_n 0, 1) := by decide +kernel
theorem dX11_where_73 : decode cX11_where 73 = .ok (.getfield 46, 3) := by decide +kernel
theorem dX11_where_76 : decode cX11_where 76 = .ok (.bipush 8, 2) := by decide +kernel
theorem dX11_where_78 : decode cX11_where 78 = .ok (.iload_n 1, 1) := by decide +kernel
theorem dX11_where_79 : decode cX11_where 79 = .ok (.imul, 1) := by decide +kernel
theorem dX11_where_80 : decode cX11_where 80 = .ok (.iload 5, 2) := by decide +kernel
theorem dX11_where_82 : decode cX11_where 82 = .ok (.iadd, 1) := by decide +kernel
theorem dX11_where_83 : decode cX11_where 83 = .ok (.iaload, 1) := by decide +kernel
theorem dX11_where_84 : decode cX11_where 84 = .ok (.ireturn, 1) := by decide +kernel
theorem dX11_where_85 : decode cX11_where 85 = .ok (.iinc 4 1, 3) := by decide +kernel
theorem dX11_where_88 : decode cX11_where 88 = .ok (.goto (-55), 3) := by decide +kernel
theorem dX11_where_91 : decode cX11_where 91 = .ok (.iload_n 3, 1) := by decide +kernel
theorem dX11_where_92 : decode cX11_where 92 = .ok (.aload_n 0, 1) := by decide +kernel
theorem dX11_where_93 : decode cX11_where 93 = .ok (.getfield 80, 3) := by decide +kernel
theorem dX11_where_96 : decode cX11_where 96 = .ok (.iload_n 2, 1) := by decide +kernel
theorem dX11_where_97 : decode cX11_where 97 = .ok (.bipush 10, 2) := by decide +kernel
theorem dX11_where_99 : decode cX11_where 99 = .ok (.irem, 1) := by decide +kernel
theorem dX11_where_100 : decode cX11_where 100 = .ok (.iaload, 1) := by decide +kernel
theorem dX11_where_101 : decode cX11_where 101 = .ok (.if_icmp .le 8, 3) := by decide +kernel
theorem dX11_where_104 : decode cX11_where 104 = .ok (.bipush 9, 2) := by decide +kernel
theorem dX11_where_106 : decode cX11_where 106 = .ok (.goto 5, 3) := by decide +kernel
theorem dX11_where_109 : decode cX11_where 109 = .ok (.bipush 8, 2) := by decide +kernel
theorem dX11_where_111 : decode cX11_where 111 = .ok (.ireturn, 1) := by decide +kernel
def X11_where_L33 (l1 : Int) (l2 : Int) (l3 : Int) (k91 : Mm → Rs) (k72 : Int → Mm → Rs) : Nat → Int → Mm → Rs
  | 0, _, _ => none
  | n + 1, l4, μ => if (μ 70 37) ≤ l4 then (k91 μ) else (bd (X11_nth l2 l4 μ) fun v15 μ16 => ldA μ16 91 v15 fun v18 => ldA μ16 92 v15 fun v20 => bd (X11_in l3 v18 v20 μ16) fun v22 μ23 => if v22 = 0 then (X11_where_L33 l1 l2 l3 k91 k72 n (iA l4 1) μ23) else (k72 v15 μ23))
def X11_where (l1 : Int) (l2 : Int) (l3 : Int) (μ : Mm) : Rs := bd (X11_isReady l1 μ) fun v1 μ2 => if v1 = 0 then (some ((-1), μ2)) else (bd (X11_isOrder l2 μ2) fun v5 μ6 => if v5 = 0 then (some ((-1), μ6)) else (if l3 < 0 then (some ((-1), μ6)) else (bd (X11_go l2 μ6) fun v10 μ11 => if v10 = 0 then (some ((-1), μ11)) else (X11_where_L33 l1 l2 l3 (fun μ26 => ldA μ26 92 (iR l2 10) fun v27 => if l3 ≤ v27 then (some (8, μ26)) else (some (9, μ26))) (fun v30 μ31 => ldA μ31 83 (iA (iM 8 l1) v30) fun v32 => some (v32, μ31)) FU 0 μ11))))
set_option maxHeartbeats 4000000 in
set_option maxRecDepth 100000 in
theorem kX11_where_L33 (d : Nat) (hd : 8 ≤ d) {l1 : Int} {l2 : Int} {l3 : Int} {k91 : Mm → Rs} {k72 : Int → Mm → Rs} {r : Int} {μ' : Mm} (hk_91 : ∀ (μ1 : Mm), k91 μ1 = some (r, μ') → VV d mX11_where 91 [some (vR 70), none, some (vI l2), some (vI l3), none, none] [] μ1 r μ') (hk_72 : ∀ (v5 : Int) (μ1 : Mm), k72 v5 μ1 = some (r, μ') → VV d mX11_where 72 [some (vR 70), some (vI l1), none, none, none, some (vI v5)] [] μ1 r μ') : ∀ (n : Nat) {l4 : Int} {μ : Mm}, X11_where_L33 l1 l2 l3 k91 k72 n l4 μ = some (r, μ') → VV d mX11_where 33 [some (vR 70), some (vI l1), some (vI l2), some (vI l3), some (vI l4), none] [] μ r μ' := by
  intro n
  induction n with
  | zero => intro l4 μ h; rw [X11_where_L33] at h; cases h
  | succ n ih =>
    intro l4 μ h
    rw [X11_where_L33] at h
    refine V_iload (q := 35) dX11_where_33 rfl rfl ?_
    refine V_aload_n (q := 36) dX11_where_35 rfl rfl rfl ?_
    refine V_getI (q := 39) fl_X11_316 rfl rfl rfl dX11_where_36 rfl ?_
    refine V_icmpge (q := 91) (q2 := 42) dX11_where_39 (by decide) rfl (fun hc14 => ?_) (fun hc14 => ?_)
    · have h := ifT hc14 h
      exact V_weak (hk_91 _ h) (sb_s rfl (sb_n (sb_s rfl (sb_s rfl (sb_n (sb_n sb_0))))))
    · have h := ifF hc14 h
      refine V_aload_n (q := 43) dX11_where_42 rfl rfl rfl ?_
      refine V_iload_n (q := 44) dX11_where_43 rfl rfl rfl ?_
      refine V_iload (q := 46) dX11_where_44 rfl rfl ?_
      obtain ⟨v15, μ16, hc17, h⟩ := bd_i h
      refine V_cV1 (q := 49) (v := vI v15) (kX11_nth (d - 1) (by omega) hc17) (by omega) mv_X11_329 rfl rfl rfl rfl rfl rfl dX11_where_46 rfl ?_
      refine V_istore (q := 51) dX11_where_49 (Nat.le_of_ble_eq_true rfl) trivial rfl ?_
      refine V_iload_n (q := 52) dX11_where_51 rfl rfl rfl ?_
      refine V_aload_n (q := 53) dX11_where_52 rfl rfl rfl ?_
      refine V_getO (q := 56) (t := 91) fl_X11_77 rfl rfl rfl rfl dX11_where_53 rfl ?_
      refine V_iload (q := 58) dX11_where_56 rfl rfl ?_
      obtain ⟨hi19, h⟩ := ldA_i h
      refine V_iaload (q := 59) rfl hi19 dX11_where_58 rfl ?_
      refine V_aload_n (q := 60) dX11_where_59 rfl rfl rfl ?_
      refine V_getO (q := 63) (t := 92) fl_X11_80 rfl rfl rfl rfl dX11_where_60 rfl ?_
      refine V_iload (q := 65) dX11_where_63 rfl rfl ?_
      obtain ⟨hi21, h⟩ := ldA_i h
      refine V_iaload (q := 66) rfl hi21 dX11_where_65 rfl ?_
      obtain ⟨v22, μ23, hc24, h⟩ := bd_i h
      refine V_cS1 (q := 69) (v := vI v22) (kX11_in (d - 1) (by omega) hc24) (by omega) mv_X11_213 rfl rfl rfl rfl dX11_where_66 rfl ?_
      refine V_ifeq (q := 85) (q2 := 72) dX11_where_69 (by decide) rfl (fun hc25 => ?_) (fun hc25 => ?_)
      · have h := ifT hc25 h
        refine V_iinc (q := 88) dX11_where_85 rfl (Nat.le_of_ble_eq_true rfl) trivial rfl ?_
        refine V_goto (q := 33) dX11_where_88 (by decide) ?_
        exact V_weak (ih h) (sb_s rfl (sb_s rfl (sb_s rfl (sb_s rfl (sb_s rfl (sb_n sb_0))))))
      · have h := ifF hc25 h
        exact V_weak (hk_72 _ _ h) (sb_s rfl (sb_s rfl (sb_n (sb_n (sb_n (sb_s rfl sb_0))))))
set_option maxHeartbeats 4000000 in
set_option maxRecDepth 100000 in
theorem kX11_where (d : Nat) (hd : 8 ≤ d) {l1 : Int} {l2 : Int} {l3 : Int} {μ : Mm} {r : Int} {μ' : Mm} (h : X11_where l1 l2 l3 μ = some (r, μ')) : CC d mX11_where [vR 70, vI l1, vI l2, vI l3] μ r μ' := by
  unfold X11_where at h
  refine V_enter (by decide) (Nat.le_of_ble_eq_true rfl) ?_
  show VV d mX11_where 0 [some (vR 70), some (vI l1), some (vI l2), some (vI l3), none, none] [] μ r μ'
  refine V_aload_n (q := 1) dX11_where_0 rfl rfl rfl ?_
  refine V_iload_n (q := 2) dX11_where_1 rfl rfl rfl ?_
  obtain ⟨v1, μ2, hc3, h⟩ := bd_i h
  refine V_cV1 (q := 5) (v := vI v1) (kX11_isReady (d - 1) (by omega) hc3) (by omega) mv_X11_335 rfl rfl rfl rfl rfl rfl dX11_where_2 rfl ?_
  refine V_ifeq (q := 28) (q2 := 8) dX11_where_5 (by decide) rfl (fun hc4 => ?_) (fun hc4 => ?_)
  · have h := ifT hc4 h
    refine V_iconst (q := 29) dX11_where_28 rfl rfl ?_
    exact V_iret rfl h dX11_where_29
  · have h := ifF hc4 h
    refine V_aload_n (q := 9) dX11_where_8 rfl rfl rfl ?_
    refine V_iload_n (q := 10) dX11_where_9 rfl rfl rfl ?_
    obtain ⟨v5, μ6, hc7, h⟩ := bd_i h
    refine V_cV1 (q := 13) (v := vI v5) (kX11_isOrder (d - 1) (by omega) hc7) (by omega) mv_X11_338 rfl rfl rfl rfl rfl rfl dX11_where_10 rfl ?_
    refine V_ifeq (q := 28) (q2 := 16) dX11_where_13 (by decide) rfl (fun hc8 => ?_) (fun hc8 => ?_)
    · have h := ifT hc8 h
      refine V_iconst (q := 29) dX11_where_28 rfl rfl ?_
      exact V_iret rfl h dX11_where_29
    · have h := ifF hc8 h
      refine V_iload_n (q := 17) dX11_where_16 rfl rfl rfl ?_
      refine V_iflt (q := 28) (q2 := 20) dX11_where_17 (by decide) rfl (fun hc9 => ?_) (fun hc9 => ?_)
      · have h := ifT hc9 h
        refine V_iconst (q := 29) dX11_where_28 rfl rfl ?_
        exact V_iret rfl h dX11_where_29
      · have h := ifF hc9 h
        refine V_aload_n (q := 21) dX11_where_20 rfl rfl rfl ?_
        refine V_iload_n (q := 22) dX11_where_21 rfl rfl rfl ?_
        obtain ⟨v10, μ11, hc12, h⟩ := bd_i h
        refine V_cV1 (q := 25) (v := vI v10) (kX11_go (d - 1) (by omega) hc12) (by omega) mv_X11_341 rfl rfl rfl rfl rfl rfl dX11_where_22 rfl ?_
        refine V_ifne (q := 30) (q2 := 28) dX11_where_25 (by decide) rfl (fun hc13 => ?_) (fun hc13 => ?_)
        · have h := ifF hc13 h
          refine V_iconst (q := 31) dX11_where_30 rfl rfl ?_
          refine V_istore (q := 33) dX11_where_31 (Nat.le_of_ble_eq_true rfl) trivial rfl ?_
          refine V_weak (kX11_where_L33 d hd (fun μ26 h => ?_) (fun v30 μ31 h => ?_) FU h) (sb_s rfl (sb_s rfl (sb_s rfl (sb_s rfl (sb_s rfl (sb_n sb_0))))))
          · refine V_iload_n (q := 92) dX11_where_91 rfl rfl rfl ?_
            refine V_aload_n (q := 93) dX11_where_92 rfl rfl rfl ?_
            refine V_getO (q := 96) (t := 92) fl_X11_80 rfl rfl rfl rfl dX11_where_93 rfl ?_
            refine V_iload_n (q := 97) dX11_where_96 rfl rfl rfl ?_
            refine V_bipush (q := 99) dX11_where_97 rfl rfl rfl ?_
            refine V_irem (q := 100) dX11_where_99 (by decide) rfl ?_
            obtain ⟨hi28, h⟩ := ldA_i h
            refine V_iaload (q := 101) rfl hi28 dX11_where_100 rfl ?_
            refine V_icmple (q := 109) (q2 := 104) dX11_where_101 (by decide) rfl (fun hc29 => ?_) (fun hc29 => ?_)
            · have h := ifT hc29 h
              refine V_bipush (q := 111) dX11_where_109 rfl rfl rfl ?_
              exact V_iret rfl h dX11_where_111
            · have h := ifF hc29 h
              refine V_bipush (q := 106) dX11_where_104 rfl rfl rfl ?_
              refine V_goto (q := 111) dX11_where_106 (by decide) ?_
              exact V_iret rfl h dX11_where_111
          · refine V_aload_n (q := 73) dX11_where_72 rfl rfl rfl ?_
            refine V_getO (q := 76) (t := 83) fl_X11_46 rfl rfl rfl rfl dX11_where_73 rfl ?_
            refine V_bipush (q := 78) dX11_where_76 rfl rfl rfl ?_
            refine V_iload_n (q := 79) dX11_where_78 rfl rfl rfl ?_
            refine V_imul (q := 80) dX11_where_79 rfl ?_
            refine V_iload (q := 82) dX11_where_80 rfl rfl ?_
            refine V_iadd (q := 83) dX11_where_82 rfl ?_
            obtain ⟨hi33, h⟩ := ldA_i h
            refine V_iaload (q := 84) rfl hi33 dX11_where_83 rfl ?_
            exact V_iret rfl h dX11_where_84
        · have h := ifT hc13 h
          refine V_iconst (q := 29) dX11_where_28 rfl rfl ?_
          exact V_iret rfl h dX11_where_29
abbrev mX11_search : Mth := (yX11_search, cX11_search, 12, none)
theorem mi_X11_search : Cond.instanceMethod yX11_search ∈ tG ∧ Cond.selects yX11_search.cls yX11_search yX11_search ∈ tG ∧ Cond.initialized yX11_search.cls ∈ tG ∧ Cond.code yX11_search cX11_search 12 (none) ∈ tG ∧ (yX11_search.cls ≠ "java/lang/invoke/MethodHandle" ∧ yX11_search.cls ≠ "java/lang/invoke/VarHandle" ∧ (parseMethodDescriptor yX11_search.desc).map (fun d => d.parameters.length) = some 6) ∧ 12 ≤ 60 := ⟨(tG_of (List.mem_of_getElem? (i := 1614) (by decide +kernel)) (by decide +kernel)), (tG_of (List.mem_of_getElem? (i := 91) (by decide +kernel)) (by decide +kernel)), (tG_of (List.mem_of_getElem? (i := 112) (by decide +kernel)) (by decide +kernel)), (tG_of (List.mem_of_getElem? (i := 1615) (by decide +kernel)) (by decide +kernel)), ⟨by decide, by decide, by decide +kernel⟩, by decide⟩
theorem mv_X11_353 : mV RX11 353 mX11_search 6 := ⟨(tG_of (List.mem_of_getElem? (i := 1612) (by decide +kernel)) (by decide +kernel)), mi_X11_search⟩
theorem dX11_search_0 : decode cX11_search 0 = .ok (.aload_n 0, 1) := by decide +kernel
theorem dX11_search_1 : decode cX11_search 1 = .ok (.getfield 347, 3) := by decide +kernel
theorem dX11_search_4 : decode cX11_search 4 = .ok (.iconst (-1), 1) := by decide +kernel
theorem dX11_search_5 : decode cX11_search 5 = .ok (.if_icmp .eq 13, 3) := by decide +kernel
theorem dX11_search_8 : decode cX11_search 8 = .ok (.iload 5, 2) := by decide +kernel
theorem dX11_search_10 : decode cX11_search 10 = .ok (.aload_n 0, 1) := by decide +kernel
theorem dX11_search_11 : decode cX11_search 11 = .ok (.getfield 350, 3) := by decide +kernel
theorem dX11_search_14 : decode cX11_search 14 = .ok (.if_icmp .lt 4, 3) := by decide +kernel
theorem dX11_search_17 : decode cX11_search 17 = .ok (.return_, 1) := by decide +kernel
theorem dX11_search_18 : decode cX11_search 18 = .ok (.iload_n 2, 1) := by decide +kernel
theorem dX11_search_19 : decode cX11_search 19 = .ok (.ifCond .ne 16, 3) := by decide +kernel
theorem dX11_search_22 : decode cX11_search 22 = .ok (.aload_n 0, 1) := by decide +kernel
theorem dX11_search_23 : decode cX11_search 23 = .ok (.iload 6, 2) := by decide +kernel
theorem dX11_search_25 : decode cX11_search 25 = .ok (.putfield 347, 3) := by decide +kernel
theorem dX11_search_28 : decode cX11_search 28 = .ok (.aload_n 0, 1) := by decide +kernel
theorem dX11_search_29 : decode cX11_search 29 = .ok (.iload 5, 2) := by decide +kernel
theorem dX11_search_31 : decode cX11_search 31 = .ok (.putfield 350, 3) := by decide +kernel
theorem dX11_search_34 : decode cX11_search 34 = .ok (.return_, 1) := by decide +kernel
theorem dX11_search_35 : decode cX11_search 35 = .ok (.iconst 0, 1) := by decide +kernel
theorem dX11_search_36 : decode cX11_search 36 = .ok (.istore 7, 2) := by decide +kernel
theorem dX11_search_38 : decode cX11_search 38 = .ok (.iload 7, 2) := by decide +kernel
theorem dX11_search_40 : decode cX11_search 40 = .ok (.aload_n 0, 1) := by decide +kernel
theorem dX11_search_41 : decode cX11_search 41 = .ok (.getfield 316, 3) := by decide +kernel
theorem dX11_search_44 : decode cX11_search 44 = .ok (.if_icmp .ge 153, 3) := by decide +kernel
theorem dX11_search_47 : decode cX11_search 47 = .ok (.iload_n 2, 1) := by decide +kernel
theorem dX11_search_48 : decode cX11_search 48 = .ok (.iload 7, 2) := by decide +kernel
theorem dX11_search_50 : decode cX11_search 50 = .ok (.invokestatic 227, 3) := by decide +kernel
theorem dX11_search_53 : decode cX11_search 53 = .ok (.ifCond .eq 18, 3) := by decide +kernel
theorem dX11_search_56 : decode cX11_search 56 = .ok (.aload_n 0, 1) := by decide +kernel
theorem dX11_search_57 : decode cX11_search 57 = .ok (.getfield 71, 3) := by decide +kernel
theorem dX11_search_60 : decode cX11_search 60 = .ok (.bipush 8, 2) := by decide +kernel
theorem dX11_search_62 : decode cX11_search 62 = .ok (.iload_n 3, 1) := by decide +kernel
theorem dX11_search_63 : decode cX11_search 63 = .ok (.imul, 1) := by decide +kernel
theorem dX11_search_64 : decode cX11_search 64 = .ok (.iload 7, 2) := by decide +kernel
theorem dX11_search_66 : decode cX11_search 66 = .ok (.iadd, 1) := by decide +kernel
theorem dX11_search_67 : decode cX11_search 67 = .ok (.iaload, 1) := by decide +kernel
theorem dX11_search_68 : decode cX11_search 68 = .ok (.goto 4, 3) := by decide +kernel
theorem dX11_search_71 : decode cX11_search 71 = .ok (.iconst (-1), 1) := by decide +kernel
theorem dX11_search_72 : decode cX11_search 72 = .ok (.istore 8, 2) := by decide +kernel
theorem dX11_search_74 : decode cX11_search 74 = .ok (.iload 8, 2) := by decide +kernel
theorem dX11_search_76 : decode cX11_search 76 = .ok (.iconst (-1), 1) := by decide +kernel
theorem dX11_search_77 : decode cX11_search 77 = .ok (.if_icmp .eq 114, 3) := by decide +kernel
theorem dX11_search_80 : decode cX11_search 80 = .ok (.iload 4, 2) := by decide +kernel
theorem dX11_search_82 : decode cX11_search 82 = .ok (.iload 8, 2) := by decide +kernel
theorem dX11_search_84 : decode cX11_search 84 = .ok (.aload_n 0, 1) := by decide +kernel
theorem dX11_search_85 : decode cX11_search 85 = .ok (.getfield 319, 3) := by decide +kernel
theorem dX11_search_88 : decode cX11_search 88 = .ok (.imul, 1) := by decide +kernel
theorem dX11_search_89 : decode cX11_search 89 = .ok (.iadd, 1) := by decide +kernel
theorem dX11_search_90 : decode cX11_search 90 = .ok (.aload_n 0, 1) := by decide +kernel
theorem dX11_search_91 : decode cX11_search 91 = .ok (.getfield 74, 3) := by decide +kernel
theorem dX11_search_94 : decode cX11_search 94 = .ok (.iload 7, 2) := by decide +kernel
theorem dX11_search_96 : decode cX11_search 96 = .ok (.iaload, 1) := by decide +kernel
theorem dX11_search_97 : decode cX11_search 97 = .ok (.iadd, 1) := by decide +kernel
theorem dX11_search_98 : decode cX11_search 98 = .ok (.aload_n 0, 1) := by decide +kernel
theorem dX11_search_99 : decode cX11_search 99 = .ok (.getfield 68, 3) := by decide +kernel
theorem dX11_search_102 : decode cX11_search 102 = .ok (.iload 7, 2) := by decide +kernel
theorem dX11_search_104 : decode cX11_search 104 = .ok (.iaload, 1) := by decide +kernel
theorem dX11_search_105 : decode cX11_search 105 = .ok (.invokestatic 302, 3) := by decide +kernel
theorem dX11_search_108 : decode cX11_search 108 = .ok (.istore 9, 2) := by decide +kernel
theorem dX11_search_110 : decode cX11_search 110 = .ok (.iload 9, 2) := by decide +kernel
theorem dX11_search_112 : decode cX11_search 112 = .ok (.aload_n 0, 1) := by decide +kernel
theorem dX11_search_113 : decode cX11_search 113 = .ok (.getfield 68, 3) := by decide +kernel
theorem dX11_search_116 : decode cX11_search 116 = .ok (.iload 7, 2) := by decide +kernel
theorem dX11_search_118 : decode cX11_search 118 = .ok (.iaload, 1) := by decide +kernel
theorem dX11_search_119 : decode cX11_search 119 = .ok (.isub, 1) := by decide +kernel
theorem dX11_search_120 : decode cX11_search 120 = .ok (.istore 10, 2) := by decide +kernel
theorem dX11_search_122 : decode cX11_search 122 = .ok (.iload_n 1, 1) := by decide +kernel
theorem dX11_search_123 : decode cX11_search 123 = .ok (.ifCond .ne 11, 3) := by decide +kernel
theorem dX11_search_126 : decode cX11_search 126 = .ok (.iload 5, 2) := by decide +kernel
theorem dX11_search_128 : decode cX11_search 128 = .ok (.iload 10, 2) := by decide +kernel
theorem dX11_search_130 : decode cX11_search 130 = .ok (.iadd, 1) := by decide +kernel
theorem dX11_search_131 : decode cX11_search 131 = .ok (.goto 31, 3) := by decide +kernel
theorem dX11_search_134 : decode cX11_search 134 = .ok (.iload_n 1, 1) := by decide +kernel
theorem dX11_search_135 : decode cX11_search 135 = .ok (.iconst 1, 1) := by decide +kernel
theorem dX11_search_136 : decode cX11_search 136 = .ok (.if_icmp .ne 13, 3) := by decide +kernel
theorem dX11_search_139 : decode cX11_search 139 = .ok (.iload 5, 2) := by decide +kernel
theorem dX11_search_141 : decode cX11_search 141 = .ok (.iload 10, 2) := by decide +kernel
theorem dX11_search_143 : decode cX11_search 143 = .ok (.invokestatic 302, 3) := by decide +kernel
theorem dX11_search_146 : decode cX11_search 146 = .ok (.goto 16, 3) := by decide +kernel
theorem dX11_search_149 : decode cX11_search 149 = .ok (.iload 5, 2) := by decide +kernel
theorem dX11_search_151 : decode cX11_search 151 = .ok (.iload 10, 2) := by decide +kernel
theorem dX11_search_153 : decode cX11_search 153 = .ok (.ifCond .le 7, 3) := by decide +kernel
theorem dX11_search_156 : decode cX11_search 156 = .ok (.iconst 1, 1) := by decide +kernel
theorem dX11_search_157 : decode cX11_search 157 = .ok (.goto 4, 3) := by decide +kernel
theorem dX11_search_160 : decode cX11_search 160 = .ok (.iconst 0, 1) := by decide +kernel
theorem dX11_search_161 : decode cX11_search 161 = .ok (.iadd, 1) := by decide +kernel
theorem dX11_search_162 : decode cX11_search 162 = .ok (.istore 11, 2) := by decide +kernel
theorem dX11_search_164 : decode cX11_search 164 = .ok (.aload_n 0, 1) := by decide +kernel
theorem dX11_search_165 : decode cX11_search 165 = .ok (.iload_n 1, 1) := by decide +kernel
theorem dX11_search_166 : decode cX11_search 166 = .ok (.iload_n 2, 1) := by decide +kernel
theorem dX11_search_167 : decode cX11_search 167 = .ok (.iconst 1, 1) := by decide +kernel
theorem dX11_search_168 : decode cX11_search 168 = .ok (.iload 7, 2) := by decide +kernel
theorem dX11_search_170 : decode cX11_search 170 = .ok (.ishl, 1) := by decide +kernel
theorem dX11_search_171 : decode cX11_search 171 = .ok (.iconst (-1), 1) := by decide +kernel
theorem dX11_search_172 : decode cX11_search 172 = .ok (.ixor, 1) := by decide +kernel
theorem dX11_search_173 : decode cX11_search 173 = .ok (.iand, 1) := by decide +kernel
theorem dX11_search_174 : decode cX11_search 174 = .ok (.iload 7, 2) := by decide +kernel
theorem dX11_search_176 : decode cX11_search 176 = .ok (.iload 9, 2) := by decide +kernel
theorem dX11_search_178 : decode cX11_search 178 = .ok (.iload 11, 2) := by decide +kernel
theorem dX11_search_180 : decode cX11_search 180 = .ok (.bipush 10, 2) := by decide +kernel
theorem dX11_search_182 : decode cX11_search 182 = .ok (.iload 6, 2) := by decide +kernel
theorem dX11_search_184 : decode cX11_search 184 = .ok (.imul, 1) := by decide +kernel
theorem dX11_search_185 : decode cX11_search 185 = .ok (.iload 7, 2) := by decide +kernel
theorem dX11_search_187 : decode cX11_search 187 = .ok (.iadd, 1) := by decide +kernel
theorem dX11_search_188 : decode cX11_search 188 = .ok (.invokevirtual 353, 3) := by decide +kernel
theorem dX11_search_191 : decode cX11_search 191 = .ok (.iinc 7 1, 3) := by decide +kernel
theorem dX11_search_194 : decode cX11_search 194 = .ok (.goto (-156), 3) := by decide +kernel
theorem dX11_search_197 : decode cX11_search 197 = .ok (.return_, 1) := by decide +kernel
def X11_search_J162 (rec : Int → Int → Int → Int → Int → Int → Mm → Rs) (k38 : Int → Mm → Rs) (l1 : Int) (l2 : Int) (l3 : Int) (l4 : Int) (l5 : Int) (l6 : Int) (l7 : Int) (l9 : Int) (s0 : Int) (μ : Mm) : Rs := bd (rec l1 (bA l2 (bX (bL 1 l7) (-1))) l7 l9 s0 (iA (iM 10 l6) l7) μ) fun v21 μ22 => k38 (iA l7 1) μ22
def X11_search_J161 (rec : Int → Int → Int → Int → Int → Int → Mm → Rs) (k38 : Int → Mm → Rs) (l1 : Int) (l2 : Int) (l3 : Int) (l4 : Int) (l5 : Int) (l6 : Int) (l7 : Int) (l9 : Int) (s0 : Int) (s1 : Int) (μ : Mm) : Rs := X11_search_J162 rec (fun w7 μq => k38 w7 μq) l1 l2 l3 l4 l5 l6 l7 l9 (iA s0 s1) μ
def X11_search_J72 (rec : Int → Int → Int → Int → Int → Int → Mm → Rs) (k38 : Int → Mm → Rs) (l1 : Int) (l2 : Int) (l3 : Int) (l4 : Int) (l5 : Int) (l6 : Int) (l7 : Int) (s0 : Int) (μ : Mm) : Rs := if s0 = (-1) then (k38 (iA l7 1) μ) else (ldA μ 90 l7 fun v9 => ldA μ 88 l7 fun v11 => bd (J9_max_7cf53 (iA (iA l4 (iM s0 (μ 70 38))) v9) v11 μ) fun v13 μ14 => ldA μ14 88 l7 fun v16 => if l1 = 0 then (X11_search_J162 rec (fun w7 μq => k38 w7 μq) l1 l2 l3 l4 l5 l6 l7 v13 (iA l5 (iS v13 v16)) μ14) else (if l1 = 1 then (bd (J9_max_7cf53 l5 (iS v13 v16) μ14) fun v24 μ25 => X11_search_J162 rec (fun w7 μq => k38 w7 μq) l1 l2 l3 l4 l5 l6 l7 v13 v24 μ25) else (if (iS v13 v16) ≤ 0 then (X11_search_J161 rec (fun w7 μq => k38 w7 μq) l1 l2 l3 l4 l5 l6 l7 v13 l5 0 μ14) else (X11_search_J161 rec (fun w7 μq => k38 w7 μq) l1 l2 l3 l4 l5 l6 l7 v13 l5 1 μ14))))
def X11_search_L38 (rec : Int → Int → Int → Int → Int → Int → Mm → Rs) (l1 : Int) (l2 : Int) (l3 : Int) (l4 : Int) (l5 : Int) (l6 : Int) : Nat → Int → Mm → Rs
  | 0, _, _ => none
  | n + 1, l7, μ => if (μ 70 37) ≤ l7 then (some (0, μ)) else (bd (X11_has l2 l7 μ) fun v4 μ5 => if v4 = 0 then (X11_search_J72 rec (fun w7 μq => X11_search_L38 rec l1 l2 l3 l4 l5 l6 n w7 μq) l1 l2 l3 l4 l5 l6 l7 (-1) μ5) else (ldA μ5 89 (iA (iM 8 l3) l7) fun v27 => X11_search_J72 rec (fun w7 μq => X11_search_L38 rec l1 l2 l3 l4 l5 l6 n w7 μq) l1 l2 l3 l4 l5 l6 l7 v27 μ5))
def X11_search_J18 (rec : Int → Int → Int → Int → Int → Int → Mm → Rs) (l1 : Int) (l2 : Int) (l3 : Int) (l4 : Int) (l5 : Int) (l6 : Int) (μ : Mm) : Rs := if l2 = 0 then (sF μ 70 41 l6 fun μ29 => sF μ29 70 42 l5 fun μ30 => some (0, μ30)) else (X11_search_L38 rec l1 l2 l3 l4 l5 l6 FU 0 μ)
def X11_search : Nat → Int → Int → Int → Int → Int → Int → Mm → Rs
  | 0, _, _, _, _, _, _, _ => none
  | n + 1, l1, l2, l3, l4, l5, l6, μ => if (μ 70 41) = (-1) then (X11_search_J18 (fun w0 w1 w2 w3 w4 w5 μq => X11_search n w0 w1 w2 w3 w4 w5 μq) l1 l2 l3 l4 l5 l6 μ) else (if l5 < (μ 70 42) then (X11_search_J18 (fun w0 w1 w2 w3 w4 w5 μq => X11_search n w0 w1 w2 w3 w4 w5 μq) l1 l2 l3 l4 l5 l6 μ) else (some (0, μ)))
set_option maxHeartbeats 4000000 in
set_option maxRecDepth 100000 in
theorem kX11_search_J162 (d : Nat) (hd : d0 + 1 ≤ d) (hb : 3 ≤ d) {rec : Int → Int → Int → Int → Int → Int → Mm → Rs} (hrec : ∀ {q1 : Int} {q2 : Int} {q3 : Int} {q4 : Int} {q5 : Int} {q6 : Int} {μ1 : Mm} {r1 : Int} {μ2 : Mm}, rec q1 q2 q3 q4 q5 q6 μ1 = some (r1, μ2) → CC d0 mX11_search [vR 70, vI q1, vI q2, vI q3, vI q4, vI q5, vI q6] μ1 r1 μ2) {k38 : Int → Mm → Rs} {l1 : Int} {l2 : Int} {l3 : Int} {l4 : Int} {l5 : Int} {l6 : Int} {l7 : Int} {l9 : Int} {s0 : Int} {μ : Mm} {r : Int} {μ' : Mm} (hk_38 : ∀ (v7 : Int) (μ1 : Mm), k38 v7 μ1 = some (r, μ') → VV d mX11_search 38 [some (vR 70), some (vI l1), some (vI l2), some (vI l3), some (vI l4), some (vI l5), some (vI l6), some (vI v7), none, none, none, none] [] μ1 r μ') (h : X11_search_J162 rec k38 l1 l2 l3 l4 l5 l6 l7 l9 s0 μ = some (r, μ')) : VV d mX11_search 162 [some (vR 70), some (vI l1), some (vI l2), some (vI l3), some (vI l4), some (vI l5), some (vI l6), some (vI l7), none, some (vI l9), none, none] [vI s0] μ r μ' := by
  unfold X11_search_J162 at h
  refine V_istore (q := 164) dX11_search_162 (Nat.le_of_ble_eq_true rfl) trivial rfl ?_
  refine V_aload_n (q := 165) dX11_search_164 rfl rfl rfl ?_
  refine V_iload_n (q := 166) dX11_search_165 rfl rfl rfl ?_
  refine V_iload_n (q := 167) dX11_search_166 rfl rfl rfl ?_
  refine V_iconst (q := 168) dX11_search_167 rfl rfl ?_
  refine V_iload (q := 170) dX11_search_168 rfl rfl ?_
  refine V_ishl (q := 171) dX11_search_170 rfl ?_
  refine V_iconst (q := 172) dX11_search_171 rfl rfl ?_
  refine V_ixor (q := 173) dX11_search_172 rfl ?_
  refine V_iand (q := 174) dX11_search_173 rfl ?_
  refine V_iload (q := 176) dX11_search_174 rfl rfl ?_
  refine V_iload (q := 178) dX11_search_176 rfl rfl ?_
  refine V_iload (q := 180) dX11_search_178 rfl rfl ?_
  refine V_bipush (q := 182) dX11_search_180 rfl rfl rfl ?_
  refine V_iload (q := 184) dX11_search_182 rfl rfl ?_
  refine V_imul (q := 185) dX11_search_184 rfl ?_
  refine V_iload (q := 187) dX11_search_185 rfl rfl ?_
  refine V_iadd (q := 188) dX11_search_187 rfl ?_
  obtain ⟨v21, μ22, hc23, h⟩ := bd_i h
  refine V_cV0 (q := 191) (hrec hc23) (by omega) mv_X11_353 rfl rfl rfl rfl rfl rfl dX11_search_188 rfl ?_
  refine V_iinc (q := 194) dX11_search_191 rfl (Nat.le_of_ble_eq_true rfl) trivial rfl ?_
  refine V_goto (q := 38) dX11_search_194 (by decide) ?_
  exact V_weak (hk_38 _ _ h) (sb_s rfl (sb_s rfl (sb_s rfl (sb_s rfl (sb_s rfl (sb_s rfl (sb_s rfl (sb_s rfl (sb_n (sb_n (sb_n (sb_n sb_0))))))))))))
set_option maxHeartbeats 4000000 in
set_option maxRecDepth 100000 in
theorem kX11_search_J161 (d : Nat) (hd : d0 + 1 ≤ d) (hb : 3 ≤ d) {rec : Int → Int → Int → Int → Int → Int → Mm → Rs} (hrec : ∀ {q1 : Int} {q2 : Int} {q3 : Int} {q4 : Int} {q5 : Int} {q6 : Int} {μ1 : Mm} {r1 : Int} {μ2 : Mm}, rec q1 q2 q3 q4 q5 q6 μ1 = some (r1, μ2) → CC d0 mX11_search [vR 70, vI q1, vI q2, vI q3, vI q4, vI q5, vI q6] μ1 r1 μ2) {k38 : Int → Mm → Rs} {l1 : Int} {l2 : Int} {l3 : Int} {l4 : Int} {l5 : Int} {l6 : Int} {l7 : Int} {l9 : Int} {s0 : Int} {s1 : Int} {μ : Mm} {r : Int} {μ' : Mm} (hk_38 : ∀ (v7 : Int) (μ1 : Mm), k38 v7 μ1 = some (r, μ') → VV d mX11_search 38 [some (vR 70), some (vI l1), some (vI l2), some (vI l3), some (vI l4), some (vI l5), some (vI l6), some (vI v7), none, none, none, none] [] μ1 r μ') (h : X11_search_J161 rec k38 l1 l2 l3 l4 l5 l6 l7 l9 s0 s1 μ = some (r, μ')) : VV d mX11_search 161 [some (vR 70), some (vI l1), some (vI l2), some (vI l3), some (vI l4), some (vI l5), some (vI l6), some (vI l7), none, some (vI l9), none, none] [vI s0, vI s1] μ r μ' := by
  unfold X11_search_J161 at h
  refine V_iadd (q := 162) dX11_search_161 rfl ?_
  exact V_weak (kX11_search_J162 d hd hb hrec (fun _ _ h => hk_38 _ _ h) h) (sb_s rfl (sb_s rfl (sb_s rfl (sb_s rfl (sb_s rfl (sb_s rfl (sb_s rfl (sb_s rfl (sb_n (sb_s rfl (sb_n (sb_n sb_0))))))))))))
set_option maxHeartbeats 4000000 in
set_option maxRecDepth 100000 in
theorem kX11_search_J72 (d : Nat) (hd : d0 + 1 ≤ d) (hb : 3 ≤ d) {rec : Int → Int → Int → Int → Int → Int → Mm → Rs} (hrec : ∀ {q1 : Int} {q2 : Int} {q3 : Int} {q4 : Int} {q5 : Int} {q6 : Int} {μ1 : Mm} {r1 : Int} {μ2 : Mm}, rec q1 q2 q3 q4 q5 q6 μ1 = some (r1, μ2) → CC d0 mX11_search [vR 70, vI q1, vI q2, vI q3, vI q4, vI q5, vI q6] μ1 r1 μ2) {k38 : Int → Mm → Rs} {l1 : Int} {l2 : Int} {l3 : Int} {l4 : Int} {l5 : Int} {l6 : Int} {l7 : Int} {s0 : Int} {μ : Mm} {r : Int} {μ' : Mm} (hk_38 : ∀ (v7 : Int) (μ1 : Mm), k38 v7 μ1 = some (r, μ') → VV d mX11_search 38 [some (vR 70), some (vI l1), some (vI l2), some (vI l3), some (vI l4), some (vI l5), some (vI l6), some (vI v7), none, none, none, none] [] μ1 r μ') (h : X11_search_J72 rec k38 l1 l2 l3 l4 l5 l6 l7 s0 μ = some (r, μ')) : VV d mX11_search 72 [some (vR 70), some (vI l1), some (vI l2), some (vI l3), some (vI l4), some (vI l5), some (vI l6), some (vI l7), none, none, none, none] [vI s0] μ r μ' := by
  unfold X11_search_J72 at h
  refine V_istore (q := 74) dX11_search_72 (Nat.le_of_ble_eq_true rfl) trivial rfl ?_
  refine V_iload (q := 76) dX11_search_74 rfl rfl ?_
  refine V_iconst (q := 77) dX11_search_76 rfl rfl ?_
  refine V_icmpeq (q := 191) (q2 := 80) dX11_search_77 (by decide) rfl (fun hc8 => ?_) (fun hc8 => ?_)
  · have h := ifT hc8 h
    refine V_iinc (q := 194) dX11_search_191 rfl (Nat.le_of_ble_eq_true rfl) trivial rfl ?_
    refine V_goto (q := 38) dX11_search_194 (by decide) ?_
    exact V_weak (hk_38 _ _ h) (sb_s rfl (sb_s rfl (sb_s rfl (sb_s rfl (sb_s rfl (sb_s rfl (sb_s rfl (sb_s rfl (sb_n (sb_n (sb_n (sb_n sb_0))))))))))))
  · have h := ifF hc8 h
    refine V_iload (q := 82) dX11_search_80 rfl rfl ?_
    refine V_iload (q := 84) dX11_search_82 rfl rfl ?_
    refine V_aload_n (q := 85) dX11_search_84 rfl rfl rfl ?_
    refine V_getI (q := 88) fl_X11_319 rfl rfl rfl dX11_search_85 rfl ?_
    refine V_imul (q := 89) dX11_search_88 rfl ?_
    refine V_iadd (q := 90) dX11_search_89 rfl ?_
    refine V_aload_n (q := 91) dX11_search_90 rfl rfl rfl ?_
    refine V_getO (q := 94) (t := 90) fl_X11_74 rfl rfl rfl rfl dX11_search_91 rfl ?_
    refine V_iload (q := 96) dX11_search_94 rfl rfl ?_
    obtain ⟨hi10, h⟩ := ldA_i h
    refine V_iaload (q := 97) rfl hi10 dX11_search_96 rfl ?_
    refine V_iadd (q := 98) dX11_search_97 rfl ?_
    refine V_aload_n (q := 99) dX11_search_98 rfl rfl rfl ?_
    refine V_getO (q := 102) (t := 88) fl_X11_68 rfl rfl rfl rfl dX11_search_99 rfl ?_
    refine V_iload (q := 104) dX11_search_102 rfl rfl ?_
    obtain ⟨hi12, h⟩ := ldA_i h
    refine V_iaload (q := 105) rfl hi12 dX11_search_104 rfl ?_
    obtain ⟨v13, μ14, hc15, h⟩ := bd_i h
    refine V_cS1 (q := 108) (v := vI v13) (kJ9_max_7cf53 (d - 1) (by omega) hc15) (by omega) mv_X11_302 rfl rfl rfl rfl dX11_search_105 rfl ?_
    refine V_istore (q := 110) dX11_search_108 (Nat.le_of_ble_eq_true rfl) trivial rfl ?_
    refine V_iload (q := 112) dX11_search_110 rfl rfl ?_
    refine V_aload_n (q := 113) dX11_search_112 rfl rfl rfl ?_
    refine V_getO (q := 116) (t := 88) fl_X11_68 rfl rfl rfl rfl dX11_search_113 rfl ?_
    refine V_iload (q := 118) dX11_search_116 rfl rfl ?_
    obtain ⟨hi17, h⟩ := ldA_i h
    refine V_iaload (q := 119) rfl hi17 dX11_search_118 rfl ?_
    refine V_isub (q := 120) dX11_search_119 rfl ?_
    refine V_istore (q := 122) dX11_search_120 (Nat.le_of_ble_eq_true rfl) trivial rfl ?_
    refine V_iload_n (q := 123) dX11_search_122 rfl rfl rfl ?_
    refine V_ifne (q := 134) (q2 := 126) dX11_search_123 (by decide) rfl (fun hc18 => ?_) (fun hc18 => ?_)
    · have h := ifF hc18 h
      refine V_iload_n (q := 135) dX11_search_134 rfl rfl rfl ?_
      refine V_iconst (q := 136) dX11_search_135 rfl rfl ?_
      refine V_icmpne (q := 149) (q2 := 139) dX11_search_136 (by decide) rfl (fun hc19 => ?_) (fun hc19 => ?_)
      · have h := ifF hc19 h
        refine V_iload (q := 151) dX11_search_149 rfl rfl ?_
        refine V_iload (q := 153) dX11_search_151 rfl rfl ?_
        refine V_ifle (q := 160) (q2 := 156) dX11_search_153 (by decide) rfl (fun hc20 => ?_) (fun hc20 => ?_)
        · have h := ifT hc20 h
          refine V_iconst (q := 161) dX11_search_160 rfl rfl ?_
          exact V_weak (kX11_search_J161 d hd hb hrec (fun _ _ h => hk_38 _ _ h) h) (sb_s rfl (sb_s rfl (sb_s rfl (sb_s rfl (sb_s rfl (sb_s rfl (sb_s rfl (sb_s rfl (sb_n (sb_s rfl (sb_n (sb_n sb_0))))))))))))
        · have h := ifF hc20 h
          refine V_iconst (q := 157) dX11_search_156 rfl rfl ?_
          refine V_goto (q := 161) dX11_search_157 (by decide) ?_
          exact V_weak (kX11_search_J161 d hd hb hrec (fun _ _ h => hk_38 _ _ h) h) (sb_s rfl (sb_s rfl (sb_s rfl (sb_s rfl (sb_s rfl (sb_s rfl (sb_s rfl (sb_s rfl (sb_n (sb_s rfl (sb_n (sb_n sb_0))))))))))))
      · have h := ifT hc19 h
        refine V_iload (q := 141) dX11_search_139 rfl rfl ?_
        refine V_iload (q := 143) dX11_search_141 rfl rfl ?_
        obtain ⟨v24, μ25, hc26, h⟩ := bd_i h
        refine V_cS1 (q := 146) (v := vI v24) (kJ9_max_7cf53 (d - 1) (by omega) hc26) (by omega) mv_X11_302 rfl rfl rfl rfl dX11_search_143 rfl ?_
        refine V_goto (q := 162) dX11_search_146 (by decide) ?_
        exact V_weak (kX11_search_J162 d hd hb hrec (fun _ _ h => hk_38 _ _ h) h) (sb_s rfl (sb_s rfl (sb_s rfl (sb_s rfl (sb_s rfl (sb_s rfl (sb_s rfl (sb_s rfl (sb_n (sb_s rfl (sb_n (sb_n sb_0))))))))))))
    · have h := ifT hc18 h
      refine V_iload (q := 128) dX11_search_126 rfl rfl ?_
      refine V_iload (q := 130) dX11_search_128 rfl rfl ?_
      refine V_iadd (q := 131) dX11_search_130 rfl ?_
      refine V_goto (q := 162) dX11_search_131 (by decide) ?_
      exact V_weak (kX11_search_J162 d hd hb hrec (fun _ _ h => hk_38 _ _ h) h) (sb_s rfl (sb_s rfl (sb_s rfl (sb_s rfl (sb_s rfl (sb_s rfl (sb_s rfl (sb_s rfl (sb_n (sb_s rfl (sb_n (sb_n sb_0))))))))))))
set_option maxHeartbeats 4000000 in
set_option maxRecDepth 100000 in
theorem kX11_search_L38 (d : Nat) (hd : d0 + 1 ≤ d) (hb : 3 ≤ d) {rec : Int → Int → Int → Int → Int → Int → Mm → Rs} (hrec : ∀ {q1 : Int} {q2 : Int} {q3 : Int} {q4 : Int} {q5 : Int} {q6 : Int} {μ1 : Mm} {r1 : Int} {μ2 : Mm}, rec q1 q2 q3 q4 q5 q6 μ1 = some (r1, μ2) → CC d0 mX11_search [vR 70, vI q1, vI q2, vI q3, vI q4, vI q5, vI q6] μ1 r1 μ2) {l1 : Int} {l2 : Int} {l3 : Int} {l4 : Int} {l5 : Int} {l6 : Int} {r : Int} {μ' : Mm} : ∀ (n : Nat) {l7 : Int} {μ : Mm}, X11_search_L38 rec l1 l2 l3 l4 l5 l6 n l7 μ = some (r, μ') → VV d mX11_search 38 [some (vR 70), some (vI l1), some (vI l2), some (vI l3), some (vI l4), some (vI l5), some (vI l6), some (vI l7), none, none, none, none] [] μ r μ' := by
  intro n
  induction n with
  | zero => intro l7 μ h; rw [X11_search_L38] at h; cases h
  | succ n ih =>
    intro l7 μ h
    rw [X11_search_L38] at h
    refine V_iload (q := 40) dX11_search_38 rfl rfl ?_
    refine V_aload_n (q := 41) dX11_search_40 rfl rfl rfl ?_
    refine V_getI (q := 44) fl_X11_316 rfl rfl rfl dX11_search_41 rfl ?_
    refine V_icmpge (q := 197) (q2 := 47) dX11_search_44 (by decide) rfl (fun hc3 => ?_) (fun hc3 => ?_)
    · have h := ifT hc3 h
      exact V_vret rfl h dX11_search_197
    · have h := ifF hc3 h
      refine V_iload_n (q := 48) dX11_search_47 rfl rfl rfl ?_
      refine V_iload (q := 50) dX11_search_48 rfl rfl ?_
      obtain ⟨v4, μ5, hc6, h⟩ := bd_i h
      refine V_cS1 (q := 53) (v := vI v4) (kX11_has (d - 1) (by omega) hc6) (by omega) mv_X11_227 rfl rfl rfl rfl dX11_search_50 rfl ?_
      refine V_ifeq (q := 71) (q2 := 56) dX11_search_53 (by decide) rfl (fun hc7 => ?_) (fun hc7 => ?_)
      · have h := ifT hc7 h
        refine V_iconst (q := 72) dX11_search_71 rfl rfl ?_
        exact V_weak (kX11_search_J72 d hd hb hrec (fun _ _ h => ih h) h) (sb_s rfl (sb_s rfl (sb_s rfl (sb_s rfl (sb_s rfl (sb_s rfl (sb_s rfl (sb_s rfl (sb_n (sb_n (sb_n (sb_n sb_0))))))))))))
      · have h := ifF hc7 h
        refine V_aload_n (q := 57) dX11_search_56 rfl rfl rfl ?_
        refine V_getO (q := 60) (t := 89) fl_X11_71 rfl rfl rfl rfl dX11_search_57 rfl ?_
        refine V_bipush (q := 62) dX11_search_60 rfl rfl rfl ?_
        refine V_iload_n (q := 63) dX11_search_62 rfl rfl rfl ?_
        refine V_imul (q := 64) dX11_search_63 rfl ?_
        refine V_iload (q := 66) dX11_search_64 rfl rfl ?_
        refine V_iadd (q := 67) dX11_search_66 rfl ?_
        obtain ⟨hi28, h⟩ := ldA_i h
        refine V_iaload (q := 68) rfl hi28 dX11_search_67 rfl ?_
        refine V_goto (q := 72) dX11_search_68 (by decide) ?_
        exact V_weak (kX11_search_J72 d hd hb hrec (fun _ _ h => ih h) h) (sb_s rfl (sb_s rfl (sb_s rfl (sb_s rfl (sb_s rfl (sb_s rfl (sb_s rfl (sb_s rfl (sb_n (sb_n (sb_n (sb_n sb_0))))))))))))
set_option maxHeartbeats 4000000 in
set_option maxRecDepth 100000 in
theorem kX11_search_J18 (d : Nat) (hd : d0 + 1 ≤ d) (hb : 3 ≤ d) {rec : Int → Int → Int → Int → Int → Int → Mm → Rs} (hrec : ∀ {q1 : Int} {q2 : Int} {q3 : Int} {q4 : Int} {q5 : Int} {q6 : Int} {μ1 : Mm} {r1 : Int} {μ2 : Mm}, rec q1 q2 q3 q4 q5 q6 μ1 = some (r1, μ2) → CC d0 mX11_search [vR 70, vI q1, vI q2, vI q3, vI q4, vI q5, vI q6] μ1 r1 μ2) {l1 : Int} {l2 : Int} {l3 : Int} {l4 : Int} {l5 : Int} {l6 : Int} {μ : Mm} {r : Int} {μ' : Mm} (h : X11_search_J18 rec l1 l2 l3 l4 l5 l6 μ = some (r, μ')) : VV d mX11_search 18 [some (vR 70), some (vI l1), some (vI l2), some (vI l3), some (vI l4), some (vI l5), some (vI l6), none, none, none, none, none] [] μ r μ' := by
  unfold X11_search_J18 at h
  refine V_iload_n (q := 19) dX11_search_18 rfl rfl rfl ?_
  refine V_ifne (q := 35) (q2 := 22) dX11_search_19 (by decide) rfl (fun hc2 => ?_) (fun hc2 => ?_)
  · have h := ifF hc2 h
    refine V_iconst (q := 36) dX11_search_35 rfl rfl ?_
    refine V_istore (q := 38) dX11_search_36 (Nat.le_of_ble_eq_true rfl) trivial rfl ?_
    exact V_weak (kX11_search_L38 d hd hrec  FU h) (sb_s rfl (sb_s rfl (sb_s rfl (sb_s rfl (sb_s rfl (sb_s rfl (sb_s rfl (sb_s rfl (sb_n (sb_n (sb_n (sb_n sb_0))))))))))))
  · have h := ifT hc2 h
    refine V_aload_n (q := 23) dX11_search_22 rfl rfl rfl ?_
    refine V_iload (q := 25) dX11_search_23 rfl rfl ?_
    have h := sF_i h
    refine V_putI (q := 28) fl_X11_347 rfl rfl rfl dX11_search_25 rfl ?_
    refine V_aload_n (q := 29) dX11_search_28 rfl rfl rfl ?_
    refine V_iload (q := 31) dX11_search_29 rfl rfl ?_
    have h := sF_i h
    refine V_putI (q := 34) fl_X11_350 rfl rfl rfl dX11_search_31 rfl ?_
    exact V_vret rfl h dX11_search_34
set_option maxHeartbeats 4000000 in
set_option maxRecDepth 100000 in
theorem kX11_search : ∀ (n d : Nat) (hd : 10 * n + 12 ≤ d) {l1 : Int} {l2 : Int} {l3 : Int} {l4 : Int} {l5 : Int} {l6 : Int} {μ : Mm} {r : Int} {μ' : Mm} (h : X11_search n l1 l2 l3 l4 l5 l6 μ = some (r, μ')), CC d mX11_search [vR 70, vI l1, vI l2, vI l3, vI l4, vI l5, vI l6] μ r μ' := by
  intro n
  induction n with
  | zero => intro d hd l1 l2 l3 l4 l5 l6   μ r μ' h; rw [X11_search] at h; cases h
  | succ n ih =>
    intro d hd l1 l2 l3 l4 l5 l6   μ r μ' h
    have hb : 3 ≤ d := by omega
    obtain ⟨d0, hd0⟩ : ∃ z, z = 10 * n + 12 := ⟨_, rfl⟩
    have hd : d0 + 10 ≤ d := by omega
    have hrec : ∀ {q1 : Int} {q2 : Int} {q3 : Int} {q4 : Int} {q5 : Int} {q6 : Int} {μ1 : Mm} {r1 : Int} {μ2 : Mm}, ((fun w0 w1 w2 w3 w4 w5 μq => X11_search n w0 w1 w2 w3 w4 w5 μq)) q1 q2 q3 q4 q5 q6 μ1 = some (r1, μ2) → CC d0 mX11_search [vR 70, vI q1, vI q2, vI q3, vI q4, vI q5, vI q6] μ1 r1 μ2 := fun h1 => ih d0 (by omega) h1
    rw [X11_search] at h
    refine V_enter (by decide) (Nat.le_of_ble_eq_true rfl) ?_
    show VV d mX11_search 0 [some (vR 70), some (vI l1), some (vI l2), some (vI l3), some (vI l4), some (vI l5), some (vI l6), none, none, none, none, none] [] μ r μ'
    refine V_aload_n (q := 1) dX11_search_0 rfl rfl rfl ?_
    refine V_getI (q := 4) fl_X11_347 rfl rfl rfl dX11_search_1 rfl ?_
    refine V_iconst (q := 5) dX11_search_4 rfl rfl ?_
    refine V_icmpeq (q := 18) (q2 := 8) dX11_search_5 (by decide) rfl (fun hc1 => ?_) (fun hc1 => ?_)
    · have h := ifT hc1 h
      exact V_weak (kX11_search_J18 d (by omega) hb hrec h) (sb_s rfl (sb_s rfl (sb_s rfl (sb_s rfl (sb_s rfl (sb_s rfl (sb_s rfl (sb_n (sb_n (sb_n (sb_n (sb_n sb_0))))))))))))
    · have h := ifF hc1 h
      refine V_iload (q := 10) dX11_search_8 rfl rfl ?_
      refine V_aload_n (q := 11) dX11_search_10 rfl rfl rfl ?_
      refine V_getI (q := 14) fl_X11_350 rfl rfl rfl dX11_search_11 rfl ?_
      refine V_icmplt (q := 18) (q2 := 17) dX11_search_14 (by decide) rfl (fun hc31 => ?_) (fun hc31 => ?_)
      · have h := ifT hc31 h
        exact V_weak (kX11_search_J18 d (by omega) hb hrec h) (sb_s rfl (sb_s rfl (sb_s rfl (sb_s rfl (sb_s rfl (sb_s rfl (sb_s rfl (sb_n (sb_n (sb_n (sb_n (sb_n sb_0))))))))))))
      · have h := ifF hc31 h
        exact V_vret rfl h dX11_search_17
abbrev mX11_leastOf : Mth := (yX11_leastOf, cX11_leastOf, 3, some .int)
theorem mi_X11_leastOf : Cond.instanceMethod yX11_leastOf ∈ tG ∧ Cond.selects yX11_leastOf.cls yX11_leastOf yX11_leastOf ∈ tG ∧ Cond.initialized yX11_leastOf.cls ∈ tG ∧ Cond.code yX11_leastOf cX11_leastOf 3 (some .int) ∈ tG ∧ (yX11_leastOf.cls ≠ "java/lang/invoke/MethodHandle" ∧ yX11_leastOf.cls ≠ "java/lang/invoke/VarHandle" ∧ (parseMethodDescriptor yX11_leastOf.desc).map (fun d => d.parameters.length) = some 2) ∧ 3 ≤ 60 := ⟨(tG_of (List.mem_of_getElem? (i := 1610) (by decide +kernel)) (by decide +kernel)), (tG_of (List.mem_of_getElem? (i := 90) (by decide +kernel)) (by decide +kernel)), (tG_of (List.mem_of_getElem? (i := 112) (by decide +kernel)) (by decide +kernel)), (tG_of (List.mem_of_getElem? (i := 1611) (by decide +kernel)) (by decide +kernel)), ⟨by decide, by decide, by decide +kernel⟩, by decide⟩
theorem mv_X11_360 : mV RX11 360 mX11_leastOf 2 := ⟨(tG_of (List.mem_of_getElem? (i := 1608) (by decide +kernel)) (by decide +kernel)), mi_X11_leastOf⟩
theorem dX11_leastOf_0 : decode cX11_leastOf 0 = .ok (.aload_n 0, 1) := by decide +kernel
theorem dX11_leastOf_1 : decode cX11_leastOf 1 = .ok (.iconst (-1), 1) := by decide +kernel
theorem dX11_leastOf_2 : decode cX11_leastOf 2 = .ok (.putfield 347, 3) := by decide +kernel
theorem dX11_leastOf_5 : decode cX11_leastOf 5 = .ok (.aload_n 0, 1) := by decide +kernel
theorem dX11_leastOf_6 : decode cX11_leastOf 6 = .ok (.iconst (-1), 1) := by decide +kernel
theorem dX11_leastOf_7 : decode cX11_leastOf 7 = .ok (.putfield 350, 3) := by decide +kernel
theorem dX11_leastOf_10 : decode cX11_leastOf 10 = .ok (.aload_n 0, 1) := by decide +kernel
theorem dX11_leastOf_11 : decode cX11_leastOf 11 = .ok (.iload_n 1, 1) := by decide +kernel
theorem dX11_leastOf_12 : decode cX11_leastOf 12 = .ok (.iload_n 2, 1) := by decide +kernel
theorem dX11_leastOf_13 : decode cX11_leastOf 13 = .ok (.aload_n 0, 1) := by decide +kernel
theorem dX11_leastOf_14 : decode cX11_leastOf 14 = .ok (.getfield 316, 3) := by decide +kernel
theorem dX11_leastOf_17 : decode cX11_leastOf 17 = .ok (.iconst 0, 1) := by decide +kernel
theorem dX11_leastOf_18 : decode cX11_leastOf 18 = .ok (.iconst 0, 1) := by decide +kernel
theorem dX11_leastOf_19 : decode cX11_leastOf 19 = .ok (.iconst 0, 1) := by decide +kernel
theorem dX11_leastOf_20 : decode cX11_leastOf 20 = .ok (.invokevirtual 353, 3) := by decide +kernel
theorem dX11_leastOf_23 : decode cX11_leastOf 23 = .ok (.aload_n 0, 1) := by decide +kernel
theorem dX11_leastOf_24 : decode cX11_leastOf 24 = .ok (.getfield 350, 3) := by decide +kernel
theorem dX11_leastOf_27 : decode cX11_leastOf 27 = .ok (.ireturn, 1) := by decide +kernel
def X11_leastOf (l1 : Int) (l2 : Int) (μ : Mm) : Rs := sF μ 70 41 (-1) fun μ1 => sF μ1 70 42 (-1) fun μ2 => bd (X11_search RD l1 l2 (μ2 70 37) 0 0 0 μ2) fun v3 μ4 => some (μ4 70 42, μ4)
set_option maxHeartbeats 4000000 in
set_option maxRecDepth 100000 in
theorem kX11_leastOf (d : Nat) (hd : 133 ≤ d) {l1 : Int} {l2 : Int} {μ : Mm} {r : Int} {μ' : Mm} (h : X11_leastOf l1 l2 μ = some (r, μ')) : CC d mX11_leastOf [vR 70, vI l1, vI l2] μ r μ' := by
  unfold X11_leastOf at h
  refine V_enter (by decide) (Nat.le_of_ble_eq_true rfl) ?_
  show VV d mX11_leastOf 0 [some (vR 70), some (vI l1), some (vI l2)] [] μ r μ'
  refine V_aload_n (q := 1) dX11_leastOf_0 rfl rfl rfl ?_
  refine V_iconst (q := 2) dX11_leastOf_1 rfl rfl ?_
  have h := sF_i h
  refine V_putI (q := 5) fl_X11_347 rfl rfl rfl dX11_leastOf_2 rfl ?_
  refine V_aload_n (q := 6) dX11_leastOf_5 rfl rfl rfl ?_
  refine V_iconst (q := 7) dX11_leastOf_6 rfl rfl ?_
  have h := sF_i h
  refine V_putI (q := 10) fl_X11_350 rfl rfl rfl dX11_leastOf_7 rfl ?_
  refine V_aload_n (q := 11) dX11_leastOf_10 rfl rfl rfl ?_
  refine V_iload_n (q := 12) dX11_leastOf_11 rfl rfl rfl ?_
  refine V_iload_n (q := 13) dX11_leastOf_12 rfl rfl rfl ?_
  refine V_aload_n (q := 14) dX11_leastOf_13 rfl rfl rfl ?_
  refine V_getI (q := 17) fl_X11_316 rfl rfl rfl dX11_leastOf_14 rfl ?_
  refine V_iconst (q := 18) dX11_leastOf_17 rfl rfl ?_
  refine V_iconst (q := 19) dX11_leastOf_18 rfl rfl ?_
  refine V_iconst (q := 20) dX11_leastOf_19 rfl rfl ?_
  obtain ⟨v3, μ4, hc5, h⟩ := bd_i h
  refine V_cV0 (q := 23) (kX11_search RD (d - 1) (by unfold RD; omega) hc5) (by omega) mv_X11_353 rfl rfl rfl rfl rfl rfl dX11_leastOf_20 rfl ?_
  refine V_aload_n (q := 24) dX11_leastOf_23 rfl rfl rfl ?_
  refine V_getI (q := 27) fl_X11_350 rfl rfl rfl dX11_leastOf_24 rfl ?_
  exact V_iret rfl h dX11_leastOf_27
abbrev mX11_all : Mth := (yX11_all, cX11_all, 1, some .int)
theorem mi_X11_all : Cond.instanceMethod yX11_all ∈ tG ∧ Cond.selects yX11_all.cls yX11_all yX11_all ∈ tG ∧ Cond.initialized yX11_all.cls ∈ tG ∧ Cond.code yX11_all cX11_all 1 (some .int) ∈ tG ∧ (yX11_all.cls ≠ "java/lang/invoke/MethodHandle" ∧ yX11_all.cls ≠ "java/lang/invoke/VarHandle" ∧ (parseMethodDescriptor yX11_all.desc).map (fun d => d.parameters.length) = some 0) ∧ 1 ≤ 60 := ⟨(tG_of (List.mem_of_getElem? (i := 1606) (by decide +kernel)) (by decide +kernel)), (tG_of (List.mem_of_getElem? (i := 89) (by decide +kernel)) (by decide +kernel)), (tG_of (List.mem_of_getElem? (i := 112) (by decide +kernel)) (by decide +kernel)), (tG_of (List.mem_of_getElem? (i := 1607) (by decide +kernel)) (by decide +kernel)), ⟨by decide, by decide, by decide +kernel⟩, by decide⟩
theorem mv_X11_357 : mV RX11 357 mX11_all 0 := ⟨(tG_of (List.mem_of_getElem? (i := 1604) (by decide +kernel)) (by decide +kernel)), mi_X11_all⟩
theorem dX11_all_0 : decode cX11_all 0 = .ok (.iconst 1, 1) := by decide +kernel
theorem dX11_all_1 : decode cX11_all 1 = .ok (.aload_n 0, 1) := by decide +kernel
theorem dX11_all_2 : decode cX11_all 2 = .ok (.getfield 316, 3) := by decide +kernel
theorem dX11_all_5 : decode cX11_all 5 = .ok (.ishl, 1) := by decide +kernel
theorem dX11_all_6 : decode cX11_all 6 = .ok (.iconst 1, 1) := by decide +kernel
theorem dX11_all_7 : decode cX11_all 7 = .ok (.isub, 1) := by decide +kernel
theorem dX11_all_8 : decode cX11_all 8 = .ok (.ireturn, 1) := by decide +kernel
def X11_all (μ : Mm) : Rs := some (iS (bL 1 (μ 70 37)) 1, μ)
set_option maxHeartbeats 4000000 in
set_option maxRecDepth 100000 in
theorem kX11_all (d : Nat) (hd : 1 ≤ d) {μ : Mm} {r : Int} {μ' : Mm} (h : X11_all μ = some (r, μ')) : CC d mX11_all [vR 70] μ r μ' := by
  unfold X11_all at h
  refine V_enter (by decide) (Nat.le_of_ble_eq_true rfl) ?_
  show VV d mX11_all 0 [some (vR 70)] [] μ r μ'
  refine V_iconst (q := 1) dX11_all_0 rfl rfl ?_
  refine V_aload_n (q := 2) dX11_all_1 rfl rfl rfl ?_
  refine V_getI (q := 5) fl_X11_316 rfl rfl rfl dX11_all_2 rfl ?_
  refine V_ishl (q := 6) dX11_all_5 rfl ?_
  refine V_iconst (q := 7) dX11_all_6 rfl rfl ?_
  refine V_isub (q := 8) dX11_all_7 rfl ?_
  exact V_iret rfl h dX11_all_8
abbrev mX11_best : Mth := (yX11_best, cX11_best, 4, some .int)
theorem mi_X11_best : Cond.instanceMethod yX11_best ∈ tG ∧ Cond.selects yX11_best.cls yX11_best yX11_best ∈ tG ∧ Cond.initialized yX11_best.cls ∈ tG ∧ Cond.code yX11_best cX11_best 4 (some .int) ∈ tG ∧ (yX11_best.cls ≠ "java/lang/invoke/MethodHandle" ∧ yX11_best.cls ≠ "java/lang/invoke/VarHandle" ∧ (parseMethodDescriptor yX11_best.desc).map (fun d => d.parameters.length) = some 3) ∧ 4 ≤ 60 := ⟨(tG_of (List.mem_of_getElem? (i := 1601) (by decide +kernel)) (by decide +kernel)), (tG_of (List.mem_of_getElem? (i := 1602) (by decide +kernel)) (by decide +kernel)), (tG_of (List.mem_of_getElem? (i := 112) (by decide +kernel)) (by decide +kernel)), (tG_of (List.mem_of_getElem? (i := 1603) (by decide +kernel)) (by decide +kernel)), ⟨by decide, by decide, by decide +kernel⟩, by decide⟩
theorem dX11_best_0 : decode cX11_best 0 = .ok (.aload_n 0, 1) := by decide +kernel
theorem dX11_best_1 : decode cX11_best 1 = .ok (.iload_n 1, 1) := by decide +kernel
theorem dX11_best_2 : decode cX11_best 2 = .ok (.invokevirtual 335, 3) := by decide +kernel
theorem dX11_best_5 : decode cX11_best 5 = .ok (.ifCond .eq 21, 3) := by decide +kernel
theorem dX11_best_8 : decode cX11_best 8 = .ok (.iload_n 2, 1) := by decide +kernel
theorem dX11_best_9 : decode cX11_best 9 = .ok (.iconst 0, 1) := by decide +kernel
theorem dX11_best_10 : decode cX11_best 10 = .ok (.iconst 2, 1) := by decide +kernel
theorem dX11_best_11 : decode cX11_best 11 = .ok (.invokestatic 213, 3) := by decide +kernel
theorem dX11_best_14 : decode cX11_best 14 = .ok (.ifCond .eq 12, 3) := by decide +kernel
theorem dX11_best_17 : decode cX11_best 17 = .ok (.iload_n 3, 1) := by decide +kernel
theorem dX11_best_18 : decode cX11_best 18 = .ok (.iconst 0, 1) := by decide +kernel
theorem dX11_best_19 : decode cX11_best 19 = .ok (.iconst 1, 1) := by decide +kernel
theorem dX11_best_20 : decode cX11_best 20 = .ok (.invokestatic 213, 3) := by decide +kernel
theorem dX11_best_23 : decode cX11_best 23 = .ok (.ifCond .ne 5, 3) := by decide +kernel
theorem dX11_best_26 : decode cX11_best 26 = .ok (.iconst (-1), 1) := by decide +kernel
theorem dX11_best_27 : decode cX11_best 27 = .ok (.ireturn, 1) := by decide +kernel
theorem dX11_best_28 : decode cX11_best 28 = .ok (.aload_n 0, 1) := by decide +kernel
theorem dX11_best_29 : decode cX11_best 29 = .ok (.iload_n 2, 1) := by decide +kernel
theorem dX11_best_30 : decode cX11_best 30 = .ok (.aload_n 0, 1) := by decide +kernel
theorem dX11_best_31 : decode cX11_best 31 = .ok (.invokevirtual 357, 3) := by decide +kernel
theorem dX11_best_34 : decode cX11_best 34 = .ok (.invokevirtual 360, 3) := by decide +kernel
theorem dX11_best_37 : decode cX11_best 37 = .ok (.pop, 1) := by decide +kernel
theorem dX11_best_38 : decode cX11_best 38 = .ok (.iload_n 3, 1) := by decide +kernel
theorem dX11_best_39 : decode cX11_best 39 = .ok (.ifCond .ne 10, 3) := by decide +kernel
theorem dX11_best_42 : decode cX11_best 42 = .ok (.aload_n 0, 1) := by decide +kernel
theorem dX11_best_43 : decode cX11_best 43 = .ok (.getfield 347, 3) := by decide +kernel
theorem dX11_best_46 : decode cX11_best 46 = .ok (.goto 7, 3) := by decide +kernel
theorem dX11_best_49 : decode cX11_best 49 = .ok (.aload_n 0, 1) := by decide +kernel
theorem dX11_best_50 : decode cX11_best 50 = .ok (.getfield 350, 3) := by decide +kernel
theorem dX11_best_53 : decode cX11_best 53 = .ok (.ireturn, 1) := by decide +kernel
def X11_best (l1 : Int) (l2 : Int) (l3 : Int) (μ : Mm) : Rs := bd (X11_isReady l1 μ) fun v1 μ2 => if v1 = 0 then (some ((-1), μ2)) else (bd (X11_in l2 0 2 μ2) fun v5 μ6 => if v5 = 0 then (some ((-1), μ6)) else (bd (X11_in l3 0 1 μ6) fun v9 μ10 => if v9 = 0 then (some ((-1), μ10)) else (bd (X11_all μ10) fun v13 μ14 => bd (X11_leastOf l2 v13 μ14) fun v16 μ17 => if l3 = 0 then (some (μ17 70 41, μ17)) else (some (μ17 70 42, μ17)))))
set_option maxHeartbeats 4000000 in
set_option maxRecDepth 100000 in
theorem kX11_best (d : Nat) (hd : 134 ≤ d) {l1 : Int} {l2 : Int} {l3 : Int} {μ : Mm} {r : Int} {μ' : Mm} (h : X11_best l1 l2 l3 μ = some (r, μ')) : CC d mX11_best [vR 70, vI l1, vI l2, vI l3] μ r μ' := by
  unfold X11_best at h
  refine V_enter (by decide) (Nat.le_of_ble_eq_true rfl) ?_
  show VV d mX11_best 0 [some (vR 70), some (vI l1), some (vI l2), some (vI l3)] [] μ r μ'
  refine V_aload_n (q := 1) dX11_best_0 rfl rfl rfl ?_
  refine V_iload_n (q := 2) dX11_best_1 rfl rfl rfl ?_
  obtain ⟨v1, μ2, hc3, h⟩ := bd_i h
  refine V_cV1 (q := 5) (v := vI v1) (kX11_isReady (d - 1) (by omega) hc3) (by omega) mv_X11_335 rfl rfl rfl rfl rfl rfl dX11_best_2 rfl ?_
  refine V_ifeq (q := 26) (q2 := 8) dX11_best_5 (by decide) rfl (fun hc4 => ?_) (fun hc4 => ?_)
  · have h := ifT hc4 h
    refine V_iconst (q := 27) dX11_best_26 rfl rfl ?_
    exact V_iret rfl h dX11_best_27
  · have h := ifF hc4 h
    refine V_iload_n (q := 9) dX11_best_8 rfl rfl rfl ?_
    refine V_iconst (q := 10) dX11_best_9 rfl rfl ?_
    refine V_iconst (q := 11) dX11_best_10 rfl rfl ?_
    obtain ⟨v5, μ6, hc7, h⟩ := bd_i h
    refine V_cS1 (q := 14) (v := vI v5) (kX11_in (d - 1) (by omega) hc7) (by omega) mv_X11_213 rfl rfl rfl rfl dX11_best_11 rfl ?_
    refine V_ifeq (q := 26) (q2 := 17) dX11_best_14 (by decide) rfl (fun hc8 => ?_) (fun hc8 => ?_)
    · have h := ifT hc8 h
      refine V_iconst (q := 27) dX11_best_26 rfl rfl ?_
      exact V_iret rfl h dX11_best_27
    · have h := ifF hc8 h
      refine V_iload_n (q := 18) dX11_best_17 rfl rfl rfl ?_
      refine V_iconst (q := 19) dX11_best_18 rfl rfl ?_
      refine V_iconst (q := 20) dX11_best_19 rfl rfl ?_
      obtain ⟨v9, μ10, hc11, h⟩ := bd_i h
      refine V_cS1 (q := 23) (v := vI v9) (kX11_in (d - 1) (by omega) hc11) (by omega) mv_X11_213 rfl rfl rfl rfl dX11_best_20 rfl ?_
      refine V_ifne (q := 28) (q2 := 26) dX11_best_23 (by decide) rfl (fun hc12 => ?_) (fun hc12 => ?_)
      · have h := ifF hc12 h
        refine V_aload_n (q := 29) dX11_best_28 rfl rfl rfl ?_
        refine V_iload_n (q := 30) dX11_best_29 rfl rfl rfl ?_
        refine V_aload_n (q := 31) dX11_best_30 rfl rfl rfl ?_
        obtain ⟨v13, μ14, hc15, h⟩ := bd_i h
        refine V_cV1 (q := 34) (v := vI v13) (kX11_all (d - 1) (by omega) hc15) (by omega) mv_X11_357 rfl rfl rfl rfl rfl rfl dX11_best_31 rfl ?_
        obtain ⟨v16, μ17, hc18, h⟩ := bd_i h
        refine V_cV1 (q := 37) (v := vI v16) (kX11_leastOf (d - 1) (by omega) hc18) (by omega) mv_X11_360 rfl rfl rfl rfl rfl rfl dX11_best_34 rfl ?_
        refine V_pop (q := 38) dX11_best_37 trivial rfl ?_
        refine V_iload_n (q := 39) dX11_best_38 rfl rfl rfl ?_
        refine V_ifne (q := 49) (q2 := 42) dX11_best_39 (by decide) rfl (fun hc19 => ?_) (fun hc19 => ?_)
        · have h := ifF hc19 h
          refine V_aload_n (q := 50) dX11_best_49 rfl rfl rfl ?_
          refine V_getI (q := 53) fl_X11_350 rfl rfl rfl dX11_best_50 rfl ?_
          exact V_iret rfl h dX11_best_53
        · have h := ifT hc19 h
          refine V_aload_n (q := 43) dX11_best_42 rfl rfl rfl ?_
          refine V_getI (q := 46) fl_X11_347 rfl rfl rfl dX11_best_43 rfl ?_
          refine V_goto (q := 53) dX11_best_46 (by decide) ?_
          exact V_iret rfl h dX11_best_53
      · have h := ifT hc12 h
        refine V_iconst (q := 27) dX11_best_26 rfl rfl ?_
        exact V_iret rfl h dX11_best_27
abbrev mX11_met : Mth := (yX11_met, cX11_met, 3, some .int)
theorem mi_X11_met : Cond.instanceMethod yX11_met ∈ tG ∧ Cond.selects yX11_met.cls yX11_met yX11_met ∈ tG ∧ Cond.initialized yX11_met.cls ∈ tG ∧ Cond.code yX11_met cX11_met 3 (some .int) ∈ tG ∧ (yX11_met.cls ≠ "java/lang/invoke/MethodHandle" ∧ yX11_met.cls ≠ "java/lang/invoke/VarHandle" ∧ (parseMethodDescriptor yX11_met.desc).map (fun d => d.parameters.length) = some 2) ∧ 3 ≤ 60 := ⟨(tG_of (List.mem_of_getElem? (i := 1617) (by decide +kernel)) (by decide +kernel)), (tG_of (List.mem_of_getElem? (i := 1618) (by decide +kernel)) (by decide +kernel)), (tG_of (List.mem_of_getElem? (i := 112) (by decide +kernel)) (by decide +kernel)), (tG_of (List.mem_of_getElem? (i := 1619) (by decide +kernel)) (by decide +kernel)), ⟨by decide, by decide, by decide +kernel⟩, by decide⟩
theorem dX11_met_0 : decode cX11_met 0 = .ok (.aload_n 0, 1) := by decide +kernel
theorem dX11_met_1 : decode cX11_met 1 = .ok (.iload_n 1, 1) := by decide +kernel
theorem dX11_met_2 : decode cX11_met 2 = .ok (.invokevirtual 335, 3) := by decide +kernel
theorem dX11_met_5 : decode cX11_met 5 = .ok (.ifCond .eq 15, 3) := by decide +kernel
theorem dX11_met_8 : decode cX11_met 8 = .ok (.iload_n 2, 1) := by decide +kernel
theorem dX11_met_9 : decode cX11_met 9 = .ok (.iconst 1, 1) := by decide +kernel
theorem dX11_met_10 : decode cX11_met 10 = .ok (.aload_n 0, 1) := by decide +kernel
theorem dX11_met_11 : decode cX11_met 11 = .ok (.invokevirtual 357, 3) := by decide +kernel
theorem dX11_met_14 : decode cX11_met 14 = .ok (.invokestatic 213, 3) := by decide +kernel
theorem dX11_met_17 : decode cX11_met 17 = .ok (.ifCond .ne 7, 3) := by decide +kernel
theorem dX11_met_20 : decode cX11_met 20 = .ok (.iconst (-1), 1) := by decide +kernel
theorem dX11_met_21 : decode cX11_met 21 = .ok (.goto 17, 3) := by decide +kernel
theorem dX11_met_24 : decode cX11_met 24 = .ok (.aload_n 0, 1) := by decide +kernel
theorem dX11_met_25 : decode cX11_met 25 = .ok (.iconst 2, 1) := by decide +kernel
theorem dX11_met_26 : decode cX11_met 26 = .ok (.iload_n 2, 1) := by decide +kernel
theorem dX11_met_27 : decode cX11_met 27 = .ok (.invokevirtual 360, 3) := by decide +kernel
theorem dX11_met_30 : decode cX11_met 30 = .ok (.ifCond .ne 7, 3) := by decide +kernel
theorem dX11_met_33 : decode cX11_met 33 = .ok (.iconst 1, 1) := by decide +kernel
theorem dX11_met_34 : decode cX11_met 34 = .ok (.goto 4, 3) := by decide +kernel
theorem dX11_met_37 : decode cX11_met 37 = .ok (.iconst 0, 1) := by decide +kernel
theorem dX11_met_38 : decode cX11_met 38 = .ok (.ireturn, 1) := by decide +kernel
def X11_met (l1 : Int) (l2 : Int) (μ : Mm) : Rs := bd (X11_isReady l1 μ) fun v1 μ2 => if v1 = 0 then (some ((-1), μ2)) else (bd (X11_all μ2) fun v5 μ6 => bd (X11_in l2 1 v5 μ6) fun v8 μ9 => if v8 = 0 then (some ((-1), μ9)) else (bd (X11_leastOf 2 l2 μ9) fun v12 μ13 => if v12 = 0 then (some (1, μ13)) else (some (0, μ13))))
set_option maxHeartbeats 4000000 in
set_option maxRecDepth 100000 in
theorem kX11_met (d : Nat) (hd : 134 ≤ d) {l1 : Int} {l2 : Int} {μ : Mm} {r : Int} {μ' : Mm} (h : X11_met l1 l2 μ = some (r, μ')) : CC d mX11_met [vR 70, vI l1, vI l2] μ r μ' := by
  unfold X11_met at h
  refine V_enter (by decide) (Nat.le_of_ble_eq_true rfl) ?_
  show VV d mX11_met 0 [some (vR 70), some (vI l1), some (vI l2)] [] μ r μ'
  refine V_aload_n (q := 1) dX11_met_0 rfl rfl rfl ?_
  refine V_iload_n (q := 2) dX11_met_1 rfl rfl rfl ?_
  obtain ⟨v1, μ2, hc3, h⟩ := bd_i h
  refine V_cV1 (q := 5) (v := vI v1) (kX11_isReady (d - 1) (by omega) hc3) (by omega) mv_X11_335 rfl rfl rfl rfl rfl rfl dX11_met_2 rfl ?_
  refine V_ifeq (q := 20) (q2 := 8) dX11_met_5 (by decide) rfl (fun hc4 => ?_) (fun hc4 => ?_)
  · have h := ifT hc4 h
    refine V_iconst (q := 21) dX11_met_20 rfl rfl ?_
    refine V_goto (q := 38) dX11_met_21 (by decide) ?_
    exact V_iret rfl h dX11_met_38
  · have h := ifF hc4 h
    refine V_iload_n (q := 9) dX11_met_8 rfl rfl rfl ?_
    refine V_iconst (q := 10) dX11_met_9 rfl rfl ?_
    refine V_aload_n (q := 11) dX11_met_10 rfl rfl rfl ?_
    obtain ⟨v5, μ6, hc7, h⟩ := bd_i h
    refine V_cV1 (q := 14) (v := vI v5) (kX11_all (d - 1) (by omega) hc7) (by omega) mv_X11_357 rfl rfl rfl rfl rfl rfl dX11_met_11 rfl ?_
    obtain ⟨v8, μ9, hc10, h⟩ := bd_i h
    refine V_cS1 (q := 17) (v := vI v8) (kX11_in (d - 1) (by omega) hc10) (by omega) mv_X11_213 rfl rfl rfl rfl dX11_met_14 rfl ?_
    refine V_ifne (q := 24) (q2 := 20) dX11_met_17 (by decide) rfl (fun hc11 => ?_) (fun hc11 => ?_)
    · have h := ifF hc11 h
      refine V_aload_n (q := 25) dX11_met_24 rfl rfl rfl ?_
      refine V_iconst (q := 26) dX11_met_25 rfl rfl ?_
      refine V_iload_n (q := 27) dX11_met_26 rfl rfl rfl ?_
      obtain ⟨v12, μ13, hc14, h⟩ := bd_i h
      refine V_cV1 (q := 30) (v := vI v12) (kX11_leastOf (d - 1) (by omega) hc14) (by omega) mv_X11_360 rfl rfl rfl rfl rfl rfl dX11_met_27 rfl ?_
      refine V_ifne (q := 37) (q2 := 33) dX11_met_30 (by decide) rfl (fun hc15 => ?_) (fun hc15 => ?_)
      · have h := ifF hc15 h
        refine V_iconst (q := 38) dX11_met_37 rfl rfl ?_
        exact V_iret rfl h dX11_met_38
      · have h := ifT hc15 h
        refine V_iconst (q := 34) dX11_met_33 rfl rfl ?_
        refine V_goto (q := 38) dX11_met_34 (by decide) ?_
        exact V_iret rfl h dX11_met_38
    · have h := ifT hc11 h
      refine V_iconst (q := 21) dX11_met_20 rfl rfl ?_
      refine V_goto (q := 38) dX11_met_21 (by decide) ?_
      exact V_iret rfl h dX11_met_38
abbrev mX11_knot : Mth := (yX11_knot, cX11_knot, 4, some .int)
theorem mi_X11_knot : Cond.instanceMethod yX11_knot ∈ tG ∧ Cond.selects yX11_knot.cls yX11_knot yX11_knot ∈ tG ∧ Cond.initialized yX11_knot.cls ∈ tG ∧ Cond.code yX11_knot cX11_knot 4 (some .int) ∈ tG ∧ (yX11_knot.cls ≠ "java/lang/invoke/MethodHandle" ∧ yX11_knot.cls ≠ "java/lang/invoke/VarHandle" ∧ (parseMethodDescriptor yX11_knot.desc).map (fun d => d.parameters.length) = some 1) ∧ 4 ≤ 60 := ⟨(tG_of (List.mem_of_getElem? (i := 1621) (by decide +kernel)) (by decide +kernel)), (tG_of (List.mem_of_getElem? (i := 1622) (by decide +kernel)) (by decide +kernel)), (tG_of (List.mem_of_getElem? (i := 112) (by decide +kernel)) (by decide +kernel)), (tG_of (List.mem_of_getElem? (i := 1623) (by decide +kernel)) (by decide +kernel)), ⟨by decide, by decide, by decide +kernel⟩, by decide⟩
theorem dX11_knot_0 : decode cX11_knot 0 = .ok (.aload_n 0, 1) := by decide +kernel
theorem dX11_knot_1 : decode cX11_knot 1 = .ok (.iload_n 1, 1) := by decide +kernel
theorem dX11_knot_2 : decode cX11_knot 2 = .ok (.invokevirtual 335, 3) := by decide +kernel
theorem dX11_knot_5 : decode cX11_knot 5 = .ok (.ifCond .ne 5, 3) := by decide +kernel
theorem dX11_knot_8 : decode cX11_knot 8 = .ok (.iconst (-1), 1) := by decide +kernel
theorem dX11_knot_9 : decode cX11_knot 9 = .ok (.ireturn, 1) := by decide +kernel
theorem dX11_knot_10 : decode cX11_knot 10 = .ok (.iconst (-1), 1) := by decide +kernel
theorem dX11_knot_11 : decode cX11_knot 11 = .ok (.istore_n 2, 1) := by decide +kernel
theorem dX11_knot_12 : decode cX11_knot 12 = .ok (.iconst 1, 1) := by decide +kernel
theorem dX11_knot_13 : decode cX11_knot 13 = .ok (.istore_n 3, 1) := by decide +kernel
theorem dX11_knot_14 : decode cX11_knot 14 = .ok (.iload_n 3, 1) := by decide +kernel
theorem dX11_knot_15 : decode cX11_knot 15 = .ok (.aload_n 0, 1) := by decide +kernel
theorem dX11_knot_16 : decode cX11_knot 16 = .ok (.invokevirtual 357, 3) := by decide +kernel
theorem dX11_knot_19 : decode cX11_knot 19 = .ok (.if_icmp .gt 36, 3) := by decide +kernel
theorem dX11_knot_22 : decode cX11_knot 22 = .ok (.iload_n 2, 1) := by decide +kernel
theorem dX11_knot_23 : decode cX11_knot 23 = .ok (.iconst (-1), 1) := by decide +kernel
theorem dX11_knot_24 : decode cX11_knot 24 = .ok (.if_icmp .eq 14, 3) := by decide +kernel
theorem dX11_knot_27 : decode cX11_knot 27 = .ok (.iload_n 3, 1) := by decide +kernel
theorem dX11_knot_28 : decode cX11_knot 28 = .ok (.invokestatic 267, 3) := by decide +kernel
theorem dX11_knot_31 : decode cX11_knot 31 = .ok (.iload_n 2, 1) := by decide +kernel
theorem dX11_knot_32 : decode cX11_knot 32 = .ok (.invokestatic 267, 3) := by decide +kernel
theorem dX11_knot_35 : decode cX11_knot 35 = .ok (.if_icmp .ge 14, 3) := by decide +kernel
theorem dX11_knot_38 : decode cX11_knot 38 = .ok (.aload_n 0, 1) := by decide +kernel
theorem dX11_knot_39 : decode cX11_knot 39 = .ok (.iconst 2, 1) := by decide +kernel
theorem dX11_knot_40 : decode cX11_knot 40 = .ok (.iload_n 3, 1) := by decide +kernel
theorem dX11_knot_41 : decode cX11_knot 41 = .ok (.invokevirtual 360, 3) := by decide +kernel
theorem dX11_knot_44 : decode cX11_knot 44 = .ok (.ifCond .eq 5, 3) := by decide +kernel
theorem dX11_knot_47 : decode cX11_knot 47 = .ok (.iload_n 3, 1) := by decide +kernel
theorem dX11_knot_48 : decode cX11_knot 48 = .ok (.istore_n 2, 1) := by decide +kernel
theorem dX11_knot_49 : decode cX11_knot 49 = .ok (.iinc 3 1, 3) := by decide +kernel
theorem dX11_knot_52 : decode cX11_knot 52 = .ok (.goto (-38), 3) := by decide +kernel
theorem dX11_knot_55 : decode cX11_knot 55 = .ok (.iload_n 2, 1) := by decide +kernel
theorem dX11_knot_56 : decode cX11_knot 56 = .ok (.ireturn, 1) := by decide +kernel
def X11_knot_J38 (k14 : Int → Int → Mm → Rs) (l2 : Int) (l3 : Int) (μ : Mm) : Rs := bd (X11_leastOf 2 l3 μ) fun v10 μ11 => if v10 = 0 then (k14 l2 (iA l3 1) μ11) else (k14 l3 (iA l3 1) μ11)
def X11_knot_L14 : Nat → Int → Int → Mm → Rs
  | 0, _, _, _ => none
  | n + 1, l2, l3, μ => bd (X11_all μ) fun v5 μ6 => if v5 < l3 then (some (l2, μ6)) else (if l2 = (-1) then (X11_knot_J38 (fun w2 w3 μq => X11_knot_L14 n w2 w3 μq) l2 l3 μ6) else (bd (J6_bitCount_0f7a4 l3 μ6) fun v14 μ15 => bd (J6_bitCount_0f7a4 l2 μ15) fun v17 μ18 => if v17 ≤ v14 then (X11_knot_L14 n l2 (iA l3 1) μ18) else (X11_knot_J38 (fun w2 w3 μq => X11_knot_L14 n w2 w3 μq) l2 l3 μ18)))
def X11_knot (l1 : Int) (μ : Mm) : Rs := bd (X11_isReady l1 μ) fun v1 μ2 => if v1 = 0 then (some ((-1), μ2)) else (X11_knot_L14 FU (-1) 1 μ2)
set_option maxHeartbeats 4000000 in
set_option maxRecDepth 100000 in
theorem kX11_knot_J38 (d : Nat) (hd : 134 ≤ d) {k14 : Int → Int → Mm → Rs} {l2 : Int} {l3 : Int} {μ : Mm} {r : Int} {μ' : Mm} (hk_14 : ∀ (v2 v3 : Int) (μ1 : Mm), k14 v2 v3 μ1 = some (r, μ') → VV d mX11_knot 14 [some (vR 70), none, some (vI v2), some (vI v3)] [] μ1 r μ') (h : X11_knot_J38 k14 l2 l3 μ = some (r, μ')) : VV d mX11_knot 38 [some (vR 70), none, some (vI l2), some (vI l3)] [] μ r μ' := by
  unfold X11_knot_J38 at h
  refine V_aload_n (q := 39) dX11_knot_38 rfl rfl rfl ?_
  refine V_iconst (q := 40) dX11_knot_39 rfl rfl ?_
  refine V_iload_n (q := 41) dX11_knot_40 rfl rfl rfl ?_
  obtain ⟨v10, μ11, hc12, h⟩ := bd_i h
  refine V_cV1 (q := 44) (v := vI v10) (kX11_leastOf (d - 1) (by omega) hc12) (by omega) mv_X11_360 rfl rfl rfl rfl rfl rfl dX11_knot_41 rfl ?_
  refine V_ifeq (q := 49) (q2 := 47) dX11_knot_44 (by decide) rfl (fun hc13 => ?_) (fun hc13 => ?_)
  · have h := ifT hc13 h
    refine V_iinc (q := 52) dX11_knot_49 rfl (Nat.le_of_ble_eq_true rfl) trivial rfl ?_
    refine V_goto (q := 14) dX11_knot_52 (by decide) ?_
    exact V_weak (hk_14 _ _ _ h) (sb_s rfl (sb_n (sb_s rfl (sb_s rfl sb_0))))
  · have h := ifF hc13 h
    refine V_iload_n (q := 48) dX11_knot_47 rfl rfl rfl ?_
    refine V_istore_n (q := 49) dX11_knot_48 rfl (Nat.le_of_ble_eq_true rfl) trivial rfl ?_
    refine V_iinc (q := 52) dX11_knot_49 rfl (Nat.le_of_ble_eq_true rfl) trivial rfl ?_
    refine V_goto (q := 14) dX11_knot_52 (by decide) ?_
    exact V_weak (hk_14 _ _ _ h) (sb_s rfl (sb_n (sb_s rfl (sb_s rfl sb_0))))
set_option maxHeartbeats 4000000 in
set_option maxRecDepth 100000 in
theorem kX11_knot_L14 (d : Nat) (hd : 134 ≤ d) {r : Int} {μ' : Mm} : ∀ (n : Nat) {l2 l3 : Int} {μ : Mm}, X11_knot_L14 n l2 l3 μ = some (r, μ') → VV d mX11_knot 14 [some (vR 70), none, some (vI l2), some (vI l3)] [] μ r μ' := by
  intro n
  induction n with
  | zero => intro l2 l3 μ h; rw [X11_knot_L14] at h; cases h
  | succ n ih =>
    intro l2 l3 μ h
    rw [X11_knot_L14] at h
    refine V_iload_n (q := 15) dX11_knot_14 rfl rfl rfl ?_
    refine V_aload_n (q := 16) dX11_knot_15 rfl rfl rfl ?_
    obtain ⟨v5, μ6, hc7, h⟩ := bd_i h
    refine V_cV1 (q := 19) (v := vI v5) (kX11_all (d - 1) (by omega) hc7) (by omega) mv_X11_357 rfl rfl rfl rfl rfl rfl dX11_knot_16 rfl ?_
    refine V_icmpgt (q := 55) (q2 := 22) dX11_knot_19 (by decide) rfl (fun hc8 => ?_) (fun hc8 => ?_)
    · have h := ifT hc8 h
      refine V_iload_n (q := 56) dX11_knot_55 rfl rfl rfl ?_
      exact V_iret rfl h dX11_knot_56
    · have h := ifF hc8 h
      refine V_iload_n (q := 23) dX11_knot_22 rfl rfl rfl ?_
      refine V_iconst (q := 24) dX11_knot_23 rfl rfl ?_
      refine V_icmpeq (q := 38) (q2 := 27) dX11_knot_24 (by decide) rfl (fun hc9 => ?_) (fun hc9 => ?_)
      · have h := ifT hc9 h
        exact V_weak (kX11_knot_J38 d hd (fun _ _ _ h => ih h) h) (sb_s rfl (sb_n (sb_s rfl (sb_s rfl sb_0))))
      · have h := ifF hc9 h
        refine V_iload_n (q := 28) dX11_knot_27 rfl rfl rfl ?_
        obtain ⟨v14, μ15, hc16, h⟩ := bd_i h
        refine V_cS1 (q := 31) (v := vI v14) (kJ6_bitCount_0f7a4 (d - 1) (by omega) hc16) (by omega) mv_X11_267 rfl rfl rfl rfl dX11_knot_28 rfl ?_
        refine V_iload_n (q := 32) dX11_knot_31 rfl rfl rfl ?_
        obtain ⟨v17, μ18, hc19, h⟩ := bd_i h
        refine V_cS1 (q := 35) (v := vI v17) (kJ6_bitCount_0f7a4 (d - 1) (by omega) hc19) (by omega) mv_X11_267 rfl rfl rfl rfl dX11_knot_32 rfl ?_
        refine V_icmpge (q := 49) (q2 := 38) dX11_knot_35 (by decide) rfl (fun hc20 => ?_) (fun hc20 => ?_)
        · have h := ifT hc20 h
          refine V_iinc (q := 52) dX11_knot_49 rfl (Nat.le_of_ble_eq_true rfl) trivial rfl ?_
          refine V_goto (q := 14) dX11_knot_52 (by decide) ?_
          exact V_weak (ih h) (sb_s rfl (sb_n (sb_s rfl (sb_s rfl sb_0))))
        · have h := ifF hc20 h
          exact V_weak (kX11_knot_J38 d hd (fun _ _ _ h => ih h) h) (sb_s rfl (sb_n (sb_s rfl (sb_s rfl sb_0))))
set_option maxHeartbeats 4000000 in
set_option maxRecDepth 100000 in
theorem kX11_knot (d : Nat) (hd : 134 ≤ d) {l1 : Int} {μ : Mm} {r : Int} {μ' : Mm} (h : X11_knot l1 μ = some (r, μ')) : CC d mX11_knot [vR 70, vI l1] μ r μ' := by
  unfold X11_knot at h
  refine V_enter (by decide) (Nat.le_of_ble_eq_true rfl) ?_
  show VV d mX11_knot 0 [some (vR 70), some (vI l1), none, none] [] μ r μ'
  refine V_aload_n (q := 1) dX11_knot_0 rfl rfl rfl ?_
  refine V_iload_n (q := 2) dX11_knot_1 rfl rfl rfl ?_
  obtain ⟨v1, μ2, hc3, h⟩ := bd_i h
  refine V_cV1 (q := 5) (v := vI v1) (kX11_isReady (d - 1) (by omega) hc3) (by omega) mv_X11_335 rfl rfl rfl rfl rfl rfl dX11_knot_2 rfl ?_
  refine V_ifne (q := 10) (q2 := 8) dX11_knot_5 (by decide) rfl (fun hc4 => ?_) (fun hc4 => ?_)
  · have h := ifF hc4 h
    refine V_iconst (q := 11) dX11_knot_10 rfl rfl ?_
    refine V_istore_n (q := 12) dX11_knot_11 rfl (Nat.le_of_ble_eq_true rfl) trivial rfl ?_
    refine V_iconst (q := 13) dX11_knot_12 rfl rfl ?_
    refine V_istore_n (q := 14) dX11_knot_13 rfl (Nat.le_of_ble_eq_true rfl) trivial rfl ?_
    exact V_weak (kX11_knot_L14 d hd  FU h) (sb_s rfl (sb_n (sb_s rfl (sb_s rfl sb_0))))
  · have h := ifT hc4 h
    refine V_iconst (q := 9) dX11_knot_8 rfl rfl ?_
    exact V_iret rfl h dX11_knot_9
abbrev mX11_ageOf : Mth := (yX11_ageOf, cX11_ageOf, 3, some .int)
theorem mi_X11_ageOf : Cond.instanceMethod yX11_ageOf ∈ tG ∧ Cond.selects yX11_ageOf.cls yX11_ageOf yX11_ageOf ∈ tG ∧ Cond.initialized yX11_ageOf.cls ∈ tG ∧ Cond.code yX11_ageOf cX11_ageOf 3 (some .int) ∈ tG ∧ (yX11_ageOf.cls ≠ "java/lang/invoke/MethodHandle" ∧ yX11_ageOf.cls ≠ "java/lang/invoke/VarHandle" ∧ (parseMethodDescriptor yX11_ageOf.desc).map (fun d => d.parameters.length) = some 1) ∧ 3 ≤ 60 := ⟨(tG_of (List.mem_of_getElem? (i := 1630) (by decide +kernel)) (by decide +kernel)), (tG_of (List.mem_of_getElem? (i := 92) (by decide +kernel)) (by decide +kernel)), (tG_of (List.mem_of_getElem? (i := 112) (by decide +kernel)) (by decide +kernel)), (tG_of (List.mem_of_getElem? (i := 1631) (by decide +kernel)) (by decide +kernel)), ⟨by decide, by decide, by decide +kernel⟩, by decide⟩
theorem mv_X11_363 : mV RX11 363 mX11_ageOf 1 := ⟨(tG_of (List.mem_of_getElem? (i := 1628) (by decide +kernel)) (by decide +kernel)), mi_X11_ageOf⟩
theorem dX11_ageOf_0 : decode cX11_ageOf 0 = .ok (.bipush 9, 2) := by decide +kernel
theorem dX11_ageOf_2 : decode cX11_ageOf 2 = .ok (.istore_n 2, 1) := by decide +kernel
theorem dX11_ageOf_3 : decode cX11_ageOf 3 = .ok (.iload_n 2, 1) := by decide +kernel
theorem dX11_ageOf_4 : decode cX11_ageOf 4 = .ok (.ifCond .le 34, 3) := by decide +kernel
theorem dX11_ageOf_7 : decode cX11_ageOf 7 = .ok (.aload_n 0, 1) := by decide +kernel
theorem dX11_ageOf_8 : decode cX11_ageOf 8 = .ok (.iload_n 1, 1) := by decide +kernel
theorem dX11_ageOf_9 : decode cX11_ageOf 9 = .ok (.aload_n 0, 1) := by decide +kernel
theorem dX11_ageOf_10 : decode cX11_ageOf 10 = .ok (.iconst 2, 1) := by decide +kernel
theorem dX11_ageOf_11 : decode cX11_ageOf 11 = .ok (.invokevirtual 281, 3) := by decide +kernel
theorem dX11_ageOf_14 : decode cX11_ageOf 14 = .ok (.iload_n 2, 1) := by decide +kernel
theorem dX11_ageOf_15 : decode cX11_ageOf 15 = .ok (.invokevirtual 322, 3) := by decide +kernel
theorem dX11_ageOf_18 : decode cX11_ageOf 18 = .ok (.aload_n 0, 1) := by decide +kernel
theorem dX11_ageOf_19 : decode cX11_ageOf 19 = .ok (.iconst 2, 1) := by decide +kernel
theorem dX11_ageOf_20 : decode cX11_ageOf 20 = .ok (.aload_n 0, 1) := by decide +kernel
theorem dX11_ageOf_21 : decode cX11_ageOf 21 = .ok (.invokevirtual 357, 3) := by decide +kernel
theorem dX11_ageOf_24 : decode cX11_ageOf 24 = .ok (.invokevirtual 360, 3) := by decide +kernel
theorem dX11_ageOf_27 : decode cX11_ageOf 27 = .ok (.ifCond .ne 5, 3) := by decide +kernel
theorem dX11_ageOf_30 : decode cX11_ageOf 30 = .ok (.iload_n 2, 1) := by decide +kernel
theorem dX11_ageOf_31 : decode cX11_ageOf 31 = .ok (.ireturn, 1) := by decide +kernel
theorem dX11_ageOf_32 : decode cX11_ageOf 32 = .ok (.iinc 2 (-1), 3) := by decide +kernel
theorem dX11_ageOf_35 : decode cX11_ageOf 35 = .ok (.goto (-32), 3) := by decide +kernel
theorem dX11_ageOf_38 : decode cX11_ageOf 38 = .ok (.iconst 0, 1) := by decide +kernel
theorem dX11_ageOf_39 : decode cX11_ageOf 39 = .ok (.ireturn, 1) := by decide +kernel
def X11_ageOf_L3 (l1 : Int) : Nat → Int → Mm → Rs
  | 0, _, _ => none
  | n + 1, l2, μ => if l2 ≤ 0 then (some (0, μ)) else (bd (X11_placeOf 2 μ) fun v2 μ3 => bd (X11_lay l1 v2 l2 μ3) fun v5 μ6 => bd (X11_all μ6) fun v8 μ9 => bd (X11_leastOf 2 v8 μ9) fun v11 μ12 => if v11 = 0 then (some (l2, μ12)) else (X11_ageOf_L3 l1 n (iA l2 (-1)) μ12))
def X11_ageOf (l1 : Int) (μ : Mm) : Rs := X11_ageOf_L3 l1 FU 9 μ
set_option maxHeartbeats 4000000 in
set_option maxRecDepth 100000 in
theorem kX11_ageOf_L3 (d : Nat) (hd : 134 ≤ d) {l1 : Int} {r : Int} {μ' : Mm} : ∀ (n : Nat) {l2 : Int} {μ : Mm}, X11_ageOf_L3 l1 n l2 μ = some (r, μ') → VV d mX11_ageOf 3 [some (vR 70), some (vI l1), some (vI l2)] [] μ r μ' := by
  intro n
  induction n with
  | zero => intro l2 μ h; rw [X11_ageOf_L3] at h; cases h
  | succ n ih =>
    intro l2 μ h
    rw [X11_ageOf_L3] at h
    refine V_iload_n (q := 4) dX11_ageOf_3 rfl rfl rfl ?_
    refine V_ifle (q := 38) (q2 := 7) dX11_ageOf_4 (by decide) rfl (fun hc1 => ?_) (fun hc1 => ?_)
    · have h := ifT hc1 h
      refine V_iconst (q := 39) dX11_ageOf_38 rfl rfl ?_
      exact V_iret rfl h dX11_ageOf_39
    · have h := ifF hc1 h
      refine V_aload_n (q := 8) dX11_ageOf_7 rfl rfl rfl ?_
      refine V_iload_n (q := 9) dX11_ageOf_8 rfl rfl rfl ?_
      refine V_aload_n (q := 10) dX11_ageOf_9 rfl rfl rfl ?_
      refine V_iconst (q := 11) dX11_ageOf_10 rfl rfl ?_
      obtain ⟨v2, μ3, hc4, h⟩ := bd_i h
      refine V_cV1 (q := 14) (v := vI v2) (kX11_placeOf (d - 1) (by omega) hc4) (by omega) mv_X11_281 rfl rfl rfl rfl rfl rfl dX11_ageOf_11 rfl ?_
      refine V_iload_n (q := 15) dX11_ageOf_14 rfl rfl rfl ?_
      obtain ⟨v5, μ6, hc7, h⟩ := bd_i h
      refine V_cV0 (q := 18) (kX11_lay (d - 1) (by omega) hc7) (by omega) mv_X11_322 rfl rfl rfl rfl rfl rfl dX11_ageOf_15 rfl ?_
      refine V_aload_n (q := 19) dX11_ageOf_18 rfl rfl rfl ?_
      refine V_iconst (q := 20) dX11_ageOf_19 rfl rfl ?_
      refine V_aload_n (q := 21) dX11_ageOf_20 rfl rfl rfl ?_
      obtain ⟨v8, μ9, hc10, h⟩ := bd_i h
      refine V_cV1 (q := 24) (v := vI v8) (kX11_all (d - 1) (by omega) hc10) (by omega) mv_X11_357 rfl rfl rfl rfl rfl rfl dX11_ageOf_21 rfl ?_
      obtain ⟨v11, μ12, hc13, h⟩ := bd_i h
      refine V_cV1 (q := 27) (v := vI v11) (kX11_leastOf (d - 1) (by omega) hc13) (by omega) mv_X11_360 rfl rfl rfl rfl rfl rfl dX11_ageOf_24 rfl ?_
      refine V_ifne (q := 32) (q2 := 30) dX11_ageOf_27 (by decide) rfl (fun hc14 => ?_) (fun hc14 => ?_)
      · have h := ifF hc14 h
        refine V_iinc (q := 35) dX11_ageOf_32 rfl (Nat.le_of_ble_eq_true rfl) trivial rfl ?_
        refine V_goto (q := 3) dX11_ageOf_35 (by decide) ?_
        exact V_weak (ih h) (sb_s rfl (sb_s rfl (sb_s rfl sb_0)))
      · have h := ifT hc14 h
        refine V_iload_n (q := 31) dX11_ageOf_30 rfl rfl rfl ?_
        exact V_iret rfl h dX11_ageOf_31
set_option maxHeartbeats 4000000 in
set_option maxRecDepth 100000 in
theorem kX11_ageOf (d : Nat) (hd : 134 ≤ d) {l1 : Int} {μ : Mm} {r : Int} {μ' : Mm} (h : X11_ageOf l1 μ = some (r, μ')) : CC d mX11_ageOf [vR 70, vI l1] μ r μ' := by
  unfold X11_ageOf at h
  refine V_enter (by decide) (Nat.le_of_ble_eq_true rfl) ?_
  show VV d mX11_ageOf 0 [some (vR 70), some (vI l1), none] [] μ r μ'
  refine V_bipush (q := 2) dX11_ageOf_0 rfl rfl rfl ?_
  refine V_istore_n (q := 3) dX11_ageOf_2 rfl (Nat.le_of_ble_eq_true rfl) trivial rfl ?_
  exact V_weak (kX11_ageOf_L3 d hd  FU h) (sb_s rfl (sb_s rfl (sb_s rfl sb_0)))
abbrev mX11_age : Mth := (yX11_age, cX11_age, 2, some .int)
theorem mi_X11_age : Cond.instanceMethod yX11_age ∈ tG ∧ Cond.selects yX11_age.cls yX11_age yX11_age ∈ tG ∧ Cond.initialized yX11_age.cls ∈ tG ∧ Cond.code yX11_age cX11_age 2 (some .int) ∈ tG ∧ (yX11_age.cls ≠ "java/lang/invoke/MethodHandle" ∧ yX11_age.cls ≠ "java/lang/invoke/VarHandle" ∧ (parseMethodDescriptor yX11_age.desc).map (fun d => d.parameters.length) = some 1) ∧ 2 ≤ 60 := ⟨(tG_of (List.mem_of_getElem? (i := 1625) (by decide +kernel)) (by decide +kernel)), (tG_of (List.mem_of_getElem? (i := 1626) (by decide +kernel)) (by decide +kernel)), (tG_of (List.mem_of_getElem? (i := 112) (by decide +kernel)) (by decide +kernel)), (tG_of (List.mem_of_getElem? (i := 1627) (by decide +kernel)) (by decide +kernel)), ⟨by decide, by decide, by decide +kernel⟩, by decide⟩
theorem dX11_age_0 : decode cX11_age 0 = .ok (.aload_n 0, 1) := by decide +kernel
theorem dX11_age_1 : decode cX11_age 1 = .ok (.iload_n 1, 1) := by decide +kernel
theorem dX11_age_2 : decode cX11_age 2 = .ok (.invokevirtual 335, 3) := by decide +kernel
theorem dX11_age_5 : decode cX11_age 5 = .ok (.ifCond .eq 11, 3) := by decide +kernel
theorem dX11_age_8 : decode cX11_age 8 = .ok (.aload_n 0, 1) := by decide +kernel
theorem dX11_age_9 : decode cX11_age 9 = .ok (.iload_n 1, 1) := by decide +kernel
theorem dX11_age_10 : decode cX11_age 10 = .ok (.invokevirtual 363, 3) := by decide +kernel
theorem dX11_age_13 : decode cX11_age 13 = .ok (.goto 4, 3) := by decide +kernel
theorem dX11_age_16 : decode cX11_age 16 = .ok (.iconst (-1), 1) := by decide +kernel
theorem dX11_age_17 : decode cX11_age 17 = .ok (.ireturn, 1) := by decide +kernel
def X11_age (l1 : Int) (μ : Mm) : Rs := bd (X11_isReady l1 μ) fun v1 μ2 => if v1 = 0 then (some ((-1), μ2)) else (bd (X11_ageOf l1 μ2) fun v5 μ6 => some (v5, μ6))
set_option maxHeartbeats 4000000 in
set_option maxRecDepth 100000 in
theorem kX11_age (d : Nat) (hd : 135 ≤ d) {l1 : Int} {μ : Mm} {r : Int} {μ' : Mm} (h : X11_age l1 μ = some (r, μ')) : CC d mX11_age [vR 70, vI l1] μ r μ' := by
  unfold X11_age at h
  refine V_enter (by decide) (Nat.le_of_ble_eq_true rfl) ?_
  show VV d mX11_age 0 [some (vR 70), some (vI l1)] [] μ r μ'
  refine V_aload_n (q := 1) dX11_age_0 rfl rfl rfl ?_
  refine V_iload_n (q := 2) dX11_age_1 rfl rfl rfl ?_
  obtain ⟨v1, μ2, hc3, h⟩ := bd_i h
  refine V_cV1 (q := 5) (v := vI v1) (kX11_isReady (d - 1) (by omega) hc3) (by omega) mv_X11_335 rfl rfl rfl rfl rfl rfl dX11_age_2 rfl ?_
  refine V_ifeq (q := 16) (q2 := 8) dX11_age_5 (by decide) rfl (fun hc4 => ?_) (fun hc4 => ?_)
  · have h := ifT hc4 h
    refine V_iconst (q := 17) dX11_age_16 rfl rfl ?_
    exact V_iret rfl h dX11_age_17
  · have h := ifF hc4 h
    refine V_aload_n (q := 9) dX11_age_8 rfl rfl rfl ?_
    refine V_iload_n (q := 10) dX11_age_9 rfl rfl rfl ?_
    obtain ⟨v5, μ6, hc7, h⟩ := bd_i h
    refine V_cV1 (q := 13) (v := vI v5) (kX11_ageOf (d - 1) (by omega) hc7) (by omega) mv_X11_363 rfl rfl rfl rfl rfl rfl dX11_age_10 rfl ?_
    refine V_goto (q := 17) dX11_age_13 (by decide) ?_
    exact V_iret rfl h dX11_age_17
abbrev mX11_first : Mth := (yX11_first, cX11_first, 5, some .int)
theorem mi_X11_first : Cond.instanceMethod yX11_first ∈ tG ∧ Cond.selects yX11_first.cls yX11_first yX11_first ∈ tG ∧ Cond.initialized yX11_first.cls ∈ tG ∧ Cond.code yX11_first cX11_first 5 (some .int) ∈ tG ∧ (yX11_first.cls ≠ "java/lang/invoke/MethodHandle" ∧ yX11_first.cls ≠ "java/lang/invoke/VarHandle" ∧ (parseMethodDescriptor yX11_first.desc).map (fun d => d.parameters.length) = some 0) ∧ 5 ≤ 60 := ⟨(tG_of (List.mem_of_getElem? (i := 1633) (by decide +kernel)) (by decide +kernel)), (tG_of (List.mem_of_getElem? (i := 1634) (by decide +kernel)) (by decide +kernel)), (tG_of (List.mem_of_getElem? (i := 112) (by decide +kernel)) (by decide +kernel)), (tG_of (List.mem_of_getElem? (i := 1635) (by decide +kernel)) (by decide +kernel)), ⟨by decide, by decide, by decide +kernel⟩, by decide⟩
theorem dX11_first_0 : decode cX11_first 0 = .ok (.iconst (-1), 1) := by decide +kernel
theorem dX11_first_1 : decode cX11_first 1 = .ok (.istore_n 1, 1) := by decide +kernel
theorem dX11_first_2 : decode cX11_first 2 = .ok (.iconst 0, 1) := by decide +kernel
theorem dX11_first_3 : decode cX11_first 3 = .ok (.istore_n 2, 1) := by decide +kernel
theorem dX11_first_4 : decode cX11_first 4 = .ok (.iconst 0, 1) := by decide +kernel
theorem dX11_first_5 : decode cX11_first 5 = .ok (.istore_n 3, 1) := by decide +kernel
theorem dX11_first_6 : decode cX11_first 6 = .ok (.iload_n 3, 1) := by decide +kernel
theorem dX11_first_7 : decode cX11_first 7 = .ok (.aload_n 0, 1) := by decide +kernel
theorem dX11_first_8 : decode cX11_first 8 = .ok (.getfield 275, 3) := by decide +kernel
theorem dX11_first_11 : decode cX11_first 11 = .ok (.if_icmp .ge 45, 3) := by decide +kernel
theorem dX11_first_14 : decode cX11_first 14 = .ok (.aload_n 0, 1) := by decide +kernel
theorem dX11_first_15 : decode cX11_first 15 = .ok (.getfield 252, 3) := by decide +kernel
theorem dX11_first_18 : decode cX11_first 18 = .ok (.ifCond .le 38, 3) := by decide +kernel
theorem dX11_first_21 : decode cX11_first 21 = .ok (.aload_n 0, 1) := by decide +kernel
theorem dX11_first_22 : decode cX11_first 22 = .ok (.iload_n 3, 1) := by decide +kernel
theorem dX11_first_23 : decode cX11_first 23 = .ok (.invokevirtual 335, 3) := by decide +kernel
theorem dX11_first_26 : decode cX11_first 26 = .ok (.pop, 1) := by decide +kernel
theorem dX11_first_27 : decode cX11_first 27 = .ok (.aload_n 0, 1) := by decide +kernel
theorem dX11_first_28 : decode cX11_first 28 = .ok (.iload_n 3, 1) := by decide +kernel
theorem dX11_first_29 : decode cX11_first 29 = .ok (.invokevirtual 363, 3) := by decide +kernel
theorem dX11_first_32 : decode cX11_first 32 = .ok (.istore 4, 2) := by decide +kernel
theorem dX11_first_34 : decode cX11_first 34 = .ok (.iload_n 1, 1) := by decide +kernel
theorem dX11_first_35 : decode cX11_first 35 = .ok (.iconst (-1), 1) := by decide +kernel
theorem dX11_first_36 : decode cX11_first 36 = .ok (.if_icmp .eq 9, 3) := by decide +kernel
theorem dX11_first_39 : decode cX11_first 39 = .ok (.iload 4, 2) := by decide +kernel
theorem dX11_first_41 : decode cX11_first 41 = .ok (.iload_n 2, 1) := by decide +kernel
theorem dX11_first_42 : decode cX11_first 42 = .ok (.if_icmp .ge 8, 3) := by decide +kernel
theorem dX11_first_45 : decode cX11_first 45 = .ok (.iload_n 3, 1) := by decide +kernel
theorem dX11_first_46 : decode cX11_first 46 = .ok (.istore_n 1, 1) := by decide +kernel
theorem dX11_first_47 : decode cX11_first 47 = .ok (.iload 4, 2) := by decide +kernel
theorem dX11_first_49 : decode cX11_first 49 = .ok (.istore_n 2, 1) := by decide +kernel
theorem dX11_first_50 : decode cX11_first 50 = .ok (.iinc 3 1, 3) := by decide +kernel
theorem dX11_first_53 : decode cX11_first 53 = .ok (.goto (-47), 3) := by decide +kernel
theorem dX11_first_56 : decode cX11_first 56 = .ok (.iload_n 1, 1) := by decide +kernel
theorem dX11_first_57 : decode cX11_first 57 = .ok (.ireturn, 1) := by decide +kernel
def X11_first_L6 : Nat → Int → Int → Int → Mm → Rs
  | 0, _, _, _, _ => none
  | n + 1, l1, l2, l3, μ => if (μ 70 28) ≤ l3 then (some (l1, μ)) else (if (μ 70 23) ≤ 0 then (some (l1, μ)) else (bd (X11_isReady l3 μ) fun v3 μ4 => bd (X11_ageOf l3 μ4) fun v6 μ7 => if l1 = (-1) then (X11_first_L6 n l3 v6 (iA l3 1) μ7) else (if l2 ≤ v6 then (X11_first_L6 n l1 l2 (iA l3 1) μ7) else (X11_first_L6 n l3 v6 (iA l3 1) μ7))))
def X11_first (μ : Mm) : Rs := X11_first_L6 FU (-1) 0 0 μ
set_option maxHeartbeats 4000000 in
set_option maxRecDepth 100000 in
theorem kX11_first_L6 (d : Nat) (hd : 135 ≤ d) {r : Int} {μ' : Mm} : ∀ (n : Nat) {l1 l2 l3 : Int} {μ : Mm}, X11_first_L6 n l1 l2 l3 μ = some (r, μ') → VV d mX11_first 6 [some (vR 70), some (vI l1), some (vI l2), some (vI l3), none] [] μ r μ' := by
  intro n
  induction n with
  | zero => intro l1 l2 l3 μ h; rw [X11_first_L6] at h; cases h
  | succ n ih =>
    intro l1 l2 l3 μ h
    rw [X11_first_L6] at h
    refine V_iload_n (q := 7) dX11_first_6 rfl rfl rfl ?_
    refine V_aload_n (q := 8) dX11_first_7 rfl rfl rfl ?_
    refine V_getI (q := 11) fl_X11_275 rfl rfl rfl dX11_first_8 rfl ?_
    refine V_icmpge (q := 56) (q2 := 14) dX11_first_11 (by decide) rfl (fun hc1 => ?_) (fun hc1 => ?_)
    · have h := ifT hc1 h
      refine V_iload_n (q := 57) dX11_first_56 rfl rfl rfl ?_
      exact V_iret rfl h dX11_first_57
    · have h := ifF hc1 h
      refine V_aload_n (q := 15) dX11_first_14 rfl rfl rfl ?_
      refine V_getI (q := 18) fl_X11_252 rfl rfl rfl dX11_first_15 rfl ?_
      refine V_ifle (q := 56) (q2 := 21) dX11_first_18 (by decide) rfl (fun hc2 => ?_) (fun hc2 => ?_)
      · have h := ifT hc2 h
        refine V_iload_n (q := 57) dX11_first_56 rfl rfl rfl ?_
        exact V_iret rfl h dX11_first_57
      · have h := ifF hc2 h
        refine V_aload_n (q := 22) dX11_first_21 rfl rfl rfl ?_
        refine V_iload_n (q := 23) dX11_first_22 rfl rfl rfl ?_
        obtain ⟨v3, μ4, hc5, h⟩ := bd_i h
        refine V_cV1 (q := 26) (v := vI v3) (kX11_isReady (d - 1) (by omega) hc5) (by omega) mv_X11_335 rfl rfl rfl rfl rfl rfl dX11_first_23 rfl ?_
        refine V_pop (q := 27) dX11_first_26 trivial rfl ?_
        refine V_aload_n (q := 28) dX11_first_27 rfl rfl rfl ?_
        refine V_iload_n (q := 29) dX11_first_28 rfl rfl rfl ?_
        obtain ⟨v6, μ7, hc8, h⟩ := bd_i h
        refine V_cV1 (q := 32) (v := vI v6) (kX11_ageOf (d - 1) (by omega) hc8) (by omega) mv_X11_363 rfl rfl rfl rfl rfl rfl dX11_first_29 rfl ?_
        refine V_istore (q := 34) dX11_first_32 (Nat.le_of_ble_eq_true rfl) trivial rfl ?_
        refine V_iload_n (q := 35) dX11_first_34 rfl rfl rfl ?_
        refine V_iconst (q := 36) dX11_first_35 rfl rfl ?_
        refine V_icmpeq (q := 45) (q2 := 39) dX11_first_36 (by decide) rfl (fun hc9 => ?_) (fun hc9 => ?_)
        · have h := ifT hc9 h
          refine V_iload_n (q := 46) dX11_first_45 rfl rfl rfl ?_
          refine V_istore_n (q := 47) dX11_first_46 rfl (Nat.le_of_ble_eq_true rfl) trivial rfl ?_
          refine V_iload (q := 49) dX11_first_47 rfl rfl ?_
          refine V_istore_n (q := 50) dX11_first_49 rfl (Nat.le_of_ble_eq_true rfl) trivial rfl ?_
          refine V_iinc (q := 53) dX11_first_50 rfl (Nat.le_of_ble_eq_true rfl) trivial rfl ?_
          refine V_goto (q := 6) dX11_first_53 (by decide) ?_
          exact V_weak (ih h) (sb_s rfl (sb_s rfl (sb_s rfl (sb_s rfl (sb_n sb_0)))))
        · have h := ifF hc9 h
          refine V_iload (q := 41) dX11_first_39 rfl rfl ?_
          refine V_iload_n (q := 42) dX11_first_41 rfl rfl rfl ?_
          refine V_icmpge (q := 50) (q2 := 45) dX11_first_42 (by decide) rfl (fun hc10 => ?_) (fun hc10 => ?_)
          · have h := ifT hc10 h
            refine V_iinc (q := 53) dX11_first_50 rfl (Nat.le_of_ble_eq_true rfl) trivial rfl ?_
            refine V_goto (q := 6) dX11_first_53 (by decide) ?_
            exact V_weak (ih h) (sb_s rfl (sb_s rfl (sb_s rfl (sb_s rfl (sb_n sb_0)))))
          · have h := ifF hc10 h
            refine V_iload_n (q := 46) dX11_first_45 rfl rfl rfl ?_
            refine V_istore_n (q := 47) dX11_first_46 rfl (Nat.le_of_ble_eq_true rfl) trivial rfl ?_
            refine V_iload (q := 49) dX11_first_47 rfl rfl ?_
            refine V_istore_n (q := 50) dX11_first_49 rfl (Nat.le_of_ble_eq_true rfl) trivial rfl ?_
            refine V_iinc (q := 53) dX11_first_50 rfl (Nat.le_of_ble_eq_true rfl) trivial rfl ?_
            refine V_goto (q := 6) dX11_first_53 (by decide) ?_
            exact V_weak (ih h) (sb_s rfl (sb_s rfl (sb_s rfl (sb_s rfl (sb_n sb_0)))))
set_option maxHeartbeats 4000000 in
set_option maxRecDepth 100000 in
theorem kX11_first (d : Nat) (hd : 135 ≤ d) {μ : Mm} {r : Int} {μ' : Mm} (h : X11_first μ = some (r, μ')) : CC d mX11_first [vR 70] μ r μ' := by
  unfold X11_first at h
  refine V_enter (by decide) (Nat.le_of_ble_eq_true rfl) ?_
  show VV d mX11_first 0 [some (vR 70), none, none, none, none] [] μ r μ'
  refine V_iconst (q := 1) dX11_first_0 rfl rfl ?_
  refine V_istore_n (q := 2) dX11_first_1 rfl (Nat.le_of_ble_eq_true rfl) trivial rfl ?_
  refine V_iconst (q := 3) dX11_first_2 rfl rfl ?_
  refine V_istore_n (q := 4) dX11_first_3 rfl (Nat.le_of_ble_eq_true rfl) trivial rfl ?_
  refine V_iconst (q := 5) dX11_first_4 rfl rfl ?_
  refine V_istore_n (q := 6) dX11_first_5 rfl (Nat.le_of_ble_eq_true rfl) trivial rfl ?_
  exact V_weak (kX11_first_L6 d hd  FU h) (sb_s rfl (sb_s rfl (sb_s rfl (sb_s rfl (sb_n sb_0)))))
abbrev mX11_leastNow : Mth := (yX11_leastNow, cX11_leastNow, 2, some .int)
theorem mi_X11_leastNow : Cond.instanceMethod yX11_leastNow ∈ tG ∧ Cond.selects yX11_leastNow.cls yX11_leastNow yX11_leastNow ∈ tG ∧ Cond.initialized yX11_leastNow.cls ∈ tG ∧ Cond.code yX11_leastNow cX11_leastNow 2 (some .int) ∈ tG ∧ (yX11_leastNow.cls ≠ "java/lang/invoke/MethodHandle" ∧ yX11_leastNow.cls ≠ "java/lang/invoke/VarHandle" ∧ (parseMethodDescriptor yX11_leastNow.desc).map (fun d => d.parameters.length) = some 1) ∧ 2 ≤ 60 := ⟨(tG_of (List.mem_of_getElem? (i := 1642) (by decide +kernel)) (by decide +kernel)), (tG_of (List.mem_of_getElem? (i := 93) (by decide +kernel)) (by decide +kernel)), (tG_of (List.mem_of_getElem? (i := 112) (by decide +kernel)) (by decide +kernel)), (tG_of (List.mem_of_getElem? (i := 1643) (by decide +kernel)) (by decide +kernel)), ⟨by decide, by decide, by decide +kernel⟩, by decide⟩
theorem mv_X11_366 : mV RX11 366 mX11_leastNow 1 := ⟨(tG_of (List.mem_of_getElem? (i := 1640) (by decide +kernel)) (by decide +kernel)), mi_X11_leastNow⟩
theorem dX11_leastNow_0 : decode cX11_leastNow 0 = .ok (.aload_n 0, 1) := by decide +kernel
theorem dX11_leastNow_1 : decode cX11_leastNow 1 = .ok (.iload_n 1, 1) := by decide +kernel
theorem dX11_leastNow_2 : decode cX11_leastNow 2 = .ok (.invokevirtual 335, 3) := by decide +kernel
theorem dX11_leastNow_5 : decode cX11_leastNow 5 = .ok (.pop, 1) := by decide +kernel
theorem dX11_leastNow_6 : decode cX11_leastNow 6 = .ok (.aload_n 0, 1) := by decide +kernel
theorem dX11_leastNow_7 : decode cX11_leastNow 7 = .ok (.iconst 0, 1) := by decide +kernel
theorem dX11_leastNow_8 : decode cX11_leastNow 8 = .ok (.aload_n 0, 1) := by decide +kernel
theorem dX11_leastNow_9 : decode cX11_leastNow 9 = .ok (.invokevirtual 357, 3) := by decide +kernel
theorem dX11_leastNow_12 : decode cX11_leastNow 12 = .ok (.invokevirtual 360, 3) := by decide +kernel
theorem dX11_leastNow_15 : decode cX11_leastNow 15 = .ok (.ireturn, 1) := by decide +kernel
def X11_leastNow (l1 : Int) (μ : Mm) : Rs := bd (X11_isReady l1 μ) fun v1 μ2 => bd (X11_all μ2) fun v4 μ5 => bd (X11_leastOf 0 v4 μ5) fun v7 μ8 => some (v7, μ8)
set_option maxHeartbeats 4000000 in
set_option maxRecDepth 100000 in
theorem kX11_leastNow (d : Nat) (hd : 134 ≤ d) {l1 : Int} {μ : Mm} {r : Int} {μ' : Mm} (h : X11_leastNow l1 μ = some (r, μ')) : CC d mX11_leastNow [vR 70, vI l1] μ r μ' := by
  unfold X11_leastNow at h
  refine V_enter (by decide) (Nat.le_of_ble_eq_true rfl) ?_
  show VV d mX11_leastNow 0 [some (vR 70), some (vI l1)] [] μ r μ'
  refine V_aload_n (q := 1) dX11_leastNow_0 rfl rfl rfl ?_
  refine V_iload_n (q := 2) dX11_leastNow_1 rfl rfl rfl ?_
  obtain ⟨v1, μ2, hc3, h⟩ := bd_i h
  refine V_cV1 (q := 5) (v := vI v1) (kX11_isReady (d - 1) (by omega) hc3) (by omega) mv_X11_335 rfl rfl rfl rfl rfl rfl dX11_leastNow_2 rfl ?_
  refine V_pop (q := 6) dX11_leastNow_5 trivial rfl ?_
  refine V_aload_n (q := 7) dX11_leastNow_6 rfl rfl rfl ?_
  refine V_iconst (q := 8) dX11_leastNow_7 rfl rfl ?_
  refine V_aload_n (q := 9) dX11_leastNow_8 rfl rfl rfl ?_
  obtain ⟨v4, μ5, hc6, h⟩ := bd_i h
  refine V_cV1 (q := 12) (v := vI v4) (kX11_all (d - 1) (by omega) hc6) (by omega) mv_X11_357 rfl rfl rfl rfl rfl rfl dX11_leastNow_9 rfl ?_
  obtain ⟨v7, μ8, hc9, h⟩ := bd_i h
  refine V_cV1 (q := 15) (v := vI v7) (kX11_leastOf (d - 1) (by omega) hc9) (by omega) mv_X11_360 rfl rfl rfl rfl rfl rfl dX11_leastNow_12 rfl ?_
  exact V_iret rfl h dX11_leastNow_15
abbrev mX11_post : Mth := (yX11_post, cX11_post, 7, some .int)
theorem mi_X11_post : Cond.instanceMethod yX11_post ∈ tG ∧ Cond.selects yX11_post.cls yX11_post yX11_post ∈ tG ∧ Cond.initialized yX11_post.cls ∈ tG ∧ Cond.code yX11_post cX11_post 7 (some .int) ∈ tG ∧ (yX11_post.cls ≠ "java/lang/invoke/MethodHandle" ∧ yX11_post.cls ≠ "java/lang/invoke/VarHandle" ∧ (parseMethodDescriptor yX11_post.desc).map (fun d => d.parameters.length) = some 2) ∧ 7 ≤ 60 := ⟨(tG_of (List.mem_of_getElem? (i := 1637) (by decide +kernel)) (by decide +kernel)), (tG_of (List.mem_of_getElem? (i := 1638) (by decide +kernel)) (by decide +kernel)), (tG_of (List.mem_of_getElem? (i := 112) (by decide +kernel)) (by decide +kernel)), (tG_of (List.mem_of_getElem? (i := 1639) (by decide +kernel)) (by decide +kernel)), ⟨by decide, by decide, by decide +kernel⟩, by decide⟩
theorem dX11_post_0 : decode cX11_post 0 = .ok (.aload_n 0, 1) := by decide +kernel
theorem dX11_post_1 : decode cX11_post 1 = .ok (.iload_n 1, 1) := by decide +kernel
theorem dX11_post_2 : decode cX11_post 2 = .ok (.invokevirtual 335, 3) := by decide +kernel
theorem dX11_post_5 : decode cX11_post 5 = .ok (.ifCond .eq 12, 3) := by decide +kernel
theorem dX11_post_8 : decode cX11_post 8 = .ok (.iload_n 2, 1) := by decide +kernel
theorem dX11_post_9 : decode cX11_post 9 = .ok (.iconst 0, 1) := by decide +kernel
theorem dX11_post_10 : decode cX11_post 10 = .ok (.iconst 1, 1) := by decide +kernel
theorem dX11_post_11 : decode cX11_post 11 = .ok (.invokestatic 213, 3) := by decide +kernel
theorem dX11_post_14 : decode cX11_post 14 = .ok (.ifCond .ne 5, 3) := by decide +kernel
theorem dX11_post_17 : decode cX11_post 17 = .ok (.iconst (-1), 1) := by decide +kernel
theorem dX11_post_18 : decode cX11_post 18 = .ok (.ireturn, 1) := by decide +kernel
theorem dX11_post_19 : decode cX11_post 19 = .ok (.iconst (-1), 1) := by decide +kernel
theorem dX11_post_20 : decode cX11_post 20 = .ok (.istore_n 3, 1) := by decide +kernel
theorem dX11_post_21 : decode cX11_post 21 = .ok (.iconst 0, 1) := by decide +kernel
theorem dX11_post_22 : decode cX11_post 22 = .ok (.istore 4, 2) := by decide +kernel
theorem dX11_post_24 : decode cX11_post 24 = .ok (.iconst 0, 1) := by decide +kernel
theorem dX11_post_25 : decode cX11_post 25 = .ok (.istore 5, 2) := by decide +kernel
theorem dX11_post_27 : decode cX11_post 27 = .ok (.iload 5, 2) := by decide +kernel
theorem dX11_post_29 : decode cX11_post 29 = .ok (.bipush 60, 2) := by decide +kernel
theorem dX11_post_31 : decode cX11_post 31 = .ok (.if_icmp .ge 77, 3) := by decide +kernel
theorem dX11_post_34 : decode cX11_post 34 = .ok (.aload_n 0, 1) := by decide +kernel
theorem dX11_post_35 : decode cX11_post 35 = .ok (.iload 5, 2) := by decide +kernel
theorem dX11_post_37 : decode cX11_post 37 = .ok (.invokevirtual 258, 3) := by decide +kernel
theorem dX11_post_40 : decode cX11_post 40 = .ok (.ifCond .eq 62, 3) := by decide +kernel
theorem dX11_post_43 : decode cX11_post 43 = .ok (.aload_n 0, 1) := by decide +kernel
theorem dX11_post_44 : decode cX11_post 44 = .ok (.getfield 43, 3) := by decide +kernel
theorem dX11_post_47 : decode cX11_post 47 = .ok (.iload 5, 2) := by decide +kernel
theorem dX11_post_49 : decode cX11_post 49 = .ok (.iaload, 1) := by decide +kernel
theorem dX11_post_50 : decode cX11_post 50 = .ok (.iconst 1, 1) := by decide +kernel
theorem dX11_post_51 : decode cX11_post 51 = .ok (.if_icmp .ne 51, 3) := by decide +kernel
theorem dX11_post_54 : decode cX11_post 54 = .ok (.aload_n 0, 1) := by decide +kernel
theorem dX11_post_55 : decode cX11_post 55 = .ok (.getfield 43, 3) := by decide +kernel
theorem dX11_post_58 : decode cX11_post 58 = .ok (.iload 5, 2) := by decide +kernel
theorem dX11_post_60 : decode cX11_post 60 = .ok (.iconst 0, 1) := by decide +kernel
theorem dX11_post_61 : decode cX11_post 61 = .ok (.iastore, 1) := by decide +kernel
theorem dX11_post_62 : decode cX11_post 62 = .ok (.aload_n 0, 1) := by decide +kernel
theorem dX11_post_63 : decode cX11_post 63 = .ok (.iload_n 1, 1) := by decide +kernel
theorem dX11_post_64 : decode cX11_post 64 = .ok (.invokevirtual 366, 3) := by decide +kernel
theorem dX11_post_67 : decode cX11_post 67 = .ok (.istore 6, 2) := by decide +kernel
theorem dX11_post_69 : decode cX11_post 69 = .ok (.aload_n 0, 1) := by decide +kernel
theorem dX11_post_70 : decode cX11_post 70 = .ok (.getfield 43, 3) := by decide +kernel
theorem dX11_post_73 : decode cX11_post 73 = .ok (.iload 5, 2) := by decide +kernel
theorem dX11_post_75 : decode cX11_post 75 = .ok (.iconst 1, 1) := by decide +kernel
theorem dX11_post_76 : decode cX11_post 76 = .ok (.iastore, 1) := by decide +kernel
theorem dX11_post_77 : decode cX11_post 77 = .ok (.iload 6, 2) := by decide +kernel
theorem dX11_post_79 : decode cX11_post 79 = .ok (.iconst (-1), 1) := by decide +kernel
theorem dX11_post_80 : decode cX11_post 80 = .ok (.if_icmp .eq 22, 3) := by decide +kernel
theorem dX11_post_83 : decode cX11_post 83 = .ok (.iload_n 3, 1) := by decide +kernel
theorem dX11_post_84 : decode cX11_post 84 = .ok (.iconst (-1), 1) := by decide +kernel
theorem dX11_post_85 : decode cX11_post 85 = .ok (.if_icmp .eq 10, 3) := by decide +kernel
theorem dX11_post_88 : decode cX11_post 88 = .ok (.iload 6, 2) := by decide +kernel
theorem dX11_post_90 : decode cX11_post 90 = .ok (.iload 4, 2) := by decide +kernel
theorem dX11_post_92 : decode cX11_post 92 = .ok (.if_icmp .ge 10, 3) := by decide +kernel
theorem dX11_post_95 : decode cX11_post 95 = .ok (.iload 5, 2) := by decide +kernel
theorem dX11_post_97 : decode cX11_post 97 = .ok (.istore_n 3, 1) := by decide +kernel
theorem dX11_post_98 : decode cX11_post 98 = .ok (.iload 6, 2) := by decide +kernel
theorem dX11_post_100 : decode cX11_post 100 = .ok (.istore 4, 2) := by decide +kernel
theorem dX11_post_102 : decode cX11_post 102 = .ok (.iinc 5 1, 3) := by decide +kernel
theorem dX11_post_105 : decode cX11_post 105 = .ok (.goto (-78), 3) := by decide +kernel
theorem dX11_post_108 : decode cX11_post 108 = .ok (.iload_n 3, 1) := by decide +kernel
theorem dX11_post_109 : decode cX11_post 109 = .ok (.iconst (-1), 1) := by decide +kernel
theorem dX11_post_110 : decode cX11_post 110 = .ok (.if_icmp .eq 7, 3) := by decide +kernel
theorem dX11_post_113 : decode cX11_post 113 = .ok (.iload_n 2, 1) := by decide +kernel
theorem dX11_post_114 : decode cX11_post 114 = .ok (.ifCond .ne 7, 3) := by decide +kernel
theorem dX11_post_117 : decode cX11_post 117 = .ok (.iload_n 3, 1) := by decide +kernel
theorem dX11_post_118 : decode cX11_post 118 = .ok (.goto 5, 3) := by decide +kernel
theorem dX11_post_121 : decode cX11_post 121 = .ok (.iload 4, 2) := by decide +kernel
theorem dX11_post_123 : decode cX11_post 123 = .ok (.ireturn, 1) := by decide +kernel
def X11_post_L27 (l1 : Int) (l2 : Int) (k108 : Int → Int → Mm → Rs) : Nat → Int → Int → Int → Mm → Rs
  | 0, _, _, _, _ => none
  | n + 1, l3, l4, l5, μ => if 60 ≤ l5 then (k108 l3 l4 μ) else (bd (X11_isPlace l5 μ) fun v10 μ11 => if v10 = 0 then (X11_post_L27 l1 l2 k108 n l3 l4 (iA l5 1) μ11) else (ldA μ11 82 l5 fun v14 => if v14 = 1 then (stA μ11 82 l5 0 fun μ17 => bd (X11_leastNow l1 μ17) fun v19 μ20 => stA μ20 82 l5 1 fun μ22 => if v19 = (-1) then (X11_post_L27 l1 l2 k108 n l3 l4 (iA l5 1) μ22) else (if l3 = (-1) then (X11_post_L27 l1 l2 k108 n l5 v19 (iA l5 1) μ22) else (if l4 ≤ v19 then (X11_post_L27 l1 l2 k108 n l3 l4 (iA l5 1) μ22) else (X11_post_L27 l1 l2 k108 n l5 v19 (iA l5 1) μ22)))) else (X11_post_L27 l1 l2 k108 n l3 l4 (iA l5 1) μ11)))
def X11_post (l1 : Int) (l2 : Int) (μ : Mm) : Rs := bd (X11_isReady l1 μ) fun v1 μ2 => if v1 = 0 then (some ((-1), μ2)) else (bd (X11_in l2 0 1 μ2) fun v5 μ6 => if v5 = 0 then (some ((-1), μ6)) else (X11_post_L27 l1 l2 (fun v27 v28 μ29 => if v27 = (-1) then (some (v27, μ29)) else (if l2 = 0 then (some (v27, μ29)) else (some (v28, μ29)))) FU (-1) 0 0 μ6))
set_option maxHeartbeats 4000000 in
set_option maxRecDepth 100000 in
theorem kX11_post_L27 (d : Nat) (hd : 135 ≤ d) {l1 : Int} {l2 : Int} {k108 : Int → Int → Mm → Rs} {r : Int} {μ' : Mm} (hk_108 : ∀ (v3 v4 : Int) (μ1 : Mm), k108 v3 v4 μ1 = some (r, μ') → VV d mX11_post 108 [none, none, some (vI l2), some (vI v3), some (vI v4), none, none] [] μ1 r μ') : ∀ (n : Nat) {l3 l4 l5 : Int} {μ : Mm}, X11_post_L27 l1 l2 k108 n l3 l4 l5 μ = some (r, μ') → VV d mX11_post 27 [some (vR 70), some (vI l1), some (vI l2), some (vI l3), some (vI l4), some (vI l5), none] [] μ r μ' := by
  intro n
  induction n with
  | zero => intro l3 l4 l5 μ h; rw [X11_post_L27] at h; cases h
  | succ n ih =>
    intro l3 l4 l5 μ h
    rw [X11_post_L27] at h
    refine V_iload (q := 29) dX11_post_27 rfl rfl ?_
    refine V_bipush (q := 31) dX11_post_29 rfl rfl rfl ?_
    refine V_icmpge (q := 108) (q2 := 34) dX11_post_31 (by decide) rfl (fun hc9 => ?_) (fun hc9 => ?_)
    · have h := ifT hc9 h
      exact V_weak (hk_108 _ _ _ h) (sb_n (sb_n (sb_s rfl (sb_s rfl (sb_s rfl (sb_n (sb_n sb_0)))))))
    · have h := ifF hc9 h
      refine V_aload_n (q := 35) dX11_post_34 rfl rfl rfl ?_
      refine V_iload (q := 37) dX11_post_35 rfl rfl ?_
      obtain ⟨v10, μ11, hc12, h⟩ := bd_i h
      refine V_cV1 (q := 40) (v := vI v10) (kX11_isPlace (d - 1) (by omega) hc12) (by omega) mv_X11_258 rfl rfl rfl rfl rfl rfl dX11_post_37 rfl ?_
      refine V_ifeq (q := 102) (q2 := 43) dX11_post_40 (by decide) rfl (fun hc13 => ?_) (fun hc13 => ?_)
      · have h := ifT hc13 h
        refine V_iinc (q := 105) dX11_post_102 rfl (Nat.le_of_ble_eq_true rfl) trivial rfl ?_
        refine V_goto (q := 27) dX11_post_105 (by decide) ?_
        exact V_weak (ih h) (sb_s rfl (sb_s rfl (sb_s rfl (sb_s rfl (sb_s rfl (sb_s rfl (sb_n sb_0)))))))
      · have h := ifF hc13 h
        refine V_aload_n (q := 44) dX11_post_43 rfl rfl rfl ?_
        refine V_getO (q := 47) (t := 82) fl_X11_43 rfl rfl rfl rfl dX11_post_44 rfl ?_
        refine V_iload (q := 49) dX11_post_47 rfl rfl ?_
        obtain ⟨hi15, h⟩ := ldA_i h
        refine V_iaload (q := 50) rfl hi15 dX11_post_49 rfl ?_
        refine V_iconst (q := 51) dX11_post_50 rfl rfl ?_
        refine V_icmpne (q := 102) (q2 := 54) dX11_post_51 (by decide) rfl (fun hc16 => ?_) (fun hc16 => ?_)
        · have h := ifF hc16 h
          refine V_iinc (q := 105) dX11_post_102 rfl (Nat.le_of_ble_eq_true rfl) trivial rfl ?_
          refine V_goto (q := 27) dX11_post_105 (by decide) ?_
          exact V_weak (ih h) (sb_s rfl (sb_s rfl (sb_s rfl (sb_s rfl (sb_s rfl (sb_s rfl (sb_n sb_0)))))))
        · have h := ifT hc16 h
          refine V_aload_n (q := 55) dX11_post_54 rfl rfl rfl ?_
          refine V_getO (q := 58) (t := 82) fl_X11_43 rfl rfl rfl rfl dX11_post_55 rfl ?_
          refine V_iload (q := 60) dX11_post_58 rfl rfl ?_
          refine V_iconst (q := 61) dX11_post_60 rfl rfl ?_
          obtain ⟨hi18, h⟩ := stA_i h
          refine V_iastore (q := 62) rfl hi18 dX11_post_61 rfl ?_
          refine V_aload_n (q := 63) dX11_post_62 rfl rfl rfl ?_
          refine V_iload_n (q := 64) dX11_post_63 rfl rfl rfl ?_
          obtain ⟨v19, μ20, hc21, h⟩ := bd_i h
          refine V_cV1 (q := 67) (v := vI v19) (kX11_leastNow (d - 1) (by omega) hc21) (by omega) mv_X11_366 rfl rfl rfl rfl rfl rfl dX11_post_64 rfl ?_
          refine V_istore (q := 69) dX11_post_67 (Nat.le_of_ble_eq_true rfl) trivial rfl ?_
          refine V_aload_n (q := 70) dX11_post_69 rfl rfl rfl ?_
          refine V_getO (q := 73) (t := 82) fl_X11_43 rfl rfl rfl rfl dX11_post_70 rfl ?_
          refine V_iload (q := 75) dX11_post_73 rfl rfl ?_
          refine V_iconst (q := 76) dX11_post_75 rfl rfl ?_
          obtain ⟨hi23, h⟩ := stA_i h
          refine V_iastore (q := 77) rfl hi23 dX11_post_76 rfl ?_
          refine V_iload (q := 79) dX11_post_77 rfl rfl ?_
          refine V_iconst (q := 80) dX11_post_79 rfl rfl ?_
          refine V_icmpeq (q := 102) (q2 := 83) dX11_post_80 (by decide) rfl (fun hc24 => ?_) (fun hc24 => ?_)
          · have h := ifT hc24 h
            refine V_iinc (q := 105) dX11_post_102 rfl (Nat.le_of_ble_eq_true rfl) trivial rfl ?_
            refine V_goto (q := 27) dX11_post_105 (by decide) ?_
            exact V_weak (ih h) (sb_s rfl (sb_s rfl (sb_s rfl (sb_s rfl (sb_s rfl (sb_s rfl (sb_n sb_0)))))))
          · have h := ifF hc24 h
            refine V_iload_n (q := 84) dX11_post_83 rfl rfl rfl ?_
            refine V_iconst (q := 85) dX11_post_84 rfl rfl ?_
            refine V_icmpeq (q := 95) (q2 := 88) dX11_post_85 (by decide) rfl (fun hc25 => ?_) (fun hc25 => ?_)
            · have h := ifT hc25 h
              refine V_iload (q := 97) dX11_post_95 rfl rfl ?_
              refine V_istore_n (q := 98) dX11_post_97 rfl (Nat.le_of_ble_eq_true rfl) trivial rfl ?_
              refine V_iload (q := 100) dX11_post_98 rfl rfl ?_
              refine V_istore (q := 102) dX11_post_100 (Nat.le_of_ble_eq_true rfl) trivial rfl ?_
              refine V_iinc (q := 105) dX11_post_102 rfl (Nat.le_of_ble_eq_true rfl) trivial rfl ?_
              refine V_goto (q := 27) dX11_post_105 (by decide) ?_
              exact V_weak (ih h) (sb_s rfl (sb_s rfl (sb_s rfl (sb_s rfl (sb_s rfl (sb_s rfl (sb_n sb_0)))))))
            · have h := ifF hc25 h
              refine V_iload (q := 90) dX11_post_88 rfl rfl ?_
              refine V_iload (q := 92) dX11_post_90 rfl rfl ?_
              refine V_icmpge (q := 102) (q2 := 95) dX11_post_92 (by decide) rfl (fun hc26 => ?_) (fun hc26 => ?_)
              · have h := ifT hc26 h
                refine V_iinc (q := 105) dX11_post_102 rfl (Nat.le_of_ble_eq_true rfl) trivial rfl ?_
                refine V_goto (q := 27) dX11_post_105 (by decide) ?_
                exact V_weak (ih h) (sb_s rfl (sb_s rfl (sb_s rfl (sb_s rfl (sb_s rfl (sb_s rfl (sb_n sb_0)))))))
              · have h := ifF hc26 h
                refine V_iload (q := 97) dX11_post_95 rfl rfl ?_
                refine V_istore_n (q := 98) dX11_post_97 rfl (Nat.le_of_ble_eq_true rfl) trivial rfl ?_
                refine V_iload (q := 100) dX11_post_98 rfl rfl ?_
                refine V_istore (q := 102) dX11_post_100 (Nat.le_of_ble_eq_true rfl) trivial rfl ?_
                refine V_iinc (q := 105) dX11_post_102 rfl (Nat.le_of_ble_eq_true rfl) trivial rfl ?_
                refine V_goto (q := 27) dX11_post_105 (by decide) ?_
                exact V_weak (ih h) (sb_s rfl (sb_s rfl (sb_s rfl (sb_s rfl (sb_s rfl (sb_s rfl (sb_n sb_0)))))))
set_option maxHeartbeats 4000000 in
set_option maxRecDepth 100000 in
theorem kX11_post (d : Nat) (hd : 135 ≤ d) {l1 : Int} {l2 : Int} {μ : Mm} {r : Int} {μ' : Mm} (h : X11_post l1 l2 μ = some (r, μ')) : CC d mX11_post [vR 70, vI l1, vI l2] μ r μ' := by
  unfold X11_post at h
  refine V_enter (by decide) (Nat.le_of_ble_eq_true rfl) ?_
  show VV d mX11_post 0 [some (vR 70), some (vI l1), some (vI l2), none, none, none, none] [] μ r μ'
  refine V_aload_n (q := 1) dX11_post_0 rfl rfl rfl ?_
  refine V_iload_n (q := 2) dX11_post_1 rfl rfl rfl ?_
  obtain ⟨v1, μ2, hc3, h⟩ := bd_i h
  refine V_cV1 (q := 5) (v := vI v1) (kX11_isReady (d - 1) (by omega) hc3) (by omega) mv_X11_335 rfl rfl rfl rfl rfl rfl dX11_post_2 rfl ?_
  refine V_ifeq (q := 17) (q2 := 8) dX11_post_5 (by decide) rfl (fun hc4 => ?_) (fun hc4 => ?_)
  · have h := ifT hc4 h
    refine V_iconst (q := 18) dX11_post_17 rfl rfl ?_
    exact V_iret rfl h dX11_post_18
  · have h := ifF hc4 h
    refine V_iload_n (q := 9) dX11_post_8 rfl rfl rfl ?_
    refine V_iconst (q := 10) dX11_post_9 rfl rfl ?_
    refine V_iconst (q := 11) dX11_post_10 rfl rfl ?_
    obtain ⟨v5, μ6, hc7, h⟩ := bd_i h
    refine V_cS1 (q := 14) (v := vI v5) (kX11_in (d - 1) (by omega) hc7) (by omega) mv_X11_213 rfl rfl rfl rfl dX11_post_11 rfl ?_
    refine V_ifne (q := 19) (q2 := 17) dX11_post_14 (by decide) rfl (fun hc8 => ?_) (fun hc8 => ?_)
    · have h := ifF hc8 h
      refine V_iconst (q := 20) dX11_post_19 rfl rfl ?_
      refine V_istore_n (q := 21) dX11_post_20 rfl (Nat.le_of_ble_eq_true rfl) trivial rfl ?_
      refine V_iconst (q := 22) dX11_post_21 rfl rfl ?_
      refine V_istore (q := 24) dX11_post_22 (Nat.le_of_ble_eq_true rfl) trivial rfl ?_
      refine V_iconst (q := 25) dX11_post_24 rfl rfl ?_
      refine V_istore (q := 27) dX11_post_25 (Nat.le_of_ble_eq_true rfl) trivial rfl ?_
      refine V_weak (kX11_post_L27 d hd (fun v27 v28 μ29 h => ?_) FU h) (sb_s rfl (sb_s rfl (sb_s rfl (sb_s rfl (sb_s rfl (sb_s rfl (sb_n sb_0)))))))
      refine V_iload_n (q := 109) dX11_post_108 rfl rfl rfl ?_
      refine V_iconst (q := 110) dX11_post_109 rfl rfl ?_
      refine V_icmpeq (q := 117) (q2 := 113) dX11_post_110 (by decide) rfl (fun hc30 => ?_) (fun hc30 => ?_)
      · have h := ifT hc30 h
        refine V_iload_n (q := 118) dX11_post_117 rfl rfl rfl ?_
        refine V_goto (q := 123) dX11_post_118 (by decide) ?_
        exact V_iret rfl h dX11_post_123
      · have h := ifF hc30 h
        refine V_iload_n (q := 114) dX11_post_113 rfl rfl rfl ?_
        refine V_ifne (q := 121) (q2 := 117) dX11_post_114 (by decide) rfl (fun hc31 => ?_) (fun hc31 => ?_)
        · have h := ifF hc31 h
          refine V_iload (q := 123) dX11_post_121 rfl rfl ?_
          exact V_iret rfl h dX11_post_123
        · have h := ifT hc31 h
          refine V_iload_n (q := 118) dX11_post_117 rfl rfl rfl ?_
          refine V_goto (q := 123) dX11_post_118 (by decide) ?_
          exact V_iret rfl h dX11_post_123
    · have h := ifT hc8 h
      refine V_iconst (q := 18) dX11_post_17 rfl rfl ?_
      exact V_iret rfl h dX11_post_18
abbrev mX11_rope : Mth := (yX11_rope, cX11_rope, 8, some .int)
theorem mi_X11_rope : Cond.instanceMethod yX11_rope ∈ tG ∧ Cond.selects yX11_rope.cls yX11_rope yX11_rope ∈ tG ∧ Cond.initialized yX11_rope.cls ∈ tG ∧ Cond.code yX11_rope cX11_rope 8 (some .int) ∈ tG ∧ (yX11_rope.cls ≠ "java/lang/invoke/MethodHandle" ∧ yX11_rope.cls ≠ "java/lang/invoke/VarHandle" ∧ (parseMethodDescriptor yX11_rope.desc).map (fun d => d.parameters.length) = some 2) ∧ 8 ≤ 60 := ⟨(tG_of (List.mem_of_getElem? (i := 1645) (by decide +kernel)) (by decide +kernel)), (tG_of (List.mem_of_getElem? (i := 1646) (by decide +kernel)) (by decide +kernel)), (tG_of (List.mem_of_getElem? (i := 112) (by decide +kernel)) (by decide +kernel)), (tG_of (List.mem_of_getElem? (i := 1647) (by decide +kernel)) (by decide +kernel)), ⟨by decide, by decide, by decide +kernel⟩, by decide⟩
theorem dX11_rope_0 : decode cX11_rope 0 = .ok (.aload_n 0, 1) := by decide +kernel
theorem dX11_rope_1 : decode cX11_rope 1 = .ok (.iload_n 1, 1) := by decide +kernel
theorem dX11_rope_2 : decode cX11_rope 2 = .ok (.invokevirtual 335, 3) := by decide +kernel
theorem dX11_rope_5 : decode cX11_rope 5 = .ok (.ifCond .eq 12, 3) := by decide +kernel
theorem dX11_rope_8 : decode cX11_rope 8 = .ok (.iload_n 2, 1) := by decide +kernel
theorem dX11_rope_9 : decode cX11_rope 9 = .ok (.iconst 0, 1) := by decide +kernel
theorem dX11_rope_10 : decode cX11_rope 10 = .ok (.iconst 1, 1) := by decide +kernel
theorem dX11_rope_11 : decode cX11_rope 11 = .ok (.invokestatic 213, 3) := by decide +kernel
theorem dX11_rope_14 : decode cX11_rope 14 = .ok (.ifCond .ne 5, 3) := by decide +kernel
theorem dX11_rope_17 : decode cX11_rope 17 = .ok (.iconst (-1), 1) := by decide +kernel
theorem dX11_rope_18 : decode cX11_rope 18 = .ok (.ireturn, 1) := by decide +kernel
theorem dX11_rope_19 : decode cX11_rope 19 = .ok (.iconst (-1), 1) := by decide +kernel
theorem dX11_rope_20 : decode cX11_rope 20 = .ok (.istore_n 3, 1) := by decide +kernel
theorem dX11_rope_21 : decode cX11_rope 21 = .ok (.iconst 0, 1) := by decide +kernel
theorem dX11_rope_22 : decode cX11_rope 22 = .ok (.istore 4, 2) := by decide +kernel
theorem dX11_rope_24 : decode cX11_rope 24 = .ok (.iconst 0, 1) := by decide +kernel
theorem dX11_rope_25 : decode cX11_rope 25 = .ok (.istore 5, 2) := by decide +kernel
theorem dX11_rope_27 : decode cX11_rope 27 = .ok (.iload 5, 2) := by decide +kernel
theorem dX11_rope_29 : decode cX11_rope 29 = .ok (.bipush 8, 2) := by decide +kernel
theorem dX11_rope_31 : decode cX11_rope 31 = .ok (.if_icmp .ge 81, 3) := by decide +kernel
theorem dX11_rope_34 : decode cX11_rope 34 = .ok (.aload_n 0, 1) := by decide +kernel
theorem dX11_rope_35 : decode cX11_rope 35 = .ok (.iload 5, 2) := by decide +kernel
theorem dX11_rope_37 : decode cX11_rope 37 = .ok (.invokevirtual 284, 3) := by decide +kernel
theorem dX11_rope_40 : decode cX11_rope 40 = .ok (.ifCond .eq 66, 3) := by decide +kernel
theorem dX11_rope_43 : decode cX11_rope 43 = .ok (.aload_n 0, 1) := by decide +kernel
theorem dX11_rope_44 : decode cX11_rope 44 = .ok (.getfield 55, 3) := by decide +kernel
theorem dX11_rope_47 : decode cX11_rope 47 = .ok (.iload 5, 2) := by decide +kernel
theorem dX11_rope_49 : decode cX11_rope 49 = .ok (.iaload, 1) := by decide +kernel
theorem dX11_rope_50 : decode cX11_rope 50 = .ok (.istore 6, 2) := by decide +kernel
theorem dX11_rope_52 : decode cX11_rope 52 = .ok (.aload_n 0, 1) := by decide +kernel
theorem dX11_rope_53 : decode cX11_rope 53 = .ok (.getfield 55, 3) := by decide +kernel
theorem dX11_rope_56 : decode cX11_rope 56 = .ok (.iload 5, 2) := by decide +kernel
theorem dX11_rope_58 : decode cX11_rope 58 = .ok (.iload 6, 2) := by decide +kernel
theorem dX11_rope_60 : decode cX11_rope 60 = .ok (.iconst 1, 1) := by decide +kernel
theorem dX11_rope_61 : decode cX11_rope 61 = .ok (.iadd, 1) := by decide +kernel
theorem dX11_rope_62 : decode cX11_rope 62 = .ok (.iconst 2, 1) := by decide +kernel
theorem dX11_rope_63 : decode cX11_rope 63 = .ok (.idiv, 1) := by decide +kernel
theorem dX11_rope_64 : decode cX11_rope 64 = .ok (.iastore, 1) := by decide +kernel
theorem dX11_rope_65 : decode cX11_rope 65 = .ok (.aload_n 0, 1) := by decide +kernel
theorem dX11_rope_66 : decode cX11_rope 66 = .ok (.iload_n 1, 1) := by decide +kernel
theorem dX11_rope_67 : decode cX11_rope 67 = .ok (.invokevirtual 366, 3) := by decide +kernel
theorem dX11_rope_70 : decode cX11_rope 70 = .ok (.istore 7, 2) := by decide +kernel
theorem dX11_rope_72 : decode cX11_rope 72 = .ok (.aload_n 0, 1) := by decide +kernel
theorem dX11_rope_73 : decode cX11_rope 73 = .ok (.getfield 55, 3) := by decide +kernel
theorem dX11_rope_76 : decode cX11_rope 76 = .ok (.iload 5, 2) := by decide +kernel
theorem dX11_rope_78 : decode cX11_rope 78 = .ok (.iload 6, 2) := by decide +kernel
theorem dX11_rope_80 : decode cX11_rope 80 = .ok (.iastore, 1) := by decide +kernel
theorem dX11_rope_81 : decode cX11_rope 81 = .ok (.iload 7, 2) := by decide +kernel
theorem dX11_rope_83 : decode cX11_rope 83 = .ok (.iconst (-1), 1) := by decide +kernel
theorem dX11_rope_84 : decode cX11_rope 84 = .ok (.if_icmp .eq 22, 3) := by decide +kernel
theorem dX11_rope_87 : decode cX11_rope 87 = .ok (.iload_n 3, 1) := by decide +kernel
theorem dX11_rope_88 : decode cX11_rope 88 = .ok (.iconst (-1), 1) := by decide +kernel
theorem dX11_rope_89 : decode cX11_rope 89 = .ok (.if_icmp .eq 10, 3) := by decide +kernel
theorem dX11_rope_92 : decode cX11_rope 92 = .ok (.iload 7, 2) := by decide +kernel
theorem dX11_rope_94 : decode cX11_rope 94 = .ok (.iload 4, 2) := by decide +kernel
theorem dX11_rope_96 : decode cX11_rope 96 = .ok (.if_icmp .ge 10, 3) := by decide +kernel
theorem dX11_rope_99 : decode cX11_rope 99 = .ok (.iload 5, 2) := by decide +kernel
theorem dX11_rope_101 : decode cX11_rope 101 = .ok (.istore_n 3, 1) := by decide +kernel
theorem dX11_rope_102 : decode cX11_rope 102 = .ok (.iload 7, 2) := by decide +kernel
theorem dX11_rope_104 : decode cX11_rope 104 = .ok (.istore 4, 2) := by decide +kernel
theorem dX11_rope_106 : decode cX11_rope 106 = .ok (.iinc 5 1, 3) := by decide +kernel
theorem dX11_rope_109 : decode cX11_rope 109 = .ok (.goto (-82), 3) := by decide +kernel
theorem dX11_rope_112 : decode cX11_rope 112 = .ok (.iload_n 3, 1) := by decide +kernel
theorem dX11_rope_113 : decode cX11_rope 113 = .ok (.iconst (-1), 1) := by decide +kernel
theorem dX11_rope_114 : decode cX11_rope 114 = .ok (.if_icmp .eq 7, 3) := by decide +kernel
theorem dX11_rope_117 : decode cX11_rope 117 = .ok (.iload_n 2, 1) := by decide +kernel
theorem dX11_rope_118 : decode cX11_rope 118 = .ok (.ifCond .ne 7, 3) := by decide +kernel
theorem dX11_rope_121 : decode cX11_rope 121 = .ok (.iload_n 3, 1) := by decide +kernel
theorem dX11_rope_122 : decode cX11_rope 122 = .ok (.goto 5, 3) := by decide +kernel
theorem dX11_rope_125 : decode cX11_rope 125 = .ok (.iload 4, 2) := by decide +kernel
theorem dX11_rope_127 : decode cX11_rope 127 = .ok (.ireturn, 1) := by decide +kernel
def X11_rope_L27 (l1 : Int) (l2 : Int) (k112 : Int → Int → Mm → Rs) : Nat → Int → Int → Int → Mm → Rs
  | 0, _, _, _, _ => none
  | n + 1, l3, l4, l5, μ => if 8 ≤ l5 then (k112 l3 l4 μ) else (bd (X11_isCrank l5 μ) fun v10 μ11 => if v10 = 0 then (X11_rope_L27 l1 l2 k112 n l3 l4 (iA l5 1) μ11) else (ldA μ11 86 l5 fun v14 => stA μ11 86 l5 (iD (iA v14 1) 2) fun μ16 => bd (X11_leastNow l1 μ16) fun v18 μ19 => stA μ19 86 l5 v14 fun μ21 => if v18 = (-1) then (X11_rope_L27 l1 l2 k112 n l3 l4 (iA l5 1) μ21) else (if l3 = (-1) then (X11_rope_L27 l1 l2 k112 n l5 v18 (iA l5 1) μ21) else (if l4 ≤ v18 then (X11_rope_L27 l1 l2 k112 n l3 l4 (iA l5 1) μ21) else (X11_rope_L27 l1 l2 k112 n l5 v18 (iA l5 1) μ21)))))
def X11_rope (l1 : Int) (l2 : Int) (μ : Mm) : Rs := bd (X11_isReady l1 μ) fun v1 μ2 => if v1 = 0 then (some ((-1), μ2)) else (bd (X11_in l2 0 1 μ2) fun v5 μ6 => if v5 = 0 then (some ((-1), μ6)) else (X11_rope_L27 l1 l2 (fun v26 v27 μ28 => if v26 = (-1) then (some (v26, μ28)) else (if l2 = 0 then (some (v26, μ28)) else (some (v27, μ28)))) FU (-1) 0 0 μ6))
set_option maxHeartbeats 4000000 in
set_option maxRecDepth 100000 in
theorem kX11_rope_L27 (d : Nat) (hd : 135 ≤ d) {l1 : Int} {l2 : Int} {k112 : Int → Int → Mm → Rs} {r : Int} {μ' : Mm} (hk_112 : ∀ (v3 v4 : Int) (μ1 : Mm), k112 v3 v4 μ1 = some (r, μ') → VV d mX11_rope 112 [none, none, some (vI l2), some (vI v3), some (vI v4), none, none, none] [] μ1 r μ') : ∀ (n : Nat) {l3 l4 l5 : Int} {μ : Mm}, X11_rope_L27 l1 l2 k112 n l3 l4 l5 μ = some (r, μ') → VV d mX11_rope 27 [some (vR 70), some (vI l1), some (vI l2), some (vI l3), some (vI l4), some (vI l5), none, none] [] μ r μ' := by
  intro n
  induction n with
  | zero => intro l3 l4 l5 μ h; rw [X11_rope_L27] at h; cases h
  | succ n ih =>
    intro l3 l4 l5 μ h
    rw [X11_rope_L27] at h
    refine V_iload (q := 29) dX11_rope_27 rfl rfl ?_
    refine V_bipush (q := 31) dX11_rope_29 rfl rfl rfl ?_
    refine V_icmpge (q := 112) (q2 := 34) dX11_rope_31 (by decide) rfl (fun hc9 => ?_) (fun hc9 => ?_)
    · have h := ifT hc9 h
      exact V_weak (hk_112 _ _ _ h) (sb_n (sb_n (sb_s rfl (sb_s rfl (sb_s rfl (sb_n (sb_n (sb_n sb_0))))))))
    · have h := ifF hc9 h
      refine V_aload_n (q := 35) dX11_rope_34 rfl rfl rfl ?_
      refine V_iload (q := 37) dX11_rope_35 rfl rfl ?_
      obtain ⟨v10, μ11, hc12, h⟩ := bd_i h
      refine V_cV1 (q := 40) (v := vI v10) (kX11_isCrank (d - 1) (by omega) hc12) (by omega) mv_X11_284 rfl rfl rfl rfl rfl rfl dX11_rope_37 rfl ?_
      refine V_ifeq (q := 106) (q2 := 43) dX11_rope_40 (by decide) rfl (fun hc13 => ?_) (fun hc13 => ?_)
      · have h := ifT hc13 h
        refine V_iinc (q := 109) dX11_rope_106 rfl (Nat.le_of_ble_eq_true rfl) trivial rfl ?_
        refine V_goto (q := 27) dX11_rope_109 (by decide) ?_
        exact V_weak (ih h) (sb_s rfl (sb_s rfl (sb_s rfl (sb_s rfl (sb_s rfl (sb_s rfl (sb_n (sb_n sb_0))))))))
      · have h := ifF hc13 h
        refine V_aload_n (q := 44) dX11_rope_43 rfl rfl rfl ?_
        refine V_getO (q := 47) (t := 86) fl_X11_55 rfl rfl rfl rfl dX11_rope_44 rfl ?_
        refine V_iload (q := 49) dX11_rope_47 rfl rfl ?_
        obtain ⟨hi15, h⟩ := ldA_i h
        refine V_iaload (q := 50) rfl hi15 dX11_rope_49 rfl ?_
        refine V_istore (q := 52) dX11_rope_50 (Nat.le_of_ble_eq_true rfl) trivial rfl ?_
        refine V_aload_n (q := 53) dX11_rope_52 rfl rfl rfl ?_
        refine V_getO (q := 56) (t := 86) fl_X11_55 rfl rfl rfl rfl dX11_rope_53 rfl ?_
        refine V_iload (q := 58) dX11_rope_56 rfl rfl ?_
        refine V_iload (q := 60) dX11_rope_58 rfl rfl ?_
        refine V_iconst (q := 61) dX11_rope_60 rfl rfl ?_
        refine V_iadd (q := 62) dX11_rope_61 rfl ?_
        refine V_iconst (q := 63) dX11_rope_62 rfl rfl ?_
        refine V_idiv (q := 64) dX11_rope_63 (by decide) rfl ?_
        obtain ⟨hi17, h⟩ := stA_i h
        refine V_iastore (q := 65) rfl hi17 dX11_rope_64 rfl ?_
        refine V_aload_n (q := 66) dX11_rope_65 rfl rfl rfl ?_
        refine V_iload_n (q := 67) dX11_rope_66 rfl rfl rfl ?_
        obtain ⟨v18, μ19, hc20, h⟩ := bd_i h
        refine V_cV1 (q := 70) (v := vI v18) (kX11_leastNow (d - 1) (by omega) hc20) (by omega) mv_X11_366 rfl rfl rfl rfl rfl rfl dX11_rope_67 rfl ?_
        refine V_istore (q := 72) dX11_rope_70 (Nat.le_of_ble_eq_true rfl) trivial rfl ?_
        refine V_aload_n (q := 73) dX11_rope_72 rfl rfl rfl ?_
        refine V_getO (q := 76) (t := 86) fl_X11_55 rfl rfl rfl rfl dX11_rope_73 rfl ?_
        refine V_iload (q := 78) dX11_rope_76 rfl rfl ?_
        refine V_iload (q := 80) dX11_rope_78 rfl rfl ?_
        obtain ⟨hi22, h⟩ := stA_i h
        refine V_iastore (q := 81) rfl hi22 dX11_rope_80 rfl ?_
        refine V_iload (q := 83) dX11_rope_81 rfl rfl ?_
        refine V_iconst (q := 84) dX11_rope_83 rfl rfl ?_
        refine V_icmpeq (q := 106) (q2 := 87) dX11_rope_84 (by decide) rfl (fun hc23 => ?_) (fun hc23 => ?_)
        · have h := ifT hc23 h
          refine V_iinc (q := 109) dX11_rope_106 rfl (Nat.le_of_ble_eq_true rfl) trivial rfl ?_
          refine V_goto (q := 27) dX11_rope_109 (by decide) ?_
          exact V_weak (ih h) (sb_s rfl (sb_s rfl (sb_s rfl (sb_s rfl (sb_s rfl (sb_s rfl (sb_n (sb_n sb_0))))))))
        · have h := ifF hc23 h
          refine V_iload_n (q := 88) dX11_rope_87 rfl rfl rfl ?_
          refine V_iconst (q := 89) dX11_rope_88 rfl rfl ?_
          refine V_icmpeq (q := 99) (q2 := 92) dX11_rope_89 (by decide) rfl (fun hc24 => ?_) (fun hc24 => ?_)
          · have h := ifT hc24 h
            refine V_iload (q := 101) dX11_rope_99 rfl rfl ?_
            refine V_istore_n (q := 102) dX11_rope_101 rfl (Nat.le_of_ble_eq_true rfl) trivial rfl ?_
            refine V_iload (q := 104) dX11_rope_102 rfl rfl ?_
            refine V_istore (q := 106) dX11_rope_104 (Nat.le_of_ble_eq_true rfl) trivial rfl ?_
            refine V_iinc (q := 109) dX11_rope_106 rfl (Nat.le_of_ble_eq_true rfl) trivial rfl ?_
            refine V_goto (q := 27) dX11_rope_109 (by decide) ?_
            exact V_weak (ih h) (sb_s rfl (sb_s rfl (sb_s rfl (sb_s rfl (sb_s rfl (sb_s rfl (sb_n (sb_n sb_0))))))))
          · have h := ifF hc24 h
            refine V_iload (q := 94) dX11_rope_92 rfl rfl ?_
            refine V_iload (q := 96) dX11_rope_94 rfl rfl ?_
            refine V_icmpge (q := 106) (q2 := 99) dX11_rope_96 (by decide) rfl (fun hc25 => ?_) (fun hc25 => ?_)
            · have h := ifT hc25 h
              refine V_iinc (q := 109) dX11_rope_106 rfl (Nat.le_of_ble_eq_true rfl) trivial rfl ?_
              refine V_goto (q := 27) dX11_rope_109 (by decide) ?_
              exact V_weak (ih h) (sb_s rfl (sb_s rfl (sb_s rfl (sb_s rfl (sb_s rfl (sb_s rfl (sb_n (sb_n sb_0))))))))
            · have h := ifF hc25 h
              refine V_iload (q := 101) dX11_rope_99 rfl rfl ?_
              refine V_istore_n (q := 102) dX11_rope_101 rfl (Nat.le_of_ble_eq_true rfl) trivial rfl ?_
              refine V_iload (q := 104) dX11_rope_102 rfl rfl ?_
              refine V_istore (q := 106) dX11_rope_104 (Nat.le_of_ble_eq_true rfl) trivial rfl ?_
              refine V_iinc (q := 109) dX11_rope_106 rfl (Nat.le_of_ble_eq_true rfl) trivial rfl ?_
              refine V_goto (q := 27) dX11_rope_109 (by decide) ?_
              exact V_weak (ih h) (sb_s rfl (sb_s rfl (sb_s rfl (sb_s rfl (sb_s rfl (sb_s rfl (sb_n (sb_n sb_0))))))))
set_option maxHeartbeats 4000000 in
set_option maxRecDepth 100000 in
theorem kX11_rope (d : Nat) (hd : 135 ≤ d) {l1 : Int} {l2 : Int} {μ : Mm} {r : Int} {μ' : Mm} (h : X11_rope l1 l2 μ = some (r, μ')) : CC d mX11_rope [vR 70, vI l1, vI l2] μ r μ' := by
  unfold X11_rope at h
  refine V_enter (by decide) (Nat.le_of_ble_eq_true rfl) ?_
  show VV d mX11_rope 0 [some (vR 70), some (vI l1), some (vI l2), none, none, none, none, none] [] μ r μ'
  refine V_aload_n (q := 1) dX11_rope_0 rfl rfl rfl ?_
  refine V_iload_n (q := 2) dX11_rope_1 rfl rfl rfl ?_
  obtain ⟨v1, μ2, hc3, h⟩ := bd_i h
  refine V_cV1 (q := 5) (v := vI v1) (kX11_isReady (d - 1) (by omega) hc3) (by omega) mv_X11_335 rfl rfl rfl rfl rfl rfl dX11_rope_2 rfl ?_
  refine V_ifeq (q := 17) (q2 := 8) dX11_rope_5 (by decide) rfl (fun hc4 => ?_) (fun hc4 => ?_)
  · have h := ifT hc4 h
    refine V_iconst (q := 18) dX11_rope_17 rfl rfl ?_
    exact V_iret rfl h dX11_rope_18
  · have h := ifF hc4 h
    refine V_iload_n (q := 9) dX11_rope_8 rfl rfl rfl ?_
    refine V_iconst (q := 10) dX11_rope_9 rfl rfl ?_
    refine V_iconst (q := 11) dX11_rope_10 rfl rfl ?_
    obtain ⟨v5, μ6, hc7, h⟩ := bd_i h
    refine V_cS1 (q := 14) (v := vI v5) (kX11_in (d - 1) (by omega) hc7) (by omega) mv_X11_213 rfl rfl rfl rfl dX11_rope_11 rfl ?_
    refine V_ifne (q := 19) (q2 := 17) dX11_rope_14 (by decide) rfl (fun hc8 => ?_) (fun hc8 => ?_)
    · have h := ifF hc8 h
      refine V_iconst (q := 20) dX11_rope_19 rfl rfl ?_
      refine V_istore_n (q := 21) dX11_rope_20 rfl (Nat.le_of_ble_eq_true rfl) trivial rfl ?_
      refine V_iconst (q := 22) dX11_rope_21 rfl rfl ?_
      refine V_istore (q := 24) dX11_rope_22 (Nat.le_of_ble_eq_true rfl) trivial rfl ?_
      refine V_iconst (q := 25) dX11_rope_24 rfl rfl ?_
      refine V_istore (q := 27) dX11_rope_25 (Nat.le_of_ble_eq_true rfl) trivial rfl ?_
      refine V_weak (kX11_rope_L27 d hd (fun v26 v27 μ28 h => ?_) FU h) (sb_s rfl (sb_s rfl (sb_s rfl (sb_s rfl (sb_s rfl (sb_s rfl (sb_n (sb_n sb_0))))))))
      refine V_iload_n (q := 113) dX11_rope_112 rfl rfl rfl ?_
      refine V_iconst (q := 114) dX11_rope_113 rfl rfl ?_
      refine V_icmpeq (q := 121) (q2 := 117) dX11_rope_114 (by decide) rfl (fun hc29 => ?_) (fun hc29 => ?_)
      · have h := ifT hc29 h
        refine V_iload_n (q := 122) dX11_rope_121 rfl rfl rfl ?_
        refine V_goto (q := 127) dX11_rope_122 (by decide) ?_
        exact V_iret rfl h dX11_rope_127
      · have h := ifF hc29 h
        refine V_iload_n (q := 118) dX11_rope_117 rfl rfl rfl ?_
        refine V_ifne (q := 125) (q2 := 121) dX11_rope_118 (by decide) rfl (fun hc30 => ?_) (fun hc30 => ?_)
        · have h := ifF hc30 h
          refine V_iload (q := 127) dX11_rope_125 rfl rfl ?_
          exact V_iret rfl h dX11_rope_127
        · have h := ifT hc30 h
          refine V_iload_n (q := 122) dX11_rope_121 rfl rfl rfl ?_
          refine V_goto (q := 127) dX11_rope_122 (by decide) ?_
          exact V_iret rfl h dX11_rope_127
    · have h := ifT hc8 h
      refine V_iconst (q := 18) dX11_rope_17 rfl rfl ?_
      exact V_iret rfl h dX11_rope_18
