theorem dX2_unit_0 : decode cX2_unit 0 = .ok (.aload_n 0, 1) := dc_42 (byA eNcX2_unit (p := 0) (v := 42) (by decide +kernel))
theorem dX2_unit_1 : decode cX2_unit 1 = .ok (.getfield 9, 3) := dc_180 (byA eNcX2_unit (p := 1) (v := 180) (by decide +kernel)) (byA eNcX2_unit (p := 2) (v := 0) (by decide +kernel)) (byA eNcX2_unit (p := 3) (v := 9) (by decide +kernel)) rfl
theorem dX2_unit_4 : decode cX2_unit 4 = .ok (.invokevirtual 87, 3) := dc_182 (byA eNcX2_unit (p := 4) (v := 182) (by decide +kernel)) (byA eNcX2_unit (p := 5) (v := 0) (by decide +kernel)) (byA eNcX2_unit (p := 6) (v := 87) (by decide +kernel)) rfl
theorem dX2_unit_7 : decode cX2_unit 7 = .ok (.istore_n 2, 1) := dc_61 (byA eNcX2_unit (p := 7) (v := 61) (by decide +kernel))
theorem dX2_unit_8 : decode cX2_unit 8 = .ok (.iload_n 2, 1) := dc_28 (byA eNcX2_unit (p := 8) (v := 28) (by decide +kernel))
theorem dX2_unit_9 : decode cX2_unit 9 = .ok (.bipush 33, 2) := dc_16 (byA eNcX2_unit (p := 9) (v := 16) (by decide +kernel)) (byA eNcX2_unit (p := 10) (v := 33) (by decide +kernel)) (by decide +kernel)
theorem dX2_unit_11 : decode cX2_unit 11 = .ok (.if_icmp .eq 15, 3) := dc_159 (byA eNcX2_unit (p := 11) (v := 159) (by decide +kernel)) (byA eNcX2_unit (p := 12) (v := 0) (by decide +kernel)) (byA eNcX2_unit (p := 13) (v := 15) (by decide +kernel)) (by decide +kernel)
theorem dX2_unit_14 : decode cX2_unit 14 = .ok (.iload_n 2, 1) := dc_28 (byA eNcX2_unit (p := 14) (v := 28) (by decide +kernel))
theorem dX2_unit_15 : decode cX2_unit 15 = .ok (.bipush 40, 2) := dc_16 (byA eNcX2_unit (p := 15) (v := 16) (by decide +kernel)) (byA eNcX2_unit (p := 16) (v := 40) (by decide +kernel)) (by decide +kernel)
theorem dX2_unit_17 : decode cX2_unit 17 = .ok (.if_icmp .eq 9, 3) := dc_159 (byA eNcX2_unit (p := 17) (v := 159) (by decide +kernel)) (byA eNcX2_unit (p := 18) (v := 0) (by decide +kernel)) (byA eNcX2_unit (p := 19) (v := 9) (by decide +kernel)) (by decide +kernel)
theorem dX2_unit_20 : decode cX2_unit 20 = .ok (.aload_n 0, 1) := dc_42 (byA eNcX2_unit (p := 20) (v := 42) (by decide +kernel))
theorem dX2_unit_21 : decode cX2_unit 21 = .ok (.iload_n 1, 1) := dc_27 (byA eNcX2_unit (p := 21) (v := 27) (by decide +kernel))
theorem dX2_unit_22 : decode cX2_unit 22 = .ok (.invokevirtual 102, 3) := dc_182 (byA eNcX2_unit (p := 22) (v := 182) (by decide +kernel)) (byA eNcX2_unit (p := 23) (v := 0) (by decide +kernel)) (byA eNcX2_unit (p := 24) (v := 102) (by decide +kernel)) rfl
theorem dX2_unit_25 : decode cX2_unit 25 = .ok (.ireturn, 1) := dc_172 (byA eNcX2_unit (p := 25) (v := 172) (by decide +kernel))
theorem dX2_unit_26 : decode cX2_unit 26 = .ok (.iload_n 1, 1) := dc_27 (byA eNcX2_unit (p := 26) (v := 27) (by decide +kernel))
theorem dX2_unit_27 : decode cX2_unit 27 = .ok (.bipush 6, 2) := dc_16 (byA eNcX2_unit (p := 27) (v := 16) (by decide +kernel)) (byA eNcX2_unit (p := 28) (v := 6) (by decide +kernel)) (by decide +kernel)
theorem dX2_unit_29 : decode cX2_unit 29 = .ok (.if_icmp .lt 19, 3) := dc_161 (byA eNcX2_unit (p := 29) (v := 161) (by decide +kernel)) (byA eNcX2_unit (p := 30) (v := 0) (by decide +kernel)) (byA eNcX2_unit (p := 31) (v := 19) (by decide +kernel)) (by decide +kernel)
theorem dX2_unit_32 : decode cX2_unit 32 = .ok (.aload_n 0, 1) := dc_42 (byA eNcX2_unit (p := 32) (v := 42) (by decide +kernel))
theorem dX2_unit_33 : decode cX2_unit 33 = .ok (.getfield 9, 3) := dc_180 (byA eNcX2_unit (p := 33) (v := 180) (by decide +kernel)) (byA eNcX2_unit (p := 34) (v := 0) (by decide +kernel)) (byA eNcX2_unit (p := 35) (v := 9) (by decide +kernel)) rfl
theorem dX2_unit_36 : decode cX2_unit 36 = .ok (.aload_n 0, 1) := dc_42 (byA eNcX2_unit (p := 36) (v := 42) (by decide +kernel))
theorem dX2_unit_37 : decode cX2_unit 37 = .ok (.getfield 9, 3) := dc_180 (byA eNcX2_unit (p := 37) (v := 180) (by decide +kernel)) (byA eNcX2_unit (p := 38) (v := 0) (by decide +kernel)) (byA eNcX2_unit (p := 39) (v := 9) (by decide +kernel)) rfl
theorem dX2_unit_40 : decode cX2_unit 40 = .ok (.getfield 90, 3) := dc_180 (byA eNcX2_unit (p := 40) (v := 180) (by decide +kernel)) (byA eNcX2_unit (p := 41) (v := 0) (by decide +kernel)) (byA eNcX2_unit (p := 42) (v := 90) (by decide +kernel)) rfl
theorem dX2_unit_43 : decode cX2_unit 43 = .ok (.invokevirtual 105, 3) := dc_182 (byA eNcX2_unit (p := 43) (v := 182) (by decide +kernel)) (byA eNcX2_unit (p := 44) (v := 0) (by decide +kernel)) (byA eNcX2_unit (p := 45) (v := 105) (by decide +kernel)) rfl
theorem dX2_unit_46 : decode cX2_unit 46 = .ok (.iconst 0, 1) := dc_3 (byA eNcX2_unit (p := 46) (v := 3) (by decide +kernel))
theorem dX2_unit_47 : decode cX2_unit 47 = .ok (.ireturn, 1) := dc_172 (byA eNcX2_unit (p := 47) (v := 172) (by decide +kernel))
theorem dX2_unit_48 : decode cX2_unit 48 = .ok (.aload_n 0, 1) := dc_42 (byA eNcX2_unit (p := 48) (v := 42) (by decide +kernel))
theorem dX2_unit_49 : decode cX2_unit 49 = .ok (.getfield 9, 3) := dc_180 (byA eNcX2_unit (p := 49) (v := 180) (by decide +kernel)) (byA eNcX2_unit (p := 50) (v := 0) (by decide +kernel)) (byA eNcX2_unit (p := 51) (v := 9) (by decide +kernel)) rfl
theorem dX2_unit_52 : decode cX2_unit 52 = .ok (.invokevirtual 108, 3) := dc_182 (byA eNcX2_unit (p := 52) (v := 182) (by decide +kernel)) (byA eNcX2_unit (p := 53) (v := 0) (by decide +kernel)) (byA eNcX2_unit (p := 54) (v := 108) (by decide +kernel)) rfl
theorem dX2_unit_55 : decode cX2_unit 55 = .ok (.iload_n 2, 1) := dc_28 (byA eNcX2_unit (p := 55) (v := 28) (by decide +kernel))
theorem dX2_unit_56 : decode cX2_unit 56 = .ok (.bipush 33, 2) := dc_16 (byA eNcX2_unit (p := 56) (v := 16) (by decide +kernel)) (byA eNcX2_unit (p := 57) (v := 33) (by decide +kernel)) (by decide +kernel)
theorem dX2_unit_58 : decode cX2_unit 58 = .ok (.if_icmp .ne 13, 3) := dc_160 (byA eNcX2_unit (p := 58) (v := 160) (by decide +kernel)) (byA eNcX2_unit (p := 59) (v := 0) (by decide +kernel)) (byA eNcX2_unit (p := 60) (v := 13) (by decide +kernel)) (by decide +kernel)
theorem dX2_unit_61 : decode cX2_unit 61 = .ok (.aload_n 0, 1) := dc_42 (byA eNcX2_unit (p := 61) (v := 42) (by decide +kernel))
theorem dX2_unit_62 : decode cX2_unit 62 = .ok (.iload_n 1, 1) := dc_27 (byA eNcX2_unit (p := 62) (v := 27) (by decide +kernel))
theorem dX2_unit_63 : decode cX2_unit 63 = .ok (.iconst 1, 1) := dc_4 (byA eNcX2_unit (p := 63) (v := 4) (by decide +kernel))
theorem dX2_unit_64 : decode cX2_unit 64 = .ok (.iadd, 1) := dc_96 (byA eNcX2_unit (p := 64) (v := 96) (by decide +kernel))
theorem dX2_unit_65 : decode cX2_unit 65 = .ok (.invokevirtual 111, 3) := dc_182 (byA eNcX2_unit (p := 65) (v := 182) (by decide +kernel)) (byA eNcX2_unit (p := 66) (v := 0) (by decide +kernel)) (byA eNcX2_unit (p := 67) (v := 111) (by decide +kernel)) rfl
theorem dX2_unit_68 : decode cX2_unit 68 = .ok (.goto 10, 3) := dc_167 (byA eNcX2_unit (p := 68) (v := 167) (by decide +kernel)) (byA eNcX2_unit (p := 69) (v := 0) (by decide +kernel)) (byA eNcX2_unit (p := 70) (v := 10) (by decide +kernel)) (by decide +kernel)
theorem dX2_unit_71 : decode cX2_unit 71 = .ok (.aload_n 0, 1) := dc_42 (byA eNcX2_unit (p := 71) (v := 42) (by decide +kernel))
theorem dX2_unit_72 : decode cX2_unit 72 = .ok (.iload_n 1, 1) := dc_27 (byA eNcX2_unit (p := 72) (v := 27) (by decide +kernel))
theorem dX2_unit_73 : decode cX2_unit 73 = .ok (.iconst 1, 1) := dc_4 (byA eNcX2_unit (p := 73) (v := 4) (by decide +kernel))
theorem dX2_unit_74 : decode cX2_unit 74 = .ok (.iadd, 1) := dc_96 (byA eNcX2_unit (p := 74) (v := 96) (by decide +kernel))
theorem dX2_unit_75 : decode cX2_unit 75 = .ok (.invokevirtual 114, 3) := dc_182 (byA eNcX2_unit (p := 75) (v := 182) (by decide +kernel)) (byA eNcX2_unit (p := 76) (v := 0) (by decide +kernel)) (byA eNcX2_unit (p := 77) (v := 114) (by decide +kernel)) rfl
theorem dX2_unit_78 : decode cX2_unit 78 = .ok (.ireturn, 1) := dc_172 (byA eNcX2_unit (p := 78) (v := 172) (by decide +kernel))
def X2_unit_J26 (rec : Int → Mm → Rs) (l1 : Int) (l2 : Int) (μ : Mm) : Rs := if l1 < 6 then (bd (X4_pass μ) fun v6 μ7 => if l2 = 33 then (bd (X2_denied_o rec (iA l1 1) μ7) fun v14 μ15 => rZ v14 μ15) else (bd (X2_enclosed_o rec (iA l1 1) μ7) fun v10 μ11 => rZ v10 μ11)) else (bd (X4_refuseAt (μ 3 1) μ) fun v18 μ19 => some (0, μ19))
def X2_unit : Nat → Int → Mm → Rs
  | 0, _, _ => none
  | n + 1, l1, μ => bd (X4_peek μ) fun v1 μ2 => if v1 = 33 then (X2_unit_J26 (fun w0 μq => X2_unit n w0 μq) l1 v1 μ2) else (if v1 = 40 then (X2_unit_J26 (fun w0 μq => X2_unit n w0 μq) l1 v1 μ2) else (bd (X2_comparison l1 μ2) fun v22 μ23 => rZ v22 μ23))
set_option maxHeartbeats 4000000 in
set_option maxRecDepth 100000 in
theorem kX2_unit_J26 (d : Nat) {d0 : Nat} (hd : d0 + 9 ≤ d) (hb : 144 ≤ d) {rec : Int → Mm → Rs} (hrec : ∀ {q1 : Int} {μ1 : Mm} {r1 : Int} {μ2 : Mm}, rec q1 μ1 = some (r1, μ2) → CC d0 mX2_unit [vR 4, vI q1] μ1 r1 μ2) {l1 : Int} {l2 : Int} {μ : Mm} {r : Int} {μ' : Mm} (h : X2_unit_J26 rec l1 l2 μ = some (r, μ')) : VV d mX2_unit 26 [some (vR 4), some (vI l1), some (vI l2)] [] μ r μ' := by
  unfold X2_unit_J26 at h
  refine V_iload_n (q := 27) dX2_unit_26 rfl rfl rfl ?_
  refine V_bipush (q := 29) dX2_unit_27 rfl rfl rfl ?_
  refine V_icmplt (q := 48) (q2 := 32) dX2_unit_29 (by decide) rfl (fun hc5 => ?_) (fun hc5 => ?_)
  · have h := ifT hc5 h
    refine V_aload_n (q := 49) dX2_unit_48 rfl rfl rfl ?_
    refine V_getC (q := 52) fl_X2_9 rfl rfl rfl dX2_unit_49 rfl ?_
    obtain ⟨v6, μ7, hc8, h⟩ := bd_i h
    refine V_cV0 (q := 55) (kX4_pass (d - 1) (by omega) hc8) (by omega) mv_X2_108 rfl rfl rfl rfl rfl rfl dX2_unit_52 rfl ?_
    refine V_iload_n (q := 56) dX2_unit_55 rfl rfl rfl ?_
    refine V_bipush (q := 58) dX2_unit_56 rfl rfl rfl ?_
    refine V_icmpne (q := 71) (q2 := 61) dX2_unit_58 (by decide) rfl (fun hc9 => ?_) (fun hc9 => ?_)
    · have h := ifF hc9 h
      refine V_aload_n (q := 72) dX2_unit_71 rfl rfl rfl ?_
      refine V_iload_n (q := 73) dX2_unit_72 rfl rfl rfl ?_
      refine V_iconst (q := 74) dX2_unit_73 rfl rfl ?_
      refine V_iadd (q := 75) dX2_unit_74 rfl ?_
      obtain ⟨v10, μ11, hc12, h⟩ := bd_i h
      refine V_cV1 (q := 78) (v := vI v10) (kX2_enclosed (d - 1) (by omega) hrec (by omega) hc12) (by omega) mv_X2_114 rfl rfl rfl rfl rfl rfl dX2_unit_75 rfl ?_
      obtain ⟨hz13, h⟩ := rZ_i h
      exact V_zret rfl hz13 h dX2_unit_78
    · have h := ifT hc9 h
      refine V_aload_n (q := 62) dX2_unit_61 rfl rfl rfl ?_
      refine V_iload_n (q := 63) dX2_unit_62 rfl rfl rfl ?_
      refine V_iconst (q := 64) dX2_unit_63 rfl rfl ?_
      refine V_iadd (q := 65) dX2_unit_64 rfl ?_
      obtain ⟨v14, μ15, hc16, h⟩ := bd_i h
      refine V_cV1 (q := 68) (v := vI v14) (kX2_denied (d - 1) (by omega) hrec (by omega) hc16) (by omega) mv_X2_111 rfl rfl rfl rfl rfl rfl dX2_unit_65 rfl ?_
      refine V_goto (q := 78) dX2_unit_68 (by decide) ?_
      obtain ⟨hz17, h⟩ := rZ_i h
      exact V_zret rfl hz17 h dX2_unit_78
  · have h := ifF hc5 h
    refine V_aload_n (q := 33) dX2_unit_32 rfl rfl rfl ?_
    refine V_getC (q := 36) fl_X2_9 rfl rfl rfl dX2_unit_33 rfl ?_
    refine V_aload_n (q := 37) dX2_unit_36 rfl rfl rfl ?_
    refine V_getC (q := 40) fl_X2_9 rfl rfl rfl dX2_unit_37 rfl ?_
    refine V_getI (q := 43) fl_X2_90 rfl rfl rfl dX2_unit_40 rfl ?_
    obtain ⟨v18, μ19, hc20, h⟩ := bd_i h
    refine V_cV0 (q := 46) (kX4_refuseAt (d - 1) (by omega) hc20) (by omega) mv_X2_105 rfl rfl rfl rfl rfl rfl dX2_unit_43 rfl ?_
    refine V_iconst (q := 47) dX2_unit_46 rfl rfl ?_
    exact V_zret rfl (Or.inl rfl) h dX2_unit_47
set_option maxHeartbeats 4000000 in
set_option maxRecDepth 100000 in
theorem kX2_unit : ∀ (n d : Nat) (hd : 10 * n + 145 ≤ d) {l1 : Int} {μ : Mm} {r : Int} {μ' : Mm} (h : X2_unit n l1 μ = some (r, μ')), CC d mX2_unit [vR 4, vI l1] μ r μ' := by
  intro n
  induction n with
  | zero => intro d hd l1   μ r μ' h; rw [X2_unit] at h; cases h
  | succ n ih =>
    intro d hd l1   μ r μ' h
    have hb : 144 ≤ d := by omega
    obtain ⟨d0, hd0⟩ : ∃ z, z = 10 * n + 145 := ⟨_, rfl⟩
    have hd : d0 + 10 ≤ d := by omega
    have hrec : ∀ {q1 : Int} {μ1 : Mm} {r1 : Int} {μ2 : Mm}, ((fun w0 μq => X2_unit n w0 μq)) q1 μ1 = some (r1, μ2) → CC d0 mX2_unit [vR 4, vI q1] μ1 r1 μ2 := fun h1 => ih d0 (by omega) h1
    rw [X2_unit] at h
    refine V_enter (by decide) (Nat.le_of_ble_eq_true rfl) ?_
    show VV d mX2_unit 0 [some (vR 4), some (vI l1), none] [] μ r μ'
    refine V_aload_n (q := 1) dX2_unit_0 rfl rfl rfl ?_
    refine V_getC (q := 4) fl_X2_9 rfl rfl rfl dX2_unit_1 rfl ?_
    obtain ⟨v1, μ2, hc3, h⟩ := bd_i h
    refine V_cV1 (q := 7) (v := vI v1) (kX4_peek (d - 1) (by omega) hc3) (by omega) mv_X2_87 rfl rfl rfl rfl rfl rfl dX2_unit_4 rfl ?_
    refine V_istore_n (q := 8) dX2_unit_7 rfl (Nat.le_of_ble_eq_true rfl) trivial rfl ?_
    refine V_iload_n (q := 9) dX2_unit_8 rfl rfl rfl ?_
    refine V_bipush (q := 11) dX2_unit_9 rfl rfl rfl ?_
    refine V_icmpeq (q := 26) (q2 := 14) dX2_unit_11 (by decide) rfl (fun hc4 => ?_) (fun hc4 => ?_)
    · have h := ifT hc4 h
      exact V_weak (kX2_unit_J26 d (by omega) hb hrec h) (sb_s rfl (sb_s rfl (sb_s rfl sb_0)))
    · have h := ifF hc4 h
      refine V_iload_n (q := 15) dX2_unit_14 rfl rfl rfl ?_
      refine V_bipush (q := 17) dX2_unit_15 rfl rfl rfl ?_
      refine V_icmpeq (q := 26) (q2 := 20) dX2_unit_17 (by decide) rfl (fun hc21 => ?_) (fun hc21 => ?_)
      · have h := ifT hc21 h
        exact V_weak (kX2_unit_J26 d (by omega) hb hrec h) (sb_s rfl (sb_s rfl (sb_s rfl sb_0)))
      · have h := ifF hc21 h
        refine V_aload_n (q := 21) dX2_unit_20 rfl rfl rfl ?_
        refine V_iload_n (q := 22) dX2_unit_21 rfl rfl rfl ?_
        obtain ⟨v22, μ23, hc24, h⟩ := bd_i h
        refine V_cV1 (q := 25) (v := vI v22) (kX2_comparison (d - 1) (by omega) hc24) (by omega) mv_X2_102 rfl rfl rfl rfl rfl rfl dX2_unit_22 rfl ?_
        obtain ⟨hz25, h⟩ := rZ_i h
        exact V_zret rfl hz25 h dX2_unit_25
theorem kX2_truth_c (d : Nat) (hd : 267 ≤ d) {l1 : Int} {μ : Mm} {r : Int} {μ' : Mm} (h : X2_truth_o (X2_unit RD) l1 μ = some (r, μ')) : CC d mX2_truth [vR 4, vI l1] μ r μ' := kX2_truth (d0 := 10 * RD + 145) d (by unfold RD; omega) (fun h1 => kX2_unit RD _ (Nat.le_refl _) h1) (by omega) h
theorem kX2_condition_c (d : Nat) (hd : 268 ≤ d) {l1 : Int} {μ : Mm} {r : Int} {μ' : Mm} (h : X2_condition_o (X2_unit RD) l1 μ = some (r, μ')) : CC d mX2_condition [vR 4, vI l1] μ r μ' := kX2_condition (d0 := 10 * RD + 145) d (by unfold RD; omega) (fun h1 => kX2_unit RD _ (Nat.le_refl _) h1) (by omega) h
theorem kX2_enclosed_c (d : Nat) (hd : 269 ≤ d) {l1 : Int} {μ : Mm} {r : Int} {μ' : Mm} (h : X2_enclosed_o (X2_unit RD) l1 μ = some (r, μ')) : CC d mX2_enclosed [vR 4, vI l1] μ r μ' := kX2_enclosed (d0 := 10 * RD + 145) d (by unfold RD; omega) (fun h1 => kX2_unit RD _ (Nat.le_refl _) h1) (by omega) h
theorem kX2_denied_c (d : Nat) (hd : 267 ≤ d) {l1 : Int} {μ : Mm} {r : Int} {μ' : Mm} (h : X2_denied_o (X2_unit RD) l1 μ = some (r, μ')) : CC d mX2_denied [vR 4, vI l1] μ r μ' := kX2_denied (d0 := 10 * RD + 145) d (by unfold RD; omega) (fun h1 => kX2_unit RD _ (Nat.le_refl _) h1) (by omega) h
abbrev mX2_worth : Mth := (yX2_worth, cX2_worth, 6, some .int)
set_option maxRecDepth 100000 in
theorem mi_X2_worth : Cond.instanceMethod yX2_worth ∈ tG ∧ Cond.selects yX2_worth.cls yX2_worth yX2_worth ∈ tG ∧ Cond.initialized yX2_worth.cls ∈ tG ∧ Cond.code yX2_worth cX2_worth 6 (some .int) ∈ tG ∧ (yX2_worth.cls ≠ "java/lang/invoke/MethodHandle" ∧ yX2_worth.cls ≠ "java/lang/invoke/VarHandle" ∧ (parseMethodDescriptor yX2_worth.desc).map (fun d => d.parameters.length) = some 0) ∧ 6 ≤ 60 := ⟨(tG_of (tb3 (List.mem_of_getElem? (i := 3) rfl)) (by decide +kernel)), (tG_of (List.mem_of_getElem? (i := 4) (by decide +kernel)) (by decide +kernel)), (tG_of (tb1 (List.mem_of_getElem? (i := 4) rfl)) (by decide +kernel)), (tG_of (tb3 (List.mem_of_getElem? (i := 4) rfl)) (by decide +kernel)), ⟨by decide, by decide, by decide +kernel⟩, by decide⟩
set_option maxRecDepth 100000 in
theorem mv_X2_15 : mV RX2 15 mX2_worth 0 := ⟨(tG_of (tb3 (List.mem_of_getElem? (i := 1) rfl)) (by decide +kernel)), mi_X2_worth⟩
theorem dX2_worth_0 : decode cX2_worth 0 = .ok (.iconst 0, 1) := dc_3 (byA eNcX2_worth (p := 0) (v := 3) (by decide +kernel))
theorem dX2_worth_1 : decode cX2_worth 1 = .ok (.istore_n 1, 1) := dc_60 (byA eNcX2_worth (p := 1) (v := 60) (by decide +kernel))
theorem dX2_worth_2 : decode cX2_worth 2 = .ok (.iconst 0, 1) := dc_3 (byA eNcX2_worth (p := 2) (v := 3) (by decide +kernel))
theorem dX2_worth_3 : decode cX2_worth 3 = .ok (.istore_n 2, 1) := dc_61 (byA eNcX2_worth (p := 3) (v := 61) (by decide +kernel))
theorem dX2_worth_4 : decode cX2_worth 4 = .ok (.iconst 0, 1) := dc_3 (byA eNcX2_worth (p := 4) (v := 3) (by decide +kernel))
theorem dX2_worth_5 : decode cX2_worth 5 = .ok (.istore_n 3, 1) := dc_62 (byA eNcX2_worth (p := 5) (v := 62) (by decide +kernel))
theorem dX2_worth_6 : decode cX2_worth 6 = .ok (.iload_n 3, 1) := dc_29 (byA eNcX2_worth (p := 6) (v := 29) (by decide +kernel))
theorem dX2_worth_7 : decode cX2_worth 7 = .ok (.sipush 160, 3) := dc_17 (byA eNcX2_worth (p := 7) (v := 17) (by decide +kernel)) (byA eNcX2_worth (p := 8) (v := 0) (by decide +kernel)) (byA eNcX2_worth (p := 9) (v := 160) (by decide +kernel)) (by decide +kernel)
theorem dX2_worth_10 : decode cX2_worth 10 = .ok (.if_icmp .ge 89, 3) := dc_162 (byA eNcX2_worth (p := 10) (v := 162) (by decide +kernel)) (byA eNcX2_worth (p := 11) (v := 0) (by decide +kernel)) (byA eNcX2_worth (p := 12) (v := 89) (by decide +kernel)) (by decide +kernel)
theorem dX2_worth_13 : decode cX2_worth 13 = .ok (.aload_n 0, 1) := dc_42 (byA eNcX2_worth (p := 13) (v := 42) (by decide +kernel))
theorem dX2_worth_14 : decode cX2_worth 14 = .ok (.getfield 9, 3) := dc_180 (byA eNcX2_worth (p := 14) (v := 180) (by decide +kernel)) (byA eNcX2_worth (p := 15) (v := 0) (by decide +kernel)) (byA eNcX2_worth (p := 16) (v := 9) (by decide +kernel)) rfl
theorem dX2_worth_17 : decode cX2_worth 17 = .ok (.bipush 121, 2) := dc_16 (byA eNcX2_worth (p := 17) (v := 16) (by decide +kernel)) (byA eNcX2_worth (p := 18) (v := 121) (by decide +kernel)) (by decide +kernel)
theorem dX2_worth_19 : decode cX2_worth 19 = .ok (.invokevirtual 65, 3) := dc_182 (byA eNcX2_worth (p := 19) (v := 182) (by decide +kernel)) (byA eNcX2_worth (p := 20) (v := 0) (by decide +kernel)) (byA eNcX2_worth (p := 21) (v := 65) (by decide +kernel)) rfl
theorem dX2_worth_22 : decode cX2_worth 22 = .ok (.aload_n 0, 1) := dc_42 (byA eNcX2_worth (p := 22) (v := 42) (by decide +kernel))
theorem dX2_worth_23 : decode cX2_worth 23 = .ok (.getfield 9, 3) := dc_180 (byA eNcX2_worth (p := 23) (v := 180) (by decide +kernel)) (byA eNcX2_worth (p := 24) (v := 0) (by decide +kernel)) (byA eNcX2_worth (p := 25) (v := 9) (by decide +kernel)) rfl
theorem dX2_worth_26 : decode cX2_worth 26 = .ok (.bipush 58, 2) := dc_16 (byA eNcX2_worth (p := 26) (v := 16) (by decide +kernel)) (byA eNcX2_worth (p := 27) (v := 58) (by decide +kernel)) (by decide +kernel)
theorem dX2_worth_28 : decode cX2_worth 28 = .ok (.invokevirtual 65, 3) := dc_182 (byA eNcX2_worth (p := 28) (v := 182) (by decide +kernel)) (byA eNcX2_worth (p := 29) (v := 0) (by decide +kernel)) (byA eNcX2_worth (p := 30) (v := 65) (by decide +kernel)) rfl
theorem dX2_worth_31 : decode cX2_worth 31 = .ok (.iconst 1, 1) := dc_4 (byA eNcX2_worth (p := 31) (v := 4) (by decide +kernel))
theorem dX2_worth_32 : decode cX2_worth 32 = .ok (.istore 4, 2) := dc_54 (byA eNcX2_worth (p := 32) (v := 54) (by decide +kernel)) (byA eNcX2_worth (p := 33) (v := 4) (by decide +kernel))
theorem dX2_worth_34 : decode cX2_worth 34 = .ok (.aload_n 0, 1) := dc_42 (byA eNcX2_worth (p := 34) (v := 42) (by decide +kernel))
theorem dX2_worth_35 : decode cX2_worth 35 = .ok (.invokevirtual 69, 3) := dc_182 (byA eNcX2_worth (p := 35) (v := 182) (by decide +kernel)) (byA eNcX2_worth (p := 36) (v := 0) (by decide +kernel)) (byA eNcX2_worth (p := 37) (v := 69) (by decide +kernel)) rfl
theorem dX2_worth_38 : decode cX2_worth 38 = .ok (.ifCond .eq 19, 3) := dc_153 (byA eNcX2_worth (p := 38) (v := 153) (by decide +kernel)) (byA eNcX2_worth (p := 39) (v := 0) (by decide +kernel)) (byA eNcX2_worth (p := 40) (v := 19) (by decide +kernel)) (by decide +kernel)
theorem dX2_worth_41 : decode cX2_worth 41 = .ok (.aload_n 0, 1) := dc_42 (byA eNcX2_worth (p := 41) (v := 42) (by decide +kernel))
theorem dX2_worth_42 : decode cX2_worth 42 = .ok (.iconst 0, 1) := dc_3 (byA eNcX2_worth (p := 42) (v := 3) (by decide +kernel))
theorem dX2_worth_43 : decode cX2_worth 43 = .ok (.invokevirtual 73, 3) := dc_182 (byA eNcX2_worth (p := 43) (v := 182) (by decide +kernel)) (byA eNcX2_worth (p := 44) (v := 0) (by decide +kernel)) (byA eNcX2_worth (p := 45) (v := 73) (by decide +kernel)) rfl
theorem dX2_worth_46 : decode cX2_worth 46 = .ok (.istore 4, 2) := dc_54 (byA eNcX2_worth (p := 46) (v := 54) (by decide +kernel)) (byA eNcX2_worth (p := 47) (v := 4) (by decide +kernel))
theorem dX2_worth_48 : decode cX2_worth 48 = .ok (.aload_n 0, 1) := dc_42 (byA eNcX2_worth (p := 48) (v := 42) (by decide +kernel))
theorem dX2_worth_49 : decode cX2_worth 49 = .ok (.getfield 9, 3) := dc_180 (byA eNcX2_worth (p := 49) (v := 180) (by decide +kernel)) (byA eNcX2_worth (p := 50) (v := 0) (by decide +kernel)) (byA eNcX2_worth (p := 51) (v := 9) (by decide +kernel)) rfl
theorem dX2_worth_52 : decode cX2_worth 52 = .ok (.bipush 63, 2) := dc_16 (byA eNcX2_worth (p := 52) (v := 16) (by decide +kernel)) (byA eNcX2_worth (p := 53) (v := 63) (by decide +kernel)) (by decide +kernel)
theorem dX2_worth_54 : decode cX2_worth 54 = .ok (.invokevirtual 65, 3) := dc_182 (byA eNcX2_worth (p := 54) (v := 182) (by decide +kernel)) (byA eNcX2_worth (p := 55) (v := 0) (by decide +kernel)) (byA eNcX2_worth (p := 56) (v := 65) (by decide +kernel)) rfl
theorem dX2_worth_57 : decode cX2_worth 57 = .ok (.aload_n 0, 1) := dc_42 (byA eNcX2_worth (p := 57) (v := 42) (by decide +kernel))
theorem dX2_worth_58 : decode cX2_worth 58 = .ok (.iconst 0, 1) := dc_3 (byA eNcX2_worth (p := 58) (v := 3) (by decide +kernel))
theorem dX2_worth_59 : decode cX2_worth 59 = .ok (.invokevirtual 77, 3) := dc_182 (byA eNcX2_worth (p := 59) (v := 182) (by decide +kernel)) (byA eNcX2_worth (p := 60) (v := 0) (by decide +kernel)) (byA eNcX2_worth (p := 61) (v := 77) (by decide +kernel)) rfl
theorem dX2_worth_62 : decode cX2_worth 62 = .ok (.istore 5, 2) := dc_54 (byA eNcX2_worth (p := 62) (v := 54) (by decide +kernel)) (byA eNcX2_worth (p := 63) (v := 5) (by decide +kernel))
theorem dX2_worth_64 : decode cX2_worth 64 = .ok (.iload 4, 2) := dc_21 (byA eNcX2_worth (p := 64) (v := 21) (by decide +kernel)) (byA eNcX2_worth (p := 65) (v := 4) (by decide +kernel))
theorem dX2_worth_66 : decode cX2_worth 66 = .ok (.ifCond .eq 12, 3) := dc_153 (byA eNcX2_worth (p := 66) (v := 153) (by decide +kernel)) (byA eNcX2_worth (p := 67) (v := 0) (by decide +kernel)) (byA eNcX2_worth (p := 68) (v := 12) (by decide +kernel)) (by decide +kernel)
theorem dX2_worth_69 : decode cX2_worth 69 = .ok (.iload_n 2, 1) := dc_28 (byA eNcX2_worth (p := 69) (v := 28) (by decide +kernel))
theorem dX2_worth_70 : decode cX2_worth 70 = .ok (.ifCond .ne 8, 3) := dc_154 (byA eNcX2_worth (p := 70) (v := 154) (by decide +kernel)) (byA eNcX2_worth (p := 71) (v := 0) (by decide +kernel)) (byA eNcX2_worth (p := 72) (v := 8) (by decide +kernel)) (by decide +kernel)
theorem dX2_worth_73 : decode cX2_worth 73 = .ok (.iconst 1, 1) := dc_4 (byA eNcX2_worth (p := 73) (v := 4) (by decide +kernel))
theorem dX2_worth_74 : decode cX2_worth 74 = .ok (.istore_n 2, 1) := dc_61 (byA eNcX2_worth (p := 74) (v := 61) (by decide +kernel))
theorem dX2_worth_75 : decode cX2_worth 75 = .ok (.iload 5, 2) := dc_21 (byA eNcX2_worth (p := 75) (v := 21) (by decide +kernel)) (byA eNcX2_worth (p := 76) (v := 5) (by decide +kernel))
theorem dX2_worth_77 : decode cX2_worth 77 = .ok (.istore_n 1, 1) := dc_60 (byA eNcX2_worth (p := 77) (v := 60) (by decide +kernel))
theorem dX2_worth_78 : decode cX2_worth 78 = .ok (.aload_n 0, 1) := dc_42 (byA eNcX2_worth (p := 78) (v := 42) (by decide +kernel))
theorem dX2_worth_79 : decode cX2_worth 79 = .ok (.getfield 9, 3) := dc_180 (byA eNcX2_worth (p := 79) (v := 180) (by decide +kernel)) (byA eNcX2_worth (p := 80) (v := 0) (by decide +kernel)) (byA eNcX2_worth (p := 81) (v := 9) (by decide +kernel)) rfl
theorem dX2_worth_82 : decode cX2_worth 82 = .ok (.bipush 59, 2) := dc_16 (byA eNcX2_worth (p := 82) (v := 16) (by decide +kernel)) (byA eNcX2_worth (p := 83) (v := 59) (by decide +kernel)) (by decide +kernel)
theorem dX2_worth_84 : decode cX2_worth 84 = .ok (.invokevirtual 81, 3) := dc_182 (byA eNcX2_worth (p := 84) (v := 182) (by decide +kernel)) (byA eNcX2_worth (p := 85) (v := 0) (by decide +kernel)) (byA eNcX2_worth (p := 86) (v := 81) (by decide +kernel)) rfl
theorem dX2_worth_87 : decode cX2_worth 87 = .ok (.ifCond .ne 6, 3) := dc_154 (byA eNcX2_worth (p := 87) (v := 154) (by decide +kernel)) (byA eNcX2_worth (p := 88) (v := 0) (by decide +kernel)) (byA eNcX2_worth (p := 89) (v := 6) (by decide +kernel)) (by decide +kernel)
theorem dX2_worth_90 : decode cX2_worth 90 = .ok (.goto 9, 3) := dc_167 (byA eNcX2_worth (p := 90) (v := 167) (by decide +kernel)) (byA eNcX2_worth (p := 91) (v := 0) (by decide +kernel)) (byA eNcX2_worth (p := 92) (v := 9) (by decide +kernel)) (by decide +kernel)
theorem dX2_worth_93 : decode cX2_worth 93 = .ok (.iinc 3 1, 3) := dc_132 (byA eNcX2_worth (p := 93) (v := 132) (by decide +kernel)) (byA eNcX2_worth (p := 94) (v := 3) (by decide +kernel)) (byA eNcX2_worth (p := 95) (v := 1) (by decide +kernel)) (by decide +kernel)
theorem dX2_worth_96 : decode cX2_worth 96 = .ok (.goto (-90), 3) := dc_167 (byA eNcX2_worth (p := 96) (v := 167) (by decide +kernel)) (byA eNcX2_worth (p := 97) (v := 255) (by decide +kernel)) (byA eNcX2_worth (p := 98) (v := 166) (by decide +kernel)) (by decide +kernel)
theorem dX2_worth_99 : decode cX2_worth 99 = .ok (.aload_n 0, 1) := dc_42 (byA eNcX2_worth (p := 99) (v := 42) (by decide +kernel))
theorem dX2_worth_100 : decode cX2_worth 100 = .ok (.getfield 9, 3) := dc_180 (byA eNcX2_worth (p := 100) (v := 180) (by decide +kernel)) (byA eNcX2_worth (p := 101) (v := 0) (by decide +kernel)) (byA eNcX2_worth (p := 102) (v := 9) (by decide +kernel)) rfl
theorem dX2_worth_103 : decode cX2_worth 103 = .ok (.invokevirtual 84, 3) := dc_182 (byA eNcX2_worth (p := 103) (v := 182) (by decide +kernel)) (byA eNcX2_worth (p := 104) (v := 0) (by decide +kernel)) (byA eNcX2_worth (p := 105) (v := 84) (by decide +kernel)) rfl
theorem dX2_worth_106 : decode cX2_worth 106 = .ok (.iload_n 1, 1) := dc_27 (byA eNcX2_worth (p := 106) (v := 27) (by decide +kernel))
theorem dX2_worth_107 : decode cX2_worth 107 = .ok (.ireturn, 1) := dc_172 (byA eNcX2_worth (p := 107) (v := 172) (by decide +kernel))
def X2_worth_J57 (k6 : Int → Int → Int → Mm → Rs) (k90 : Int → Mm → Rs) (l1 : Int) (l2 : Int) (l3 : Int) (l4 : Int) (μ : Mm) : Rs := bd (X2_sum RD 0 μ) fun v12 μ13 => if l4 = 0 then (bd (X4_take 59 μ13) fun v16 μ17 => if v16 = 0 then (k90 l1 μ17) else (k6 l1 l2 (iA l3 1) μ17)) else (if l2 = 0 then (bd (X4_take 59 μ13) fun v25 μ26 => if v25 = 0 then (k90 v12 μ26) else (k6 v12 1 (iA l3 1) μ26)) else (bd (X4_take 59 μ13) fun v21 μ22 => if v21 = 0 then (k90 l1 μ22) else (k6 l1 l2 (iA l3 1) μ22)))
def X2_worth_L6 (k99 : Int → Mm → Rs) (k90 : Int → Mm → Rs) : Nat → Int → Int → Int → Mm → Rs
  | 0, _, _, _, _ => none
  | n + 1, l1, l2, l3, μ => if 160 ≤ l3 then (k99 l1 μ) else (bd (X4_need 121 μ) fun v2 μ3 => bd (X4_need 58 μ3) fun v5 μ6 => bd (X2_startsCondition μ6) fun v8 μ9 => if v8 = 0 then (X2_worth_J57 (fun w1 w2 w3 μq => X2_worth_L6 k99 k90 n w1 w2 w3 μq) (fun w1 μq => k90 w1 μq) l1 l2 l3 1 μ9) else (bd (X2_condition_o (X2_unit RD) 0 μ9) fun v29 μ30 => bd (X4_need 63 μ30) fun v32 μ33 => X2_worth_J57 (fun w1 w2 w3 μq => X2_worth_L6 k99 k90 n w1 w2 w3 μq) (fun w1 μq => k90 w1 μq) l1 l2 l3 v29 μ33))
def X2_worth (μ : Mm) : Rs := X2_worth_L6 (fun v35 μ36 => bd (X4_needEnd μ36) fun v37 μ38 => some (v35, μ38)) (fun v40 μ41 => bd (X4_needEnd μ41) fun v42 μ43 => some (v40, μ43)) FU 0 0 0 μ
set_option maxHeartbeats 4000000 in
set_option maxRecDepth 100000 in
theorem kX2_worth_J57 (d : Nat) (hd : 269 ≤ d) {k6 : Int → Int → Int → Mm → Rs} {k90 : Int → Mm → Rs} {l1 : Int} {l2 : Int} {l3 : Int} {l4 : Int} {μ : Mm} {r : Int} {μ' : Mm} (hk_6 : ∀ (v1 v2 v3 : Int) (μ1 : Mm), k6 v1 v2 v3 μ1 = some (r, μ') → VV d mX2_worth 6 [some (vR 4), some (vI v1), some (vI v2), some (vI v3), none, none] [] μ1 r μ') (hk_90 : ∀ (v1 : Int) (μ1 : Mm), k90 v1 μ1 = some (r, μ') → VV d mX2_worth 90 [some (vR 4), some (vI v1), none, none, none, none] [] μ1 r μ') (h : X2_worth_J57 k6 k90 l1 l2 l3 l4 μ = some (r, μ')) : VV d mX2_worth 57 [some (vR 4), some (vI l1), some (vI l2), some (vI l3), some (vI l4), none] [] μ r μ' := by
  unfold X2_worth_J57 at h
  refine V_aload_n (q := 58) dX2_worth_57 rfl rfl rfl ?_
  refine V_iconst (q := 59) dX2_worth_58 rfl rfl ?_
  obtain ⟨v12, μ13, hc14, h⟩ := bd_i h
  refine V_cV1 (q := 62) (v := vI v12) (kX2_sum RD (d - 1) (by unfold RD; omega) hc14) (by omega) mv_X2_77 rfl rfl rfl rfl rfl rfl dX2_worth_59 rfl ?_
  refine V_istore (q := 64) dX2_worth_62 (Nat.le_of_ble_eq_true rfl) trivial rfl ?_
  refine V_iload (q := 66) dX2_worth_64 rfl rfl ?_
  refine V_ifeq (q := 78) (q2 := 69) dX2_worth_66 (by decide) rfl (fun hc15 => ?_) (fun hc15 => ?_)
  · have h := ifT hc15 h
    refine V_aload_n (q := 79) dX2_worth_78 rfl rfl rfl ?_
    refine V_getC (q := 82) fl_X2_9 rfl rfl rfl dX2_worth_79 rfl ?_
    refine V_bipush (q := 84) dX2_worth_82 rfl rfl rfl ?_
    obtain ⟨v16, μ17, hc18, h⟩ := bd_i h
    refine V_cV1 (q := 87) (v := vI v16) (kX4_take (d - 1) (by omega) hc18) (by omega) mv_X2_81 rfl rfl rfl rfl rfl rfl dX2_worth_84 rfl ?_
    refine V_ifne (q := 93) (q2 := 90) dX2_worth_87 (by decide) rfl (fun hc19 => ?_) (fun hc19 => ?_)
    · have h := ifF hc19 h
      refine V_iinc (q := 96) dX2_worth_93 rfl (Nat.le_of_ble_eq_true rfl) trivial rfl ?_
      refine V_goto (q := 6) dX2_worth_96 (by decide) ?_
      exact V_weak (hk_6 _ _ _ _ h) (sb_s rfl (sb_s rfl (sb_s rfl (sb_s rfl (sb_n (sb_n sb_0))))))
    · have h := ifT hc19 h
      exact V_weak (hk_90 _ _ h) (sb_s rfl (sb_s rfl (sb_n (sb_n (sb_n (sb_n sb_0))))))
  · have h := ifF hc15 h
    refine V_iload_n (q := 70) dX2_worth_69 rfl rfl rfl ?_
    refine V_ifne (q := 78) (q2 := 73) dX2_worth_70 (by decide) rfl (fun hc20 => ?_) (fun hc20 => ?_)
    · have h := ifF hc20 h
      refine V_aload_n (q := 79) dX2_worth_78 rfl rfl rfl ?_
      refine V_getC (q := 82) fl_X2_9 rfl rfl rfl dX2_worth_79 rfl ?_
      refine V_bipush (q := 84) dX2_worth_82 rfl rfl rfl ?_
      obtain ⟨v21, μ22, hc23, h⟩ := bd_i h
      refine V_cV1 (q := 87) (v := vI v21) (kX4_take (d - 1) (by omega) hc23) (by omega) mv_X2_81 rfl rfl rfl rfl rfl rfl dX2_worth_84 rfl ?_
      refine V_ifne (q := 93) (q2 := 90) dX2_worth_87 (by decide) rfl (fun hc24 => ?_) (fun hc24 => ?_)
      · have h := ifF hc24 h
        refine V_iinc (q := 96) dX2_worth_93 rfl (Nat.le_of_ble_eq_true rfl) trivial rfl ?_
        refine V_goto (q := 6) dX2_worth_96 (by decide) ?_
        exact V_weak (hk_6 _ _ _ _ h) (sb_s rfl (sb_s rfl (sb_s rfl (sb_s rfl (sb_n (sb_n sb_0))))))
      · have h := ifT hc24 h
        exact V_weak (hk_90 _ _ h) (sb_s rfl (sb_s rfl (sb_n (sb_n (sb_n (sb_n sb_0))))))
    · have h := ifT hc20 h
      refine V_iconst (q := 74) dX2_worth_73 rfl rfl ?_
      refine V_istore_n (q := 75) dX2_worth_74 rfl (Nat.le_of_ble_eq_true rfl) trivial rfl ?_
      refine V_iload (q := 77) dX2_worth_75 rfl rfl ?_
      refine V_istore_n (q := 78) dX2_worth_77 rfl (Nat.le_of_ble_eq_true rfl) trivial rfl ?_
      refine V_aload_n (q := 79) dX2_worth_78 rfl rfl rfl ?_
      refine V_getC (q := 82) fl_X2_9 rfl rfl rfl dX2_worth_79 rfl ?_
      refine V_bipush (q := 84) dX2_worth_82 rfl rfl rfl ?_
      obtain ⟨v25, μ26, hc27, h⟩ := bd_i h
      refine V_cV1 (q := 87) (v := vI v25) (kX4_take (d - 1) (by omega) hc27) (by omega) mv_X2_81 rfl rfl rfl rfl rfl rfl dX2_worth_84 rfl ?_
      refine V_ifne (q := 93) (q2 := 90) dX2_worth_87 (by decide) rfl (fun hc28 => ?_) (fun hc28 => ?_)
      · have h := ifF hc28 h
        refine V_iinc (q := 96) dX2_worth_93 rfl (Nat.le_of_ble_eq_true rfl) trivial rfl ?_
        refine V_goto (q := 6) dX2_worth_96 (by decide) ?_
        exact V_weak (hk_6 _ _ _ _ h) (sb_s rfl (sb_s rfl (sb_s rfl (sb_s rfl (sb_n (sb_n sb_0))))))
      · have h := ifT hc28 h
        exact V_weak (hk_90 _ _ h) (sb_s rfl (sb_s rfl (sb_n (sb_n (sb_n (sb_n sb_0))))))
set_option maxHeartbeats 4000000 in
set_option maxRecDepth 100000 in
theorem kX2_worth_L6 (d : Nat) (hd : 269 ≤ d) {k99 : Int → Mm → Rs} {k90 : Int → Mm → Rs} {r : Int} {μ' : Mm} (hk_99 : ∀ (v1 : Int) (μ1 : Mm), k99 v1 μ1 = some (r, μ') → VV d mX2_worth 99 [some (vR 4), some (vI v1), none, none, none, none] [] μ1 r μ') (hk_90 : ∀ (v1 : Int) (μ1 : Mm), k90 v1 μ1 = some (r, μ') → VV d mX2_worth 90 [some (vR 4), some (vI v1), none, none, none, none] [] μ1 r μ') : ∀ (n : Nat) {l1 l2 l3 : Int} {μ : Mm}, X2_worth_L6 k99 k90 n l1 l2 l3 μ = some (r, μ') → VV d mX2_worth 6 [some (vR 4), some (vI l1), some (vI l2), some (vI l3), none, none] [] μ r μ' := by
  intro n
  induction n with
  | zero => intro l1 l2 l3 μ h; rw [X2_worth_L6] at h; cases h
  | succ n ih =>
    intro l1 l2 l3 μ h
    rw [X2_worth_L6] at h
    refine V_iload_n (q := 7) dX2_worth_6 rfl rfl rfl ?_
    refine V_sipush (q := 10) dX2_worth_7 rfl rfl rfl ?_
    refine V_icmpge (q := 99) (q2 := 13) dX2_worth_10 (by decide) rfl (fun hc1 => ?_) (fun hc1 => ?_)
    · have h := ifT hc1 h
      exact V_weak (hk_99 _ _ h) (sb_s rfl (sb_s rfl (sb_n (sb_n (sb_n (sb_n sb_0))))))
    · have h := ifF hc1 h
      refine V_aload_n (q := 14) dX2_worth_13 rfl rfl rfl ?_
      refine V_getC (q := 17) fl_X2_9 rfl rfl rfl dX2_worth_14 rfl ?_
      refine V_bipush (q := 19) dX2_worth_17 rfl rfl rfl ?_
      obtain ⟨v2, μ3, hc4, h⟩ := bd_i h
      refine V_cV0 (q := 22) (kX4_need (d - 1) (by omega) hc4) (by omega) mv_X2_65 rfl rfl rfl rfl rfl rfl dX2_worth_19 rfl ?_
      refine V_aload_n (q := 23) dX2_worth_22 rfl rfl rfl ?_
      refine V_getC (q := 26) fl_X2_9 rfl rfl rfl dX2_worth_23 rfl ?_
      refine V_bipush (q := 28) dX2_worth_26 rfl rfl rfl ?_
      obtain ⟨v5, μ6, hc7, h⟩ := bd_i h
      refine V_cV0 (q := 31) (kX4_need (d - 1) (by omega) hc7) (by omega) mv_X2_65 rfl rfl rfl rfl rfl rfl dX2_worth_28 rfl ?_
      refine V_iconst (q := 32) dX2_worth_31 rfl rfl ?_
      refine V_istore (q := 34) dX2_worth_32 (Nat.le_of_ble_eq_true rfl) trivial rfl ?_
      refine V_aload_n (q := 35) dX2_worth_34 rfl rfl rfl ?_
      obtain ⟨v8, μ9, hc10, h⟩ := bd_i h
      refine V_cV1 (q := 38) (v := vI v8) (kX2_startsCondition (d - 1) (by omega) hc10) (by omega) mv_X2_69 rfl rfl rfl rfl rfl rfl dX2_worth_35 rfl ?_
      refine V_ifeq (q := 57) (q2 := 41) dX2_worth_38 (by decide) rfl (fun hc11 => ?_) (fun hc11 => ?_)
      · have h := ifT hc11 h
        exact V_weak (kX2_worth_J57 d hd (fun _ _ _ _ h => ih h) (fun _ _ h => hk_90 _ _ h) h) (sb_s rfl (sb_s rfl (sb_s rfl (sb_s rfl (sb_s rfl (sb_n sb_0))))))
      · have h := ifF hc11 h
        refine V_aload_n (q := 42) dX2_worth_41 rfl rfl rfl ?_
        refine V_iconst (q := 43) dX2_worth_42 rfl rfl ?_
        obtain ⟨v29, μ30, hc31, h⟩ := bd_i h
        refine V_cV1 (q := 46) (v := vI v29) (kX2_condition_c (d - 1) (by omega) hc31) (by omega) mv_X2_73 rfl rfl rfl rfl rfl rfl dX2_worth_43 rfl ?_
        refine V_istore (q := 48) dX2_worth_46 (Nat.le_of_ble_eq_true rfl) trivial rfl ?_
        refine V_aload_n (q := 49) dX2_worth_48 rfl rfl rfl ?_
        refine V_getC (q := 52) fl_X2_9 rfl rfl rfl dX2_worth_49 rfl ?_
        refine V_bipush (q := 54) dX2_worth_52 rfl rfl rfl ?_
        obtain ⟨v32, μ33, hc34, h⟩ := bd_i h
        refine V_cV0 (q := 57) (kX4_need (d - 1) (by omega) hc34) (by omega) mv_X2_65 rfl rfl rfl rfl rfl rfl dX2_worth_54 rfl ?_
        exact V_weak (kX2_worth_J57 d hd (fun _ _ _ _ h => ih h) (fun _ _ h => hk_90 _ _ h) h) (sb_s rfl (sb_s rfl (sb_s rfl (sb_s rfl (sb_s rfl (sb_n sb_0))))))
set_option maxHeartbeats 4000000 in
set_option maxRecDepth 100000 in
theorem kX2_worth (d : Nat) (hd : 269 ≤ d) {μ : Mm} {r : Int} {μ' : Mm} (h : X2_worth μ = some (r, μ')) : CC d mX2_worth [vR 4] μ r μ' := by
  unfold X2_worth at h
  refine V_enter (by decide) (Nat.le_of_ble_eq_true rfl) ?_
  show VV d mX2_worth 0 [some (vR 4), none, none, none, none, none] [] μ r μ'
  refine V_iconst (q := 1) dX2_worth_0 rfl rfl ?_
  refine V_istore_n (q := 2) dX2_worth_1 rfl (Nat.le_of_ble_eq_true rfl) trivial rfl ?_
  refine V_iconst (q := 3) dX2_worth_2 rfl rfl ?_
  refine V_istore_n (q := 4) dX2_worth_3 rfl (Nat.le_of_ble_eq_true rfl) trivial rfl ?_
  refine V_iconst (q := 5) dX2_worth_4 rfl rfl ?_
  refine V_istore_n (q := 6) dX2_worth_5 rfl (Nat.le_of_ble_eq_true rfl) trivial rfl ?_
  refine V_weak (kX2_worth_L6 d hd (fun v35 μ36 h => ?_) (fun v40 μ41 h => ?_) FU h) (sb_s rfl (sb_s rfl (sb_s rfl (sb_s rfl (sb_n (sb_n sb_0))))))
  · refine V_aload_n (q := 100) dX2_worth_99 rfl rfl rfl ?_
    refine V_getC (q := 103) fl_X2_9 rfl rfl rfl dX2_worth_100 rfl ?_
    obtain ⟨v37, μ38, hc39, h⟩ := bd_i h
    refine V_cV0 (q := 106) (kX4_needEnd (d - 1) (by omega) hc39) (by omega) mv_X2_84 rfl rfl rfl rfl rfl rfl dX2_worth_103 rfl ?_
    refine V_iload_n (q := 107) dX2_worth_106 rfl rfl rfl ?_
    exact V_iret rfl h dX2_worth_107
  · refine V_goto (q := 99) dX2_worth_90 (by decide) ?_
    refine V_aload_n (q := 100) dX2_worth_99 rfl rfl rfl ?_
    refine V_getC (q := 103) fl_X2_9 rfl rfl rfl dX2_worth_100 rfl ?_
    obtain ⟨v42, μ43, hc44, h⟩ := bd_i h
    refine V_cV0 (q := 106) (kX4_needEnd (d - 1) (by omega) hc44) (by omega) mv_X2_84 rfl rfl rfl rfl rfl rfl dX2_worth_103 rfl ?_
    refine V_iload_n (q := 107) dX2_worth_106 rfl rfl rfl ?_
    exact V_iret rfl h dX2_worth_107
abbrev mX2_check : Mth := (yX2_check, cX2_check, 1, some .int)
set_option maxRecDepth 100000 in
theorem mi_X2_check : Cond.instanceMethod yX2_check ∈ tG ∧ Cond.selects yX2_check.cls yX2_check yX2_check ∈ tG ∧ Cond.initialized yX2_check.cls ∈ tG ∧ Cond.code yX2_check cX2_check 1 (some .int) ∈ tG ∧ (yX2_check.cls ≠ "java/lang/invoke/MethodHandle" ∧ yX2_check.cls ≠ "java/lang/invoke/VarHandle" ∧ (parseMethodDescriptor yX2_check.desc).map (fun d => d.parameters.length) = some 0) ∧ 1 ≤ 60 := ⟨(tG_of (tb2 (List.mem_of_getElem? (i := 238) rfl)) (by decide +kernel)), (tG_of (tb2 (List.mem_of_getElem? (i := 239) rfl)) (by decide +kernel)), (tG_of (tb1 (List.mem_of_getElem? (i := 4) rfl)) (by decide +kernel)), (tG_of (tb3 (List.mem_of_getElem? (i := 0) rfl)) (by decide +kernel)), ⟨by decide, by decide, by decide +kernel⟩, by decide⟩
set_option maxRecDepth 100000 in
theorem mv_X10_147 : mV RX10 147 mX2_check 0 := ⟨(tG_of (tb2 (List.mem_of_getElem? (i := 237) rfl)) (by decide +kernel)), mi_X2_check⟩
theorem dX2_check_0 : decode cX2_check 0 = .ok (.aload_n 0, 1) := dc_42 (byA eNcX2_check (p := 0) (v := 42) (by decide +kernel))
theorem dX2_check_1 : decode cX2_check 1 = .ok (.invokevirtual 15, 3) := dc_182 (byA eNcX2_check (p := 1) (v := 182) (by decide +kernel)) (byA eNcX2_check (p := 2) (v := 0) (by decide +kernel)) (byA eNcX2_check (p := 3) (v := 15) (by decide +kernel)) rfl
theorem dX2_check_4 : decode cX2_check 4 = .ok (.pop, 1) := dc_87 (byA eNcX2_check (p := 4) (v := 87) (by decide +kernel))
theorem dX2_check_5 : decode cX2_check 5 = .ok (.aload_n 0, 1) := dc_42 (byA eNcX2_check (p := 5) (v := 42) (by decide +kernel))
theorem dX2_check_6 : decode cX2_check 6 = .ok (.getfield 9, 3) := dc_180 (byA eNcX2_check (p := 6) (v := 180) (by decide +kernel)) (byA eNcX2_check (p := 7) (v := 0) (by decide +kernel)) (byA eNcX2_check (p := 8) (v := 9) (by decide +kernel)) rfl
theorem dX2_check_9 : decode cX2_check 9 = .ok (.getfield 19, 3) := dc_180 (byA eNcX2_check (p := 9) (v := 180) (by decide +kernel)) (byA eNcX2_check (p := 10) (v := 0) (by decide +kernel)) (byA eNcX2_check (p := 11) (v := 19) (by decide +kernel)) rfl
theorem dX2_check_12 : decode cX2_check 12 = .ok (.ireturn, 1) := dc_172 (byA eNcX2_check (p := 12) (v := 172) (by decide +kernel))
def X2_check (μ : Mm) : Rs := bd (X2_worth μ) fun v1 μ2 => some (μ2 3 2, μ2)
set_option maxHeartbeats 4000000 in
set_option maxRecDepth 100000 in
theorem kX2_check (d : Nat) (hd : 270 ≤ d) {μ : Mm} {r : Int} {μ' : Mm} (h : X2_check μ = some (r, μ')) : CC d mX2_check [vR 4] μ r μ' := by
  unfold X2_check at h
  refine V_enter (by decide) (Nat.le_of_ble_eq_true rfl) ?_
  show VV d mX2_check 0 [some (vR 4)] [] μ r μ'
  refine V_aload_n (q := 1) dX2_check_0 rfl rfl rfl ?_
  obtain ⟨v1, μ2, hc3, h⟩ := bd_i h
  refine V_cV1 (q := 4) (v := vI v1) (kX2_worth (d - 1) (by omega) hc3) (by omega) mv_X2_15 rfl rfl rfl rfl rfl rfl dX2_check_1 rfl ?_
  refine V_pop (q := 5) dX2_check_4 trivial rfl ?_
  refine V_aload_n (q := 6) dX2_check_5 rfl rfl rfl ?_
  refine V_getC (q := 9) fl_X2_9 rfl rfl rfl dX2_check_6 rfl ?_
  refine V_getI (q := 12) fl_X2_19 rfl rfl rfl dX2_check_9 rfl ?_
  exact V_iret rfl h dX2_check_12
abbrev mX4_open : Mth := (yX4_open, cX4_open, 2, none)
set_option maxRecDepth 100000 in
theorem mi_X4_open : Cond.instanceMethod yX4_open ∈ tG ∧ Cond.selects yX4_open.cls yX4_open yX4_open ∈ tG ∧ Cond.initialized yX4_open.cls ∈ tG ∧ Cond.code yX4_open cX4_open 2 (none) ∈ tG ∧ (yX4_open.cls ≠ "java/lang/invoke/MethodHandle" ∧ yX4_open.cls ≠ "java/lang/invoke/VarHandle" ∧ (parseMethodDescriptor yX4_open.desc).map (fun d => d.parameters.length) = some 1) ∧ 2 ≤ 60 := ⟨(tG_of (tb2 (List.mem_of_getElem? (i := 173) rfl)) (by decide +kernel)), (tG_of (tb2 (List.mem_of_getElem? (i := 174) rfl)) (by decide +kernel)), (tG_of (tb1 (List.mem_of_getElem? (i := 3) rfl)) (by decide +kernel)), (tG_of (tb2 (List.mem_of_getElem? (i := 175) rfl)) (by decide +kernel)), ⟨by decide, by decide, by decide +kernel⟩, by decide⟩
set_option maxRecDepth 100000 in
theorem mv_X10_139 : mV RX10 139 mX4_open 1 := ⟨(tG_of (tb2 (List.mem_of_getElem? (i := 172) rfl)) (by decide +kernel)), mi_X4_open⟩
set_option maxRecDepth 100000 in
theorem mv_X2_52 : mV RX2 52 mX4_open 1 := ⟨(tG_of (tb3 (List.mem_of_getElem? (i := 213) rfl)) (by decide +kernel)), mi_X4_open⟩
theorem dX4_open_0 : decode cX4_open 0 = .ok (.aload_n 0, 1) := dc_42 (byA eNcX4_open (p := 0) (v := 42) (by decide +kernel))
theorem dX4_open_1 : decode cX4_open 1 = .ok (.aload_n 1, 1) := dc_43 (byA eNcX4_open (p := 1) (v := 43) (by decide +kernel))
theorem dX4_open_2 : decode cX4_open 2 = .ok (.putfield 9, 3) := dc_181 (byA eNcX4_open (p := 2) (v := 181) (by decide +kernel)) (byA eNcX4_open (p := 3) (v := 0) (by decide +kernel)) (byA eNcX4_open (p := 4) (v := 9) (by decide +kernel)) rfl
theorem dX4_open_5 : decode cX4_open 5 = .ok (.aload_n 0, 1) := dc_42 (byA eNcX4_open (p := 5) (v := 42) (by decide +kernel))
theorem dX4_open_6 : decode cX4_open 6 = .ok (.iconst 0, 1) := dc_3 (byA eNcX4_open (p := 6) (v := 3) (by decide +kernel))
theorem dX4_open_7 : decode cX4_open 7 = .ok (.putfield 19, 3) := dc_181 (byA eNcX4_open (p := 7) (v := 181) (by decide +kernel)) (byA eNcX4_open (p := 8) (v := 0) (by decide +kernel)) (byA eNcX4_open (p := 9) (v := 19) (by decide +kernel)) rfl
theorem dX4_open_10 : decode cX4_open 10 = .ok (.aload_n 0, 1) := dc_42 (byA eNcX4_open (p := 10) (v := 42) (by decide +kernel))
theorem dX4_open_11 : decode cX4_open 11 = .ok (.iconst (-1), 1) := dc_2 (byA eNcX4_open (p := 11) (v := 2) (by decide +kernel))
theorem dX4_open_12 : decode cX4_open 12 = .ok (.putfield 15, 3) := dc_181 (byA eNcX4_open (p := 12) (v := 181) (by decide +kernel)) (byA eNcX4_open (p := 13) (v := 0) (by decide +kernel)) (byA eNcX4_open (p := 14) (v := 15) (by decide +kernel)) rfl
theorem dX4_open_15 : decode cX4_open 15 = .ok (.return_, 1) := dc_177 (byA eNcX4_open (p := 15) (v := 177) (by decide +kernel))
def X4_open (l1 : Nat) (μ : Mm) : Rs := sF μ 3 0 ((l1 : Nat) : Int) fun μ1 => sF μ1 3 1 0 fun μ2 => sF μ2 3 2 (-1) fun μ3 => some (0, μ3)
set_option maxHeartbeats 4000000 in
set_option maxRecDepth 100000 in
theorem kX4_open (d : Nat) (hd : 1 ≤ d) {l1 : Nat} (hk1 : kD l1 = (17, 2)) {μ : Mm} {r : Int} {μ' : Mm} (h : X4_open l1 μ = some (r, μ')) : CC d mX4_open [vR 3, vR l1] μ r μ' := by
  unfold X4_open at h
  refine V_enter (by decide) (Nat.le_of_ble_eq_true rfl) ?_
  show VV d mX4_open 0 [some (vR 3), some (vR l1)] [] μ r μ'
  refine V_aload_n (q := 1) dX4_open_0 rfl rfl rfl ?_
  refine V_aload_n (q := 2) dX4_open_1 rfl rfl rfl ?_
  have h := sF_i h
  refine V_putM (q := 5) fl_X4_9 rfl rfl rfl (kD_e (hk1 : kD _ = (17, 2)) (by decide)) dX4_open_2 rfl ?_
  refine V_aload_n (q := 6) dX4_open_5 rfl rfl rfl ?_
  refine V_iconst (q := 7) dX4_open_6 rfl rfl ?_
  have h := sF_i h
  refine V_putI (q := 10) fl_X4_19 rfl rfl rfl dX4_open_7 rfl ?_
  refine V_aload_n (q := 11) dX4_open_10 rfl rfl rfl ?_
  refine V_iconst (q := 12) dX4_open_11 rfl rfl ?_
  have h := sF_i h
  refine V_putI (q := 15) fl_X4_15 rfl rfl rfl dX4_open_12 rfl ?_
  exact V_vret rfl h dX4_open_15
abbrev mX2_fillTimes : Mth := (yX2_fillTimes, cX2_fillTimes, 8, none)
set_option maxRecDepth 100000 in
theorem mi_X2_fillTimes : Cond.instanceMethod yX2_fillTimes ∈ tG ∧ Cond.selects yX2_fillTimes.cls yX2_fillTimes yX2_fillTimes ∈ tG ∧ Cond.initialized yX2_fillTimes.cls ∈ tG ∧ Cond.code yX2_fillTimes cX2_fillTimes 8 (none) ∈ tG ∧ (yX2_fillTimes.cls ≠ "java/lang/invoke/MethodHandle" ∧ yX2_fillTimes.cls ≠ "java/lang/invoke/VarHandle" ∧ (parseMethodDescriptor yX2_fillTimes.desc).map (fun d => d.parameters.length) = some 4) ∧ 8 ≤ 60 := ⟨(tG_of (tb3 (List.mem_of_getElem? (i := 210) rfl)) (by decide +kernel)), (tG_of (tb3 (List.mem_of_getElem? (i := 211) rfl)) (by decide +kernel)), (tG_of (tb1 (List.mem_of_getElem? (i := 4) rfl)) (by decide +kernel)), (tG_of (tb3 (List.mem_of_getElem? (i := 212) rfl)) (by decide +kernel)), ⟨by decide, by decide, by decide +kernel⟩, by decide⟩
set_option maxRecDepth 100000 in
theorem mv_X10_239 : mV RX10 239 mX2_fillTimes 4 := ⟨(tG_of (tb3 (List.mem_of_getElem? (i := 209) rfl)) (by decide +kernel)), mi_X2_fillTimes⟩
theorem dX2_fillTimes_0 : decode cX2_fillTimes 0 = .ok (.iconst 0, 1) := dc_3 (byA eNcX2_fillTimes (p := 0) (v := 3) (by decide +kernel))
theorem dX2_fillTimes_1 : decode cX2_fillTimes 1 = .ok (.istore 5, 2) := dc_54 (byA eNcX2_fillTimes (p := 1) (v := 54) (by decide +kernel)) (byA eNcX2_fillTimes (p := 2) (v := 5) (by decide +kernel))
theorem dX2_fillTimes_3 : decode cX2_fillTimes 3 = .ok (.aload_n 0, 1) := dc_42 (byA eNcX2_fillTimes (p := 3) (v := 42) (by decide +kernel))
theorem dX2_fillTimes_4 : decode cX2_fillTimes 4 = .ok (.iload_n 3, 1) := dc_29 (byA eNcX2_fillTimes (p := 4) (v := 29) (by decide +kernel))
theorem dX2_fillTimes_5 : decode cX2_fillTimes 5 = .ok (.putfield 25, 3) := dc_181 (byA eNcX2_fillTimes (p := 5) (v := 181) (by decide +kernel)) (byA eNcX2_fillTimes (p := 6) (v := 0) (by decide +kernel)) (byA eNcX2_fillTimes (p := 7) (v := 25) (by decide +kernel)) rfl
theorem dX2_fillTimes_8 : decode cX2_fillTimes 8 = .ok (.aload_n 0, 1) := dc_42 (byA eNcX2_fillTimes (p := 8) (v := 42) (by decide +kernel))
theorem dX2_fillTimes_9 : decode cX2_fillTimes 9 = .ok (.aload_n 1, 1) := dc_43 (byA eNcX2_fillTimes (p := 9) (v := 43) (by decide +kernel))
theorem dX2_fillTimes_10 : decode cX2_fillTimes 10 = .ok (.getfield 28, 3) := dc_180 (byA eNcX2_fillTimes (p := 10) (v := 180) (by decide +kernel)) (byA eNcX2_fillTimes (p := 11) (v := 0) (by decide +kernel)) (byA eNcX2_fillTimes (p := 12) (v := 28) (by decide +kernel)) rfl
theorem dX2_fillTimes_13 : decode cX2_fillTimes 13 = .ok (.putfield 33, 3) := dc_181 (byA eNcX2_fillTimes (p := 13) (v := 181) (by decide +kernel)) (byA eNcX2_fillTimes (p := 14) (v := 0) (by decide +kernel)) (byA eNcX2_fillTimes (p := 15) (v := 33) (by decide +kernel)) rfl
theorem dX2_fillTimes_16 : decode cX2_fillTimes 16 = .ok (.iconst 0, 1) := dc_3 (byA eNcX2_fillTimes (p := 16) (v := 3) (by decide +kernel))
theorem dX2_fillTimes_17 : decode cX2_fillTimes 17 = .ok (.istore 6, 2) := dc_54 (byA eNcX2_fillTimes (p := 17) (v := 54) (by decide +kernel)) (byA eNcX2_fillTimes (p := 18) (v := 6) (by decide +kernel))
theorem dX2_fillTimes_19 : decode cX2_fillTimes 19 = .ok (.iload 6, 2) := dc_21 (byA eNcX2_fillTimes (p := 19) (v := 21) (by decide +kernel)) (byA eNcX2_fillTimes (p := 20) (v := 6) (by decide +kernel))
theorem dX2_fillTimes_21 : decode cX2_fillTimes 21 = .ok (.aload_n 1, 1) := dc_43 (byA eNcX2_fillTimes (p := 21) (v := 43) (by decide +kernel))
theorem dX2_fillTimes_22 : decode cX2_fillTimes 22 = .ok (.getfield 28, 3) := dc_180 (byA eNcX2_fillTimes (p := 22) (v := 180) (by decide +kernel)) (byA eNcX2_fillTimes (p := 23) (v := 0) (by decide +kernel)) (byA eNcX2_fillTimes (p := 24) (v := 28) (by decide +kernel)) rfl
theorem dX2_fillTimes_25 : decode cX2_fillTimes 25 = .ok (.if_icmp .ge 98, 3) := dc_162 (byA eNcX2_fillTimes (p := 25) (v := 162) (by decide +kernel)) (byA eNcX2_fillTimes (p := 26) (v := 0) (by decide +kernel)) (byA eNcX2_fillTimes (p := 27) (v := 98) (by decide +kernel)) (by decide +kernel)
theorem dX2_fillTimes_28 : decode cX2_fillTimes 28 = .ok (.iload 6, 2) := dc_21 (byA eNcX2_fillTimes (p := 28) (v := 21) (by decide +kernel)) (byA eNcX2_fillTimes (p := 29) (v := 6) (by decide +kernel))
theorem dX2_fillTimes_30 : decode cX2_fillTimes 30 = .ok (.aload 4, 2) := dc_25 (byA eNcX2_fillTimes (p := 30) (v := 25) (by decide +kernel)) (byA eNcX2_fillTimes (p := 31) (v := 4) (by decide +kernel))
theorem dX2_fillTimes_32 : decode cX2_fillTimes 32 = .ok (.arraylength, 1) := dc_190 (byA eNcX2_fillTimes (p := 32) (v := 190) (by decide +kernel))
theorem dX2_fillTimes_33 : decode cX2_fillTimes 33 = .ok (.if_icmp .ge 90, 3) := dc_162 (byA eNcX2_fillTimes (p := 33) (v := 162) (by decide +kernel)) (byA eNcX2_fillTimes (p := 34) (v := 0) (by decide +kernel)) (byA eNcX2_fillTimes (p := 35) (v := 90) (by decide +kernel)) (by decide +kernel)
theorem dX2_fillTimes_36 : decode cX2_fillTimes 36 = .ok (.aload_n 0, 1) := dc_42 (byA eNcX2_fillTimes (p := 36) (v := 42) (by decide +kernel))
theorem dX2_fillTimes_37 : decode cX2_fillTimes 37 = .ok (.aload_n 1, 1) := dc_43 (byA eNcX2_fillTimes (p := 37) (v := 43) (by decide +kernel))
theorem dX2_fillTimes_38 : decode cX2_fillTimes 38 = .ok (.getfield 36, 3) := dc_180 (byA eNcX2_fillTimes (p := 38) (v := 180) (by decide +kernel)) (byA eNcX2_fillTimes (p := 39) (v := 0) (by decide +kernel)) (byA eNcX2_fillTimes (p := 40) (v := 36) (by decide +kernel)) rfl
theorem dX2_fillTimes_41 : decode cX2_fillTimes 41 = .ok (.iload 6, 2) := dc_21 (byA eNcX2_fillTimes (p := 41) (v := 21) (by decide +kernel)) (byA eNcX2_fillTimes (p := 42) (v := 6) (by decide +kernel))
theorem dX2_fillTimes_43 : decode cX2_fillTimes 43 = .ok (.iaload, 1) := dc_46 (byA eNcX2_fillTimes (p := 43) (v := 46) (by decide +kernel))
theorem dX2_fillTimes_44 : decode cX2_fillTimes 44 = .ok (.putfield 40, 3) := dc_181 (byA eNcX2_fillTimes (p := 44) (v := 181) (by decide +kernel)) (byA eNcX2_fillTimes (p := 45) (v := 0) (by decide +kernel)) (byA eNcX2_fillTimes (p := 46) (v := 40) (by decide +kernel)) rfl
theorem dX2_fillTimes_47 : decode cX2_fillTimes 47 = .ok (.aload_n 0, 1) := dc_42 (byA eNcX2_fillTimes (p := 47) (v := 42) (by decide +kernel))
theorem dX2_fillTimes_48 : decode cX2_fillTimes 48 = .ok (.iload 6, 2) := dc_21 (byA eNcX2_fillTimes (p := 48) (v := 21) (by decide +kernel)) (byA eNcX2_fillTimes (p := 49) (v := 6) (by decide +kernel))
theorem dX2_fillTimes_50 : decode cX2_fillTimes 50 = .ok (.putfield 43, 3) := dc_181 (byA eNcX2_fillTimes (p := 50) (v := 181) (by decide +kernel)) (byA eNcX2_fillTimes (p := 51) (v := 0) (by decide +kernel)) (byA eNcX2_fillTimes (p := 52) (v := 43) (by decide +kernel)) rfl
theorem dX2_fillTimes_53 : decode cX2_fillTimes 53 = .ok (.aload_n 0, 1) := dc_42 (byA eNcX2_fillTimes (p := 53) (v := 42) (by decide +kernel))
theorem dX2_fillTimes_54 : decode cX2_fillTimes 54 = .ok (.aload_n 1, 1) := dc_43 (byA eNcX2_fillTimes (p := 54) (v := 43) (by decide +kernel))
theorem dX2_fillTimes_55 : decode cX2_fillTimes 55 = .ok (.getfield 46, 3) := dc_180 (byA eNcX2_fillTimes (p := 55) (v := 180) (by decide +kernel)) (byA eNcX2_fillTimes (p := 56) (v := 0) (by decide +kernel)) (byA eNcX2_fillTimes (p := 57) (v := 46) (by decide +kernel)) rfl
theorem dX2_fillTimes_58 : decode cX2_fillTimes 58 = .ok (.iload 6, 2) := dc_21 (byA eNcX2_fillTimes (p := 58) (v := 21) (by decide +kernel)) (byA eNcX2_fillTimes (p := 59) (v := 6) (by decide +kernel))
theorem dX2_fillTimes_60 : decode cX2_fillTimes 60 = .ok (.iaload, 1) := dc_46 (byA eNcX2_fillTimes (p := 60) (v := 46) (by decide +kernel))
theorem dX2_fillTimes_61 : decode cX2_fillTimes 61 = .ok (.putfield 49, 3) := dc_181 (byA eNcX2_fillTimes (p := 61) (v := 181) (by decide +kernel)) (byA eNcX2_fillTimes (p := 62) (v := 0) (by decide +kernel)) (byA eNcX2_fillTimes (p := 63) (v := 49) (by decide +kernel)) rfl
theorem dX2_fillTimes_64 : decode cX2_fillTimes 64 = .ok (.aload_n 0, 1) := dc_42 (byA eNcX2_fillTimes (p := 64) (v := 42) (by decide +kernel))
theorem dX2_fillTimes_65 : decode cX2_fillTimes 65 = .ok (.getfield 40, 3) := dc_180 (byA eNcX2_fillTimes (p := 65) (v := 180) (by decide +kernel)) (byA eNcX2_fillTimes (p := 66) (v := 0) (by decide +kernel)) (byA eNcX2_fillTimes (p := 67) (v := 40) (by decide +kernel)) rfl
theorem dX2_fillTimes_68 : decode cX2_fillTimes 68 = .ok (.istore 7, 2) := dc_54 (byA eNcX2_fillTimes (p := 68) (v := 54) (by decide +kernel)) (byA eNcX2_fillTimes (p := 69) (v := 7) (by decide +kernel))
theorem dX2_fillTimes_70 : decode cX2_fillTimes 70 = .ok (.aload_n 2, 1) := dc_44 (byA eNcX2_fillTimes (p := 70) (v := 44) (by decide +kernel))
theorem dX2_fillTimes_71 : decode cX2_fillTimes 71 = .ok (.ifnull 30, 3) := dc_198 (byA eNcX2_fillTimes (p := 71) (v := 198) (by decide +kernel)) (byA eNcX2_fillTimes (p := 72) (v := 0) (by decide +kernel)) (byA eNcX2_fillTimes (p := 73) (v := 30) (by decide +kernel)) (by decide +kernel)
theorem dX2_fillTimes_74 : decode cX2_fillTimes 74 = .ok (.aload_n 0, 1) := dc_42 (byA eNcX2_fillTimes (p := 74) (v := 42) (by decide +kernel))
theorem dX2_fillTimes_75 : decode cX2_fillTimes 75 = .ok (.getfield 9, 3) := dc_180 (byA eNcX2_fillTimes (p := 75) (v := 180) (by decide +kernel)) (byA eNcX2_fillTimes (p := 76) (v := 0) (by decide +kernel)) (byA eNcX2_fillTimes (p := 77) (v := 9) (by decide +kernel)) rfl
theorem dX2_fillTimes_78 : decode cX2_fillTimes 78 = .ok (.aload_n 2, 1) := dc_44 (byA eNcX2_fillTimes (p := 78) (v := 44) (by decide +kernel))
theorem dX2_fillTimes_79 : decode cX2_fillTimes 79 = .ok (.invokevirtual 52, 3) := dc_182 (byA eNcX2_fillTimes (p := 79) (v := 182) (by decide +kernel)) (byA eNcX2_fillTimes (p := 80) (v := 0) (by decide +kernel)) (byA eNcX2_fillTimes (p := 81) (v := 52) (by decide +kernel)) rfl
theorem dX2_fillTimes_82 : decode cX2_fillTimes 82 = .ok (.iload 7, 2) := dc_21 (byA eNcX2_fillTimes (p := 82) (v := 21) (by decide +kernel)) (byA eNcX2_fillTimes (p := 83) (v := 7) (by decide +kernel))
theorem dX2_fillTimes_84 : decode cX2_fillTimes 84 = .ok (.bipush (-99), 2) := dc_16 (byA eNcX2_fillTimes (p := 84) (v := 16) (by decide +kernel)) (byA eNcX2_fillTimes (p := 85) (v := 157) (by decide +kernel)) (by decide +kernel)
theorem dX2_fillTimes_86 : decode cX2_fillTimes 86 = .ok (.bipush 99, 2) := dc_16 (byA eNcX2_fillTimes (p := 86) (v := 16) (by decide +kernel)) (byA eNcX2_fillTimes (p := 87) (v := 99) (by decide +kernel)) (by decide +kernel)
theorem dX2_fillTimes_88 : decode cX2_fillTimes 88 = .ok (.aload_n 0, 1) := dc_42 (byA eNcX2_fillTimes (p := 88) (v := 42) (by decide +kernel))
theorem dX2_fillTimes_89 : decode cX2_fillTimes 89 = .ok (.invokevirtual 15, 3) := dc_182 (byA eNcX2_fillTimes (p := 89) (v := 182) (by decide +kernel)) (byA eNcX2_fillTimes (p := 90) (v := 0) (by decide +kernel)) (byA eNcX2_fillTimes (p := 91) (v := 15) (by decide +kernel)) rfl
theorem dX2_fillTimes_92 : decode cX2_fillTimes 92 = .ok (.invokestatic 56, 3) := dc_184 (byA eNcX2_fillTimes (p := 92) (v := 184) (by decide +kernel)) (byA eNcX2_fillTimes (p := 93) (v := 0) (by decide +kernel)) (byA eNcX2_fillTimes (p := 94) (v := 56) (by decide +kernel)) rfl
theorem dX2_fillTimes_95 : decode cX2_fillTimes 95 = .ok (.invokestatic 62, 3) := dc_184 (byA eNcX2_fillTimes (p := 95) (v := 184) (by decide +kernel)) (byA eNcX2_fillTimes (p := 96) (v := 0) (by decide +kernel)) (byA eNcX2_fillTimes (p := 97) (v := 62) (by decide +kernel)) rfl
theorem dX2_fillTimes_98 : decode cX2_fillTimes 98 = .ok (.iadd, 1) := dc_96 (byA eNcX2_fillTimes (p := 98) (v := 96) (by decide +kernel))
theorem dX2_fillTimes_99 : decode cX2_fillTimes 99 = .ok (.istore 7, 2) := dc_54 (byA eNcX2_fillTimes (p := 99) (v := 54) (by decide +kernel)) (byA eNcX2_fillTimes (p := 100) (v := 7) (by decide +kernel))
theorem dX2_fillTimes_101 : decode cX2_fillTimes 101 = .ok (.iload 5, 2) := dc_21 (byA eNcX2_fillTimes (p := 101) (v := 21) (by decide +kernel)) (byA eNcX2_fillTimes (p := 102) (v := 5) (by decide +kernel))
theorem dX2_fillTimes_103 : decode cX2_fillTimes 103 = .ok (.iload 7, 2) := dc_21 (byA eNcX2_fillTimes (p := 103) (v := 21) (by decide +kernel)) (byA eNcX2_fillTimes (p := 104) (v := 7) (by decide +kernel))
theorem dX2_fillTimes_105 : decode cX2_fillTimes 105 = .ok (.invokestatic 62, 3) := dc_184 (byA eNcX2_fillTimes (p := 105) (v := 184) (by decide +kernel)) (byA eNcX2_fillTimes (p := 106) (v := 0) (by decide +kernel)) (byA eNcX2_fillTimes (p := 107) (v := 62) (by decide +kernel)) rfl
theorem dX2_fillTimes_108 : decode cX2_fillTimes 108 = .ok (.istore 5, 2) := dc_54 (byA eNcX2_fillTimes (p := 108) (v := 54) (by decide +kernel)) (byA eNcX2_fillTimes (p := 109) (v := 5) (by decide +kernel))
theorem dX2_fillTimes_110 : decode cX2_fillTimes 110 = .ok (.aload 4, 2) := dc_25 (byA eNcX2_fillTimes (p := 110) (v := 25) (by decide +kernel)) (byA eNcX2_fillTimes (p := 111) (v := 4) (by decide +kernel))
theorem dX2_fillTimes_112 : decode cX2_fillTimes 112 = .ok (.iload 6, 2) := dc_21 (byA eNcX2_fillTimes (p := 112) (v := 21) (by decide +kernel)) (byA eNcX2_fillTimes (p := 113) (v := 6) (by decide +kernel))
theorem dX2_fillTimes_114 : decode cX2_fillTimes 114 = .ok (.iload 5, 2) := dc_21 (byA eNcX2_fillTimes (p := 114) (v := 21) (by decide +kernel)) (byA eNcX2_fillTimes (p := 115) (v := 5) (by decide +kernel))
theorem dX2_fillTimes_116 : decode cX2_fillTimes 116 = .ok (.iastore, 1) := dc_79 (byA eNcX2_fillTimes (p := 116) (v := 79) (by decide +kernel))
theorem dX2_fillTimes_117 : decode cX2_fillTimes 117 = .ok (.iinc 6 1, 3) := dc_132 (byA eNcX2_fillTimes (p := 117) (v := 132) (by decide +kernel)) (byA eNcX2_fillTimes (p := 118) (v := 6) (by decide +kernel)) (byA eNcX2_fillTimes (p := 119) (v := 1) (by decide +kernel)) (by decide +kernel)
theorem dX2_fillTimes_120 : decode cX2_fillTimes 120 = .ok (.goto (-101), 3) := dc_167 (byA eNcX2_fillTimes (p := 120) (v := 167) (by decide +kernel)) (byA eNcX2_fillTimes (p := 121) (v := 255) (by decide +kernel)) (byA eNcX2_fillTimes (p := 122) (v := 155) (by decide +kernel)) (by decide +kernel)
theorem dX2_fillTimes_123 : decode cX2_fillTimes 123 = .ok (.return_, 1) := dc_177 (byA eNcX2_fillTimes (p := 123) (v := 177) (by decide +kernel))
def X2_fillTimes_J101 (k19 : Int → Int → Mm → Rs) (l1 : Nat) (l2 : Int) (l4 : Nat) (l5 : Int) (l6 : Int) (l7 : Int) (μ : Mm) : Rs := stA μ l4 l6 (mX l5 l7) fun μ13 => k19 (mX l5 l7) (iA l6 1) μ13
def X2_fillTimes_L19 (l1 : Nat) (l2 : Int) (l4 : Nat) : Nat → Int → Int → Mm → Rs
  | 0, _, _, _ => none
  | n + 1, l5, l6, μ => if (μ l1 2) ≤ l6 then (some (0, μ)) else (if ((aN l4 : Nat) : Int) ≤ l6 then (some (0, μ)) else (ldA μ (l1 + 2) l6 fun v5 => sF μ 4 1 v5 fun μ7 => sF μ7 4 2 l6 fun μ8 => ldA μ8 (l1 + 1) l6 fun v9 => sF μ8 4 4 v9 fun μ11 => if l2 = -1 then (X2_fillTimes_J101 (fun w5 w6 μq => X2_fillTimes_L19 l1 l2 l4 n w5 w6 μq) l1 l2 l4 l5 l6 (μ11 4 1) μ11) else (kC l2 (17, 2) fun _ => bd (X4_open (l2.toNat) μ11) fun v16 μ17 => bd (X2_worth μ17) fun v19 μ20 => lt_ (iA (μ11 4 1) (mX (-99) (mN 99 v19))) fun v22 => X2_fillTimes_J101 (fun w5 w6 μq => X2_fillTimes_L19 l1 l2 l4 n w5 w6 μq) l1 l2 l4 l5 l6 v22 μ20)))
def X2_fillTimes (l1 : Nat) (l2 : Int) (l3 : Int) (l4 : Nat) (μ : Mm) : Rs := sF μ 4 3 l3 fun μ1 => sF μ1 4 5 (μ1 l1 2) fun μ2 => X2_fillTimes_L19 l1 l2 l4 FU 0 0 μ2
set_option maxHeartbeats 4000000 in
set_option maxRecDepth 100000 in
theorem kX2_fillTimes_J101 (d : Nat) (hd : 270 ≤ d) {k19 : Int → Int → Mm → Rs} {l1 : Nat} {l2 : Int} {l4 : Nat} {l5 : Int} {l6 : Int} {l7 : Int} (hk1 : kD l1 = (13, 3)) {n4 : Nat} (hk4 : kD l4 = (0, n4)) {μ : Mm} {r : Int} {μ' : Mm} (hk_19 : ∀ (v5 v6 : Int) (μ1 : Mm), k19 v5 v6 μ1 = some (r, μ') → VV d mX2_fillTimes 19 [some (vR 4), some (vR l1), some (vC l2), none, some (vR l4), some (vI v5), some (vI v6), none] [] μ1 r μ') (h : X2_fillTimes_J101 k19 l1 l2 l4 l5 l6 l7 μ = some (r, μ')) : VV d mX2_fillTimes 101 [some (vR 4), some (vR l1), some (vC l2), none, some (vR l4), some (vI l5), some (vI l6), some (vI l7)] [] μ r μ' := by
  unfold X2_fillTimes_J101 at h
  refine V_iload (q := 103) dX2_fillTimes_101 rfl rfl ?_
  refine V_iload (q := 105) dX2_fillTimes_103 rfl rfl ?_
  refine V_mmax (q := 108) mx_X2_62 (by omega) rfl dX2_fillTimes_105 rfl ?_
  refine V_istore (q := 110) dX2_fillTimes_108 (Nat.le_of_ble_eq_true rfl) trivial rfl ?_
  refine V_aload (q := 112) dX2_fillTimes_110 rfl rfl ?_
  refine V_iload (q := 114) dX2_fillTimes_112 rfl rfl ?_
  refine V_iload (q := 116) dX2_fillTimes_114 rfl rfl ?_
  obtain ⟨hi14, h⟩ := stA_i h
  refine V_iastore (q := 117) hk4 hi14 dX2_fillTimes_116 rfl ?_
  refine V_iinc (q := 120) dX2_fillTimes_117 rfl (Nat.le_of_ble_eq_true rfl) trivial rfl ?_
  refine V_goto (q := 19) dX2_fillTimes_120 (by decide) ?_
  exact V_weak (hk_19 _ _ _ h) (sb_s rfl (sb_s rfl (sb_s rfl (sb_n (sb_s rfl (sb_s rfl (sb_s rfl (sb_n sb_0))))))))
set_option maxHeartbeats 4000000 in
set_option maxRecDepth 100000 in
theorem kX2_fillTimes_L19 (d : Nat) (hd : 270 ≤ d) {l1 : Nat} {l2 : Int} {l4 : Nat} (hk1 : kD l1 = (13, 3)) {n4 : Nat} (hk4 : kD l4 = (0, n4)) {r : Int} {μ' : Mm} : ∀ (n : Nat) {l5 l6 : Int} {μ : Mm}, X2_fillTimes_L19 l1 l2 l4 n l5 l6 μ = some (r, μ') → VV d mX2_fillTimes 19 [some (vR 4), some (vR l1), some (vC l2), none, some (vR l4), some (vI l5), some (vI l6), none] [] μ r μ' := by
  intro n
  induction n with
  | zero => intro l5 l6 μ h; rw [X2_fillTimes_L19] at h; cases h
  | succ n ih =>
    intro l5 l6 μ h
    rw [X2_fillTimes_L19] at h
    refine V_iload (q := 21) dX2_fillTimes_19 rfl rfl ?_
    refine V_aload_n (q := 22) dX2_fillTimes_21 rfl rfl rfl ?_
    refine V_getI (q := 25) fl_X2_28 hk1 rfl rfl dX2_fillTimes_22 rfl ?_
    refine V_icmpge (q := 123) (q2 := 28) dX2_fillTimes_25 (by decide) rfl (fun hc3 => ?_) (fun hc3 => ?_)
    · have h := ifT hc3 h
      exact V_vret rfl h dX2_fillTimes_123
    · have h := ifF hc3 h
      refine V_iload (q := 30) dX2_fillTimes_28 rfl rfl ?_
      refine V_aload (q := 32) dX2_fillTimes_30 rfl rfl ?_
      refine V_alen (q := 33) hk4 dX2_fillTimes_32 rfl ?_
      refine V_icmpge (q := 123) (q2 := 36) dX2_fillTimes_33 (by decide) rfl (fun hc4 => ?_) (fun hc4 => ?_)
      · have h := ifT hc4 h
        exact V_vret rfl h dX2_fillTimes_123
      · have h := ifF hc4 h
        refine V_aload_n (q := 37) dX2_fillTimes_36 rfl rfl rfl ?_
        refine V_aload_n (q := 38) dX2_fillTimes_37 rfl rfl rfl ?_
        refine V_getO (q := 41) (t := _) fl_X2_36 hk1 rfl rfl rfl dX2_fillTimes_38 rfl ?_
        refine V_iload (q := 43) dX2_fillTimes_41 rfl rfl ?_
        obtain ⟨hi6, h⟩ := ldA_i h
        refine V_iaload (q := 44) (kdo_3_1 hk1) hi6 dX2_fillTimes_43 rfl ?_
        have h := sF_i h
        refine V_putI (q := 47) fl_X2_40 rfl rfl rfl dX2_fillTimes_44 rfl ?_
        refine V_aload_n (q := 48) dX2_fillTimes_47 rfl rfl rfl ?_
        refine V_iload (q := 50) dX2_fillTimes_48 rfl rfl ?_
        have h := sF_i h
        refine V_putI (q := 53) fl_X2_43 rfl rfl rfl dX2_fillTimes_50 rfl ?_
        refine V_aload_n (q := 54) dX2_fillTimes_53 rfl rfl rfl ?_
        refine V_aload_n (q := 55) dX2_fillTimes_54 rfl rfl rfl ?_
        refine V_getO (q := 58) (t := _) fl_X2_46 hk1 rfl rfl rfl dX2_fillTimes_55 rfl ?_
        refine V_iload (q := 60) dX2_fillTimes_58 rfl rfl ?_
        obtain ⟨hi10, h⟩ := ldA_i h
        refine V_iaload (q := 61) (kdo_3_0 hk1) hi10 dX2_fillTimes_60 rfl ?_
        have h := sF_i h
        refine V_putI (q := 64) fl_X2_49 rfl rfl rfl dX2_fillTimes_61 rfl ?_
        refine V_aload_n (q := 65) dX2_fillTimes_64 rfl rfl rfl ?_
        refine V_getI (q := 68) fl_X2_40 rfl rfl rfl dX2_fillTimes_65 rfl ?_
        refine V_istore (q := 70) dX2_fillTimes_68 (Nat.le_of_ble_eq_true rfl) trivial rfl ?_
        refine V_aloadC_n (q := 71) dX2_fillTimes_70 rfl rfl rfl ?_
        refine V_ifnull (q := 101) (q2 := 74) dX2_fillTimes_71 (by decide) rfl (fun hc12 => ?_) (fun hc12 => ?_)
        · have h := ifT hc12 h
          exact V_weak (kX2_fillTimes_J101 d hd hk1 hk4 (fun _ _ _ h => ih h) h) (sb_s rfl (sb_s rfl (sb_s rfl (sb_n (sb_s rfl (sb_s rfl (sb_s rfl (sb_s rfl sb_0))))))))
        · have h := ifF hc12 h
          obtain ⟨hk15, h⟩ := kC_i h
          refine V_aload_n (q := 75) dX2_fillTimes_74 rfl rfl rfl ?_
          refine V_getC (q := 78) fl_X2_9 rfl rfl rfl dX2_fillTimes_75 rfl ?_
          refine V_aloadC_n (q := 79) dX2_fillTimes_78 rfl rfl rfl ?_
          refine VV_top (vC_r hc12) ?_
          obtain ⟨v16, μ17, hc18, h⟩ := bd_i h
          refine V_cV0 (q := 82) (kX4_open (d - 1) (by omega) hk15 hc18) (by omega) mv_X2_52 rfl rfl rfl rfl rfl rfl dX2_fillTimes_79 rfl ?_
          refine V_iload (q := 84) dX2_fillTimes_82 rfl rfl ?_
          refine V_bipush (q := 86) dX2_fillTimes_84 rfl rfl rfl ?_
          refine V_bipush (q := 88) dX2_fillTimes_86 rfl rfl rfl ?_
          refine V_aload_n (q := 89) dX2_fillTimes_88 rfl rfl rfl ?_
          obtain ⟨v19, μ20, hc21, h⟩ := bd_i h
          refine V_cV1 (q := 92) (v := vI v19) (kX2_worth (d - 1) (by omega) hc21) (by omega) mv_X2_15 rfl rfl rfl rfl rfl rfl dX2_fillTimes_89 rfl ?_
          refine V_mmin (q := 95) mx_X2_56 (by omega) rfl dX2_fillTimes_92 rfl ?_
          refine V_mmax (q := 98) mx_X2_62 (by omega) rfl dX2_fillTimes_95 rfl ?_
          refine V_iadd (q := 99) dX2_fillTimes_98 rfl ?_
          have h := lt_i h
          refine V_istore (q := 101) dX2_fillTimes_99 (Nat.le_of_ble_eq_true rfl) trivial rfl ?_
          exact V_weak (kX2_fillTimes_J101 d hd hk1 hk4 (fun _ _ _ h => ih h) h) (sb_s rfl (sb_s rfl (sb_s rfl (sb_n (sb_s rfl (sb_s rfl (sb_s rfl (sb_s rfl sb_0))))))))
set_option maxHeartbeats 4000000 in
set_option maxRecDepth 100000 in
theorem kX2_fillTimes (d : Nat) (hd : 270 ≤ d) {l1 : Nat} {l2 : Int} {l3 : Int} {l4 : Nat} {n4 : Nat} (hk1 : kD l1 = (13, 3)) (hk4 : kD l4 = (0, n4)) {μ : Mm} {r : Int} {μ' : Mm} (h : X2_fillTimes l1 l2 l3 l4 μ = some (r, μ')) : CC d mX2_fillTimes [vR 4, vR l1, vC l2, vI l3, vR l4] μ r μ' := by
  unfold X2_fillTimes at h
  refine V_enter (by decide) (by unfold vC; split <;> exact Nat.le_of_ble_eq_true rfl) ?_
  refine VV_eq (ls2 := [some (vR 4), some (vR l1), some (vC l2), some (vI l3), some (vR l4), none, none, none]) (st2 := []) (by unfold vC; split <;> rfl) rfl ?_
  refine V_iconst (q := 1) dX2_fillTimes_0 rfl rfl ?_
  refine V_istore (q := 3) dX2_fillTimes_1 (Nat.le_of_ble_eq_true rfl) trivial rfl ?_
  refine V_aload_n (q := 4) dX2_fillTimes_3 rfl rfl rfl ?_
  refine V_iload_n (q := 5) dX2_fillTimes_4 rfl rfl rfl ?_
  have h := sF_i h
  refine V_putI (q := 8) fl_X2_25 rfl rfl rfl dX2_fillTimes_5 rfl ?_
  refine V_aload_n (q := 9) dX2_fillTimes_8 rfl rfl rfl ?_
  refine V_aload_n (q := 10) dX2_fillTimes_9 rfl rfl rfl ?_
  refine V_getI (q := 13) fl_X2_28 hk1 rfl rfl dX2_fillTimes_10 rfl ?_
  have h := sF_i h
  refine V_putI (q := 16) fl_X2_33 rfl rfl rfl dX2_fillTimes_13 rfl ?_
  refine V_iconst (q := 17) dX2_fillTimes_16 rfl rfl ?_
  refine V_istore (q := 19) dX2_fillTimes_17 (Nat.le_of_ble_eq_true rfl) trivial rfl ?_
  exact V_weak (kX2_fillTimes_L19 d hd hk1 hk4  FU h) (sb_s rfl (sb_s rfl (sb_s rfl (sb_n (sb_s rfl (sb_s rfl (sb_s rfl (sb_n sb_0))))))))
abbrev mX3_readCue : Mth := (yX3_readCue, cX3_readCue, 5, none)
set_option maxRecDepth 100000 in
theorem mi_X3_readCue : Cond.instanceMethod yX3_readCue ∈ tG ∧ Cond.selects yX3_readCue.cls yX3_readCue yX3_readCue ∈ tG ∧ Cond.initialized yX3_readCue.cls ∈ tG ∧ Cond.code yX3_readCue cX3_readCue 5 (none) ∈ tG ∧ (yX3_readCue.cls ≠ "java/lang/invoke/MethodHandle" ∧ yX3_readCue.cls ≠ "java/lang/invoke/VarHandle" ∧ (parseMethodDescriptor yX3_readCue.desc).map (fun d => d.parameters.length) = some 2) ∧ 5 ≤ 60 := ⟨(tG_of (tb2 (List.mem_of_getElem? (i := 223) rfl)) (by decide +kernel)), (tG_of (List.mem_of_getElem? (i := 3) (by decide +kernel)) (by decide +kernel)), (tG_of (tb1 (List.mem_of_getElem? (i := 6) rfl)) (by decide +kernel)), (tG_of (tb2 (List.mem_of_getElem? (i := 224) rfl)) (by decide +kernel)), ⟨by decide, by decide, by decide +kernel⟩, by decide⟩
set_option maxRecDepth 100000 in
theorem mv_X3_22 : mV RX3 22 mX3_readCue 2 := ⟨(tG_of (tb2 (List.mem_of_getElem? (i := 221) rfl)) (by decide +kernel)), mi_X3_readCue⟩
theorem dX3_readCue_0 : decode cX3_readCue 0 = .ok (.aload_n 1, 1) := dc_43 (byA eNcX3_readCue (p := 0) (v := 43) (by decide +kernel))
theorem dX3_readCue_1 : decode cX3_readCue 1 = .ok (.invokevirtual 38, 3) := dc_182 (byA eNcX3_readCue (p := 1) (v := 182) (by decide +kernel)) (byA eNcX3_readCue (p := 2) (v := 0) (by decide +kernel)) (byA eNcX3_readCue (p := 3) (v := 38) (by decide +kernel)) rfl
theorem dX3_readCue_4 : decode cX3_readCue 4 = .ok (.istore_n 3, 1) := dc_62 (byA eNcX3_readCue (p := 4) (v := 62) (by decide +kernel))
theorem dX3_readCue_5 : decode cX3_readCue 5 = .ok (.iload_n 3, 1) := dc_29 (byA eNcX3_readCue (p := 5) (v := 29) (by decide +kernel))
theorem dX3_readCue_6 : decode cX3_readCue 6 = .ok (.bipush 65, 2) := dc_16 (byA eNcX3_readCue (p := 6) (v := 16) (by decide +kernel)) (byA eNcX3_readCue (p := 7) (v := 65) (by decide +kernel)) (by decide +kernel)
theorem dX3_readCue_8 : decode cX3_readCue 8 = .ok (.if_icmp .lt 9, 3) := dc_161 (byA eNcX3_readCue (p := 8) (v := 161) (by decide +kernel)) (byA eNcX3_readCue (p := 9) (v := 0) (by decide +kernel)) (byA eNcX3_readCue (p := 10) (v := 9) (by decide +kernel)) (by decide +kernel)
theorem dX3_readCue_11 : decode cX3_readCue 11 = .ok (.iload_n 3, 1) := dc_29 (byA eNcX3_readCue (p := 11) (v := 29) (by decide +kernel))
theorem dX3_readCue_12 : decode cX3_readCue 12 = .ok (.bipush 72, 2) := dc_16 (byA eNcX3_readCue (p := 12) (v := 16) (by decide +kernel)) (byA eNcX3_readCue (p := 13) (v := 72) (by decide +kernel)) (by decide +kernel)
theorem dX3_readCue_14 : decode cX3_readCue 14 = .ok (.if_icmp .le 12, 3) := dc_164 (byA eNcX3_readCue (p := 14) (v := 164) (by decide +kernel)) (byA eNcX3_readCue (p := 15) (v := 0) (by decide +kernel)) (byA eNcX3_readCue (p := 16) (v := 12) (by decide +kernel)) (by decide +kernel)
theorem dX3_readCue_17 : decode cX3_readCue 17 = .ok (.aload_n 1, 1) := dc_43 (byA eNcX3_readCue (p := 17) (v := 43) (by decide +kernel))
theorem dX3_readCue_18 : decode cX3_readCue 18 = .ok (.aload_n 1, 1) := dc_43 (byA eNcX3_readCue (p := 18) (v := 43) (by decide +kernel))
theorem dX3_readCue_19 : decode cX3_readCue 19 = .ok (.getfield 42, 3) := dc_180 (byA eNcX3_readCue (p := 19) (v := 180) (by decide +kernel)) (byA eNcX3_readCue (p := 20) (v := 0) (by decide +kernel)) (byA eNcX3_readCue (p := 21) (v := 42) (by decide +kernel)) rfl
theorem dX3_readCue_22 : decode cX3_readCue 22 = .ok (.invokevirtual 45, 3) := dc_182 (byA eNcX3_readCue (p := 22) (v := 182) (by decide +kernel)) (byA eNcX3_readCue (p := 23) (v := 0) (by decide +kernel)) (byA eNcX3_readCue (p := 24) (v := 45) (by decide +kernel)) rfl
theorem dX3_readCue_25 : decode cX3_readCue 25 = .ok (.return_, 1) := dc_177 (byA eNcX3_readCue (p := 25) (v := 177) (by decide +kernel))
theorem dX3_readCue_26 : decode cX3_readCue 26 = .ok (.aload_n 1, 1) := dc_43 (byA eNcX3_readCue (p := 26) (v := 43) (by decide +kernel))
theorem dX3_readCue_27 : decode cX3_readCue 27 = .ok (.invokevirtual 49, 3) := dc_182 (byA eNcX3_readCue (p := 27) (v := 182) (by decide +kernel)) (byA eNcX3_readCue (p := 28) (v := 0) (by decide +kernel)) (byA eNcX3_readCue (p := 29) (v := 49) (by decide +kernel)) rfl
theorem dX3_readCue_30 : decode cX3_readCue 30 = .ok (.aload_n 1, 1) := dc_43 (byA eNcX3_readCue (p := 30) (v := 43) (by decide +kernel))
theorem dX3_readCue_31 : decode cX3_readCue 31 = .ok (.iconst 3, 1) := dc_6 (byA eNcX3_readCue (p := 31) (v := 6) (by decide +kernel))
theorem dX3_readCue_32 : decode cX3_readCue 32 = .ok (.invokevirtual 52, 3) := dc_182 (byA eNcX3_readCue (p := 32) (v := 182) (by decide +kernel)) (byA eNcX3_readCue (p := 33) (v := 0) (by decide +kernel)) (byA eNcX3_readCue (p := 34) (v := 52) (by decide +kernel)) rfl
theorem dX3_readCue_35 : decode cX3_readCue 35 = .ok (.istore 4, 2) := dc_54 (byA eNcX3_readCue (p := 35) (v := 54) (by decide +kernel)) (byA eNcX3_readCue (p := 36) (v := 4) (by decide +kernel))
theorem dX3_readCue_37 : decode cX3_readCue 37 = .ok (.iload_n 2, 1) := dc_28 (byA eNcX3_readCue (p := 37) (v := 28) (by decide +kernel))
theorem dX3_readCue_38 : decode cX3_readCue 38 = .ok (.ifCond .le 26, 3) := dc_158 (byA eNcX3_readCue (p := 38) (v := 158) (by decide +kernel)) (byA eNcX3_readCue (p := 39) (v := 0) (by decide +kernel)) (byA eNcX3_readCue (p := 40) (v := 26) (by decide +kernel)) (by decide +kernel)
theorem dX3_readCue_41 : decode cX3_readCue 41 = .ok (.iload 4, 2) := dc_21 (byA eNcX3_readCue (p := 41) (v := 21) (by decide +kernel)) (byA eNcX3_readCue (p := 42) (v := 4) (by decide +kernel))
theorem dX3_readCue_43 : decode cX3_readCue 43 = .ok (.aload_n 0, 1) := dc_42 (byA eNcX3_readCue (p := 43) (v := 42) (by decide +kernel))
theorem dX3_readCue_44 : decode cX3_readCue 44 = .ok (.getfield 15, 3) := dc_180 (byA eNcX3_readCue (p := 44) (v := 180) (by decide +kernel)) (byA eNcX3_readCue (p := 45) (v := 0) (by decide +kernel)) (byA eNcX3_readCue (p := 46) (v := 15) (by decide +kernel)) rfl
theorem dX3_readCue_47 : decode cX3_readCue 47 = .ok (.iload_n 2, 1) := dc_28 (byA eNcX3_readCue (p := 47) (v := 28) (by decide +kernel))
theorem dX3_readCue_48 : decode cX3_readCue 48 = .ok (.iconst 1, 1) := dc_4 (byA eNcX3_readCue (p := 48) (v := 4) (by decide +kernel))
theorem dX3_readCue_49 : decode cX3_readCue 49 = .ok (.isub, 1) := dc_100 (byA eNcX3_readCue (p := 49) (v := 100) (by decide +kernel))
theorem dX3_readCue_50 : decode cX3_readCue 50 = .ok (.iaload, 1) := dc_46 (byA eNcX3_readCue (p := 50) (v := 46) (by decide +kernel))
theorem dX3_readCue_51 : decode cX3_readCue 51 = .ok (.if_icmp .ge 13, 3) := dc_162 (byA eNcX3_readCue (p := 51) (v := 162) (by decide +kernel)) (byA eNcX3_readCue (p := 52) (v := 0) (by decide +kernel)) (byA eNcX3_readCue (p := 53) (v := 13) (by decide +kernel)) (by decide +kernel)
theorem dX3_readCue_54 : decode cX3_readCue 54 = .ok (.aload_n 1, 1) := dc_43 (byA eNcX3_readCue (p := 54) (v := 43) (by decide +kernel))
theorem dX3_readCue_55 : decode cX3_readCue 55 = .ok (.aload_n 1, 1) := dc_43 (byA eNcX3_readCue (p := 55) (v := 43) (by decide +kernel))
theorem dX3_readCue_56 : decode cX3_readCue 56 = .ok (.getfield 42, 3) := dc_180 (byA eNcX3_readCue (p := 56) (v := 180) (by decide +kernel)) (byA eNcX3_readCue (p := 57) (v := 0) (by decide +kernel)) (byA eNcX3_readCue (p := 58) (v := 42) (by decide +kernel)) rfl
theorem dX3_readCue_59 : decode cX3_readCue 59 = .ok (.iconst 1, 1) := dc_4 (byA eNcX3_readCue (p := 59) (v := 4) (by decide +kernel))
theorem dX3_readCue_60 : decode cX3_readCue 60 = .ok (.isub, 1) := dc_100 (byA eNcX3_readCue (p := 60) (v := 100) (by decide +kernel))
theorem dX3_readCue_61 : decode cX3_readCue 61 = .ok (.invokevirtual 45, 3) := dc_182 (byA eNcX3_readCue (p := 61) (v := 182) (by decide +kernel)) (byA eNcX3_readCue (p := 62) (v := 0) (by decide +kernel)) (byA eNcX3_readCue (p := 63) (v := 45) (by decide +kernel)) rfl
theorem dX3_readCue_64 : decode cX3_readCue 64 = .ok (.aload_n 0, 1) := dc_42 (byA eNcX3_readCue (p := 64) (v := 42) (by decide +kernel))
theorem dX3_readCue_65 : decode cX3_readCue 65 = .ok (.getfield 9, 3) := dc_180 (byA eNcX3_readCue (p := 65) (v := 180) (by decide +kernel)) (byA eNcX3_readCue (p := 66) (v := 0) (by decide +kernel)) (byA eNcX3_readCue (p := 67) (v := 9) (by decide +kernel)) rfl
theorem dX3_readCue_68 : decode cX3_readCue 68 = .ok (.iload_n 2, 1) := dc_28 (byA eNcX3_readCue (p := 68) (v := 28) (by decide +kernel))
theorem dX3_readCue_69 : decode cX3_readCue 69 = .ok (.iload_n 3, 1) := dc_29 (byA eNcX3_readCue (p := 69) (v := 29) (by decide +kernel))
theorem dX3_readCue_70 : decode cX3_readCue 70 = .ok (.bipush 65, 2) := dc_16 (byA eNcX3_readCue (p := 70) (v := 16) (by decide +kernel)) (byA eNcX3_readCue (p := 71) (v := 65) (by decide +kernel)) (by decide +kernel)
theorem dX3_readCue_72 : decode cX3_readCue 72 = .ok (.isub, 1) := dc_100 (byA eNcX3_readCue (p := 72) (v := 100) (by decide +kernel))
theorem dX3_readCue_73 : decode cX3_readCue 73 = .ok (.iastore, 1) := dc_79 (byA eNcX3_readCue (p := 73) (v := 79) (by decide +kernel))
theorem dX3_readCue_74 : decode cX3_readCue 74 = .ok (.aload_n 0, 1) := dc_42 (byA eNcX3_readCue (p := 74) (v := 42) (by decide +kernel))
theorem dX3_readCue_75 : decode cX3_readCue 75 = .ok (.getfield 15, 3) := dc_180 (byA eNcX3_readCue (p := 75) (v := 180) (by decide +kernel)) (byA eNcX3_readCue (p := 76) (v := 0) (by decide +kernel)) (byA eNcX3_readCue (p := 77) (v := 15) (by decide +kernel)) rfl
theorem dX3_readCue_78 : decode cX3_readCue 78 = .ok (.iload_n 2, 1) := dc_28 (byA eNcX3_readCue (p := 78) (v := 28) (by decide +kernel))
theorem dX3_readCue_79 : decode cX3_readCue 79 = .ok (.iload 4, 2) := dc_21 (byA eNcX3_readCue (p := 79) (v := 21) (by decide +kernel)) (byA eNcX3_readCue (p := 80) (v := 4) (by decide +kernel))
theorem dX3_readCue_81 : decode cX3_readCue 81 = .ok (.iastore, 1) := dc_79 (byA eNcX3_readCue (p := 81) (v := 79) (by decide +kernel))
theorem dX3_readCue_82 : decode cX3_readCue 82 = .ok (.aload_n 0, 1) := dc_42 (byA eNcX3_readCue (p := 82) (v := 42) (by decide +kernel))
theorem dX3_readCue_83 : decode cX3_readCue 83 = .ok (.iload_n 2, 1) := dc_28 (byA eNcX3_readCue (p := 83) (v := 28) (by decide +kernel))
theorem dX3_readCue_84 : decode cX3_readCue 84 = .ok (.iconst 1, 1) := dc_4 (byA eNcX3_readCue (p := 84) (v := 4) (by decide +kernel))
theorem dX3_readCue_85 : decode cX3_readCue 85 = .ok (.iadd, 1) := dc_96 (byA eNcX3_readCue (p := 85) (v := 96) (by decide +kernel))
theorem dX3_readCue_86 : decode cX3_readCue 86 = .ok (.putfield 18, 3) := dc_181 (byA eNcX3_readCue (p := 86) (v := 181) (by decide +kernel)) (byA eNcX3_readCue (p := 87) (v := 0) (by decide +kernel)) (byA eNcX3_readCue (p := 88) (v := 18) (by decide +kernel)) rfl
theorem dX3_readCue_89 : decode cX3_readCue 89 = .ok (.return_, 1) := dc_177 (byA eNcX3_readCue (p := 89) (v := 177) (by decide +kernel))
def X3_readCue_J64 (l0 : Nat) (l2 : Int) (l3 : Int) (l4 : Int) (μ : Mm) : Rs := stA μ (l0 + 1) l2 (iS l3 65) fun μ16 => stA μ16 (l0 + 2) l2 l4 fun μ18 => sF μ18 l0 2 (iA l2 1) fun μ20 => some (0, μ20)
def X3_readCue (l0 : Nat) (l2 : Int) (μ : Mm) : Rs := bd (X4_peek μ) fun v1 μ2 => if v1 < 65 then (bd (X4_refuseAt (μ2 3 1) μ2) fun v5 μ6 => some (0, μ6)) else (if v1 ≤ 72 then (bd (X4_pass μ2) fun v9 μ10 => bd (X4_number 3 μ10) fun v12 μ13 => if l2 ≤ 0 then (X3_readCue_J64 l0 l2 v1 v12 μ13) else (ldA μ13 (l0 + 2) (iS l2 1) fun v21 => if v21 ≤ v12 then (X3_readCue_J64 l0 l2 v1 v12 μ13) else (bd (X4_refuseAt (iS (μ13 3 1) 1) μ13) fun v24 μ25 => X3_readCue_J64 l0 l2 v1 v12 μ25))) else (bd (X4_refuseAt (μ2 3 1) μ2) fun v27 μ28 => some (0, μ28)))
set_option maxHeartbeats 4000000 in
set_option maxRecDepth 100000 in
theorem kX3_readCue_J64 (d : Nat) (hd : 3 ≤ d) {l0 : Nat} {l2 : Int} {l3 : Int} {l4 : Int} (hk0 : kD l0 = (13, 3)) {μ : Mm} {r : Int} {μ' : Mm} (h : X3_readCue_J64 l0 l2 l3 l4 μ = some (r, μ')) : VV d mX3_readCue 64 [some (vR l0), none, some (vI l2), some (vI l3), some (vI l4)] [] μ r μ' := by
  unfold X3_readCue_J64 at h
  refine V_aload_n (q := 65) dX3_readCue_64 rfl rfl rfl ?_
  refine V_getO (q := 68) (t := _) fl_X3_9 hk0 rfl rfl rfl dX3_readCue_65 rfl ?_
  refine V_iload_n (q := 69) dX3_readCue_68 rfl rfl rfl ?_
  refine V_iload_n (q := 70) dX3_readCue_69 rfl rfl rfl ?_
  refine V_bipush (q := 72) dX3_readCue_70 rfl rfl rfl ?_
  refine V_isub (q := 73) dX3_readCue_72 rfl ?_
  obtain ⟨hi17, h⟩ := stA_i h
  refine V_iastore (q := 74) (kdo_3_0 hk0) hi17 dX3_readCue_73 rfl ?_
  refine V_aload_n (q := 75) dX3_readCue_74 rfl rfl rfl ?_
  refine V_getO (q := 78) (t := _) fl_X3_15 hk0 rfl rfl rfl dX3_readCue_75 rfl ?_
  refine V_iload_n (q := 79) dX3_readCue_78 rfl rfl rfl ?_
  refine V_iload (q := 81) dX3_readCue_79 rfl rfl ?_
  obtain ⟨hi19, h⟩ := stA_i h
  refine V_iastore (q := 82) (kdo_3_1 hk0) hi19 dX3_readCue_81 rfl ?_
  refine V_aload_n (q := 83) dX3_readCue_82 rfl rfl rfl ?_
  refine V_iload_n (q := 84) dX3_readCue_83 rfl rfl rfl ?_
  refine V_iconst (q := 85) dX3_readCue_84 rfl rfl ?_
  refine V_iadd (q := 86) dX3_readCue_85 rfl ?_
  have h := sF_i h
  refine V_putI (q := 89) fl_X3_18 hk0 rfl rfl dX3_readCue_86 rfl ?_
  exact V_vret rfl h dX3_readCue_89
set_option maxHeartbeats 4000000 in
set_option maxRecDepth 100000 in
theorem kX3_readCue (d : Nat) (hd : 3 ≤ d) {l0 : Nat} {l2 : Int} (hk0 : kD l0 = (13, 3)) {μ : Mm} {r : Int} {μ' : Mm} (h : X3_readCue l0 l2 μ = some (r, μ')) : CC d mX3_readCue [vR l0, vR 3, vI l2] μ r μ' := by
  unfold X3_readCue at h
  refine V_enter (by decide) (Nat.le_of_ble_eq_true rfl) ?_
  show VV d mX3_readCue 0 [some (vR l0), some (vR 3), some (vI l2), none, none] [] μ r μ'
  refine V_aload_n (q := 1) dX3_readCue_0 rfl rfl rfl ?_
  obtain ⟨v1, μ2, hc3, h⟩ := bd_i h
  refine V_cV1 (q := 4) (v := vI v1) (kX4_peek (d - 1) (by omega) hc3) (by omega) mv_X3_38 rfl rfl rfl rfl rfl rfl dX3_readCue_1 rfl ?_
  refine V_istore_n (q := 5) dX3_readCue_4 rfl (Nat.le_of_ble_eq_true rfl) trivial rfl ?_
  refine V_iload_n (q := 6) dX3_readCue_5 rfl rfl rfl ?_
  refine V_bipush (q := 8) dX3_readCue_6 rfl rfl rfl ?_
  refine V_icmplt (q := 17) (q2 := 11) dX3_readCue_8 (by decide) rfl (fun hc4 => ?_) (fun hc4 => ?_)
  · have h := ifT hc4 h
    refine V_aload_n (q := 18) dX3_readCue_17 rfl rfl rfl ?_
    refine V_aload_n (q := 19) dX3_readCue_18 rfl rfl rfl ?_
    refine V_getI (q := 22) fl_X3_42 rfl rfl rfl dX3_readCue_19 rfl ?_
    obtain ⟨v5, μ6, hc7, h⟩ := bd_i h
    refine V_cV0 (q := 25) (kX4_refuseAt (d - 1) (by omega) hc7) (by omega) mv_X3_45 rfl rfl rfl rfl rfl rfl dX3_readCue_22 rfl ?_
    exact V_vret rfl h dX3_readCue_25
  · have h := ifF hc4 h
    refine V_iload_n (q := 12) dX3_readCue_11 rfl rfl rfl ?_
    refine V_bipush (q := 14) dX3_readCue_12 rfl rfl rfl ?_
    refine V_icmple (q := 26) (q2 := 17) dX3_readCue_14 (by decide) rfl (fun hc8 => ?_) (fun hc8 => ?_)
    · have h := ifT hc8 h
      refine V_aload_n (q := 27) dX3_readCue_26 rfl rfl rfl ?_
      obtain ⟨v9, μ10, hc11, h⟩ := bd_i h
      refine V_cV0 (q := 30) (kX4_pass (d - 1) (by omega) hc11) (by omega) mv_X3_49 rfl rfl rfl rfl rfl rfl dX3_readCue_27 rfl ?_
      refine V_aload_n (q := 31) dX3_readCue_30 rfl rfl rfl ?_
      refine V_iconst (q := 32) dX3_readCue_31 rfl rfl ?_
      obtain ⟨v12, μ13, hc14, h⟩ := bd_i h
      refine V_cV1 (q := 35) (v := vI v12) (kX4_number (d - 1) (by omega) hc14) (by omega) mv_X3_52 rfl rfl rfl rfl rfl rfl dX3_readCue_32 rfl ?_
      refine V_istore (q := 37) dX3_readCue_35 (Nat.le_of_ble_eq_true rfl) trivial rfl ?_
      refine V_iload_n (q := 38) dX3_readCue_37 rfl rfl rfl ?_
      refine V_ifle (q := 64) (q2 := 41) dX3_readCue_38 (by decide) rfl (fun hc15 => ?_) (fun hc15 => ?_)
      · have h := ifT hc15 h
        exact V_weak (kX3_readCue_J64 d hd hk0 h) (sb_s rfl (sb_n (sb_s rfl (sb_s rfl (sb_s rfl sb_0)))))
      · have h := ifF hc15 h
        refine V_iload (q := 43) dX3_readCue_41 rfl rfl ?_
        refine V_aload_n (q := 44) dX3_readCue_43 rfl rfl rfl ?_
        refine V_getO (q := 47) (t := _) fl_X3_15 hk0 rfl rfl rfl dX3_readCue_44 rfl ?_
        refine V_iload_n (q := 48) dX3_readCue_47 rfl rfl rfl ?_
        refine V_iconst (q := 49) dX3_readCue_48 rfl rfl ?_
        refine V_isub (q := 50) dX3_readCue_49 rfl ?_
        obtain ⟨hi22, h⟩ := ldA_i h
        refine V_iaload (q := 51) (kdo_3_1 hk0) hi22 dX3_readCue_50 rfl ?_
        refine V_icmpge (q := 64) (q2 := 54) dX3_readCue_51 (by decide) rfl (fun hc23 => ?_) (fun hc23 => ?_)
        · have h := ifT hc23 h
          exact V_weak (kX3_readCue_J64 d hd hk0 h) (sb_s rfl (sb_n (sb_s rfl (sb_s rfl (sb_s rfl sb_0)))))
        · have h := ifF hc23 h
          refine V_aload_n (q := 55) dX3_readCue_54 rfl rfl rfl ?_
          refine V_aload_n (q := 56) dX3_readCue_55 rfl rfl rfl ?_
          refine V_getI (q := 59) fl_X3_42 rfl rfl rfl dX3_readCue_56 rfl ?_
          refine V_iconst (q := 60) dX3_readCue_59 rfl rfl ?_
          refine V_isub (q := 61) dX3_readCue_60 rfl ?_
          obtain ⟨v24, μ25, hc26, h⟩ := bd_i h
          refine V_cV0 (q := 64) (kX4_refuseAt (d - 1) (by omega) hc26) (by omega) mv_X3_45 rfl rfl rfl rfl rfl rfl dX3_readCue_61 rfl ?_
          exact V_weak (kX3_readCue_J64 d hd hk0 h) (sb_s rfl (sb_n (sb_s rfl (sb_s rfl (sb_s rfl sb_0)))))
    · have h := ifF hc8 h
      refine V_aload_n (q := 18) dX3_readCue_17 rfl rfl rfl ?_
      refine V_aload_n (q := 19) dX3_readCue_18 rfl rfl rfl ?_
      refine V_getI (q := 22) fl_X3_42 rfl rfl rfl dX3_readCue_19 rfl ?_
      obtain ⟨v27, μ28, hc29, h⟩ := bd_i h
      refine V_cV0 (q := 25) (kX4_refuseAt (d - 1) (by omega) hc29) (by omega) mv_X3_45 rfl rfl rfl rfl rfl rfl dX3_readCue_22 rfl ?_
      exact V_vret rfl h dX3_readCue_25
abbrev mX3_read : Mth := (yX3_read, cX3_read, 3, some .int)
set_option maxRecDepth 100000 in
theorem mi_X3_read : Cond.instanceMethod yX3_read ∈ tG ∧ Cond.selects yX3_read.cls yX3_read yX3_read ∈ tG ∧ Cond.initialized yX3_read.cls ∈ tG ∧ Cond.code yX3_read cX3_read 3 (some .int) ∈ tG ∧ (yX3_read.cls ≠ "java/lang/invoke/MethodHandle" ∧ yX3_read.cls ≠ "java/lang/invoke/VarHandle" ∧ (parseMethodDescriptor yX3_read.desc).map (fun d => d.parameters.length) = some 1) ∧ 3 ≤ 60 := ⟨(tG_of (tb2 (List.mem_of_getElem? (i := 218) rfl)) (by decide +kernel)), (tG_of (tb2 (List.mem_of_getElem? (i := 219) rfl)) (by decide +kernel)), (tG_of (tb1 (List.mem_of_getElem? (i := 6) rfl)) (by decide +kernel)), (tG_of (tb2 (List.mem_of_getElem? (i := 220) rfl)) (by decide +kernel)), ⟨by decide, by decide, by decide +kernel⟩, by decide⟩
set_option maxRecDepth 100000 in
theorem mv_X10_146 : mV RX10 146 mX3_read 1 := ⟨(tG_of (tb2 (List.mem_of_getElem? (i := 217) rfl)) (by decide +kernel)), mi_X3_read⟩
theorem dX3_read_0 : decode cX3_read 0 = .ok (.aload_n 0, 1) := dc_42 (byA eNcX3_read (p := 0) (v := 42) (by decide +kernel))
theorem dX3_read_1 : decode cX3_read 1 = .ok (.iconst 0, 1) := dc_3 (byA eNcX3_read (p := 1) (v := 3) (by decide +kernel))
theorem dX3_read_2 : decode cX3_read 2 = .ok (.putfield 18, 3) := dc_181 (byA eNcX3_read (p := 2) (v := 181) (by decide +kernel)) (byA eNcX3_read (p := 3) (v := 0) (by decide +kernel)) (byA eNcX3_read (p := 4) (v := 18) (by decide +kernel)) rfl
theorem dX3_read_5 : decode cX3_read 5 = .ok (.aload_n 0, 1) := dc_42 (byA eNcX3_read (p := 5) (v := 42) (by decide +kernel))
theorem dX3_read_6 : decode cX3_read 6 = .ok (.aload_n 1, 1) := dc_43 (byA eNcX3_read (p := 6) (v := 43) (by decide +kernel))
theorem dX3_read_7 : decode cX3_read 7 = .ok (.iconst 0, 1) := dc_3 (byA eNcX3_read (p := 7) (v := 3) (by decide +kernel))
theorem dX3_read_8 : decode cX3_read 8 = .ok (.invokevirtual 22, 3) := dc_182 (byA eNcX3_read (p := 8) (v := 182) (by decide +kernel)) (byA eNcX3_read (p := 9) (v := 0) (by decide +kernel)) (byA eNcX3_read (p := 10) (v := 22) (by decide +kernel)) rfl
theorem dX3_read_11 : decode cX3_read 11 = .ok (.iconst 1, 1) := dc_4 (byA eNcX3_read (p := 11) (v := 4) (by decide +kernel))
theorem dX3_read_12 : decode cX3_read 12 = .ok (.istore_n 2, 1) := dc_61 (byA eNcX3_read (p := 12) (v := 61) (by decide +kernel))
theorem dX3_read_13 : decode cX3_read 13 = .ok (.iload_n 2, 1) := dc_28 (byA eNcX3_read (p := 13) (v := 28) (by decide +kernel))
theorem dX3_read_14 : decode cX3_read 14 = .ok (.bipush 8, 2) := dc_16 (byA eNcX3_read (p := 14) (v := 16) (by decide +kernel)) (byA eNcX3_read (p := 15) (v := 8) (by decide +kernel)) (by decide +kernel)
theorem dX3_read_16 : decode cX3_read 16 = .ok (.if_icmp .ge 24, 3) := dc_162 (byA eNcX3_read (p := 16) (v := 162) (by decide +kernel)) (byA eNcX3_read (p := 17) (v := 0) (by decide +kernel)) (byA eNcX3_read (p := 18) (v := 24) (by decide +kernel)) (by decide +kernel)
theorem dX3_read_19 : decode cX3_read 19 = .ok (.aload_n 1, 1) := dc_43 (byA eNcX3_read (p := 19) (v := 43) (by decide +kernel))
theorem dX3_read_20 : decode cX3_read 20 = .ok (.bipush 44, 2) := dc_16 (byA eNcX3_read (p := 20) (v := 16) (by decide +kernel)) (byA eNcX3_read (p := 21) (v := 44) (by decide +kernel)) (by decide +kernel)
theorem dX3_read_22 : decode cX3_read 22 = .ok (.invokevirtual 26, 3) := dc_182 (byA eNcX3_read (p := 22) (v := 182) (by decide +kernel)) (byA eNcX3_read (p := 23) (v := 0) (by decide +kernel)) (byA eNcX3_read (p := 24) (v := 26) (by decide +kernel)) rfl
theorem dX3_read_25 : decode cX3_read 25 = .ok (.ifCond .eq 15, 3) := dc_153 (byA eNcX3_read (p := 25) (v := 153) (by decide +kernel)) (byA eNcX3_read (p := 26) (v := 0) (by decide +kernel)) (byA eNcX3_read (p := 27) (v := 15) (by decide +kernel)) (by decide +kernel)
theorem dX3_read_28 : decode cX3_read 28 = .ok (.aload_n 0, 1) := dc_42 (byA eNcX3_read (p := 28) (v := 42) (by decide +kernel))
theorem dX3_read_29 : decode cX3_read 29 = .ok (.aload_n 1, 1) := dc_43 (byA eNcX3_read (p := 29) (v := 43) (by decide +kernel))
theorem dX3_read_30 : decode cX3_read 30 = .ok (.iload_n 2, 1) := dc_28 (byA eNcX3_read (p := 30) (v := 28) (by decide +kernel))
theorem dX3_read_31 : decode cX3_read 31 = .ok (.invokevirtual 22, 3) := dc_182 (byA eNcX3_read (p := 31) (v := 182) (by decide +kernel)) (byA eNcX3_read (p := 32) (v := 0) (by decide +kernel)) (byA eNcX3_read (p := 33) (v := 22) (by decide +kernel)) rfl
theorem dX3_read_34 : decode cX3_read 34 = .ok (.iinc 2 1, 3) := dc_132 (byA eNcX3_read (p := 34) (v := 132) (by decide +kernel)) (byA eNcX3_read (p := 35) (v := 2) (by decide +kernel)) (byA eNcX3_read (p := 36) (v := 1) (by decide +kernel)) (by decide +kernel)
theorem dX3_read_37 : decode cX3_read 37 = .ok (.goto (-24), 3) := dc_167 (byA eNcX3_read (p := 37) (v := 167) (by decide +kernel)) (byA eNcX3_read (p := 38) (v := 255) (by decide +kernel)) (byA eNcX3_read (p := 39) (v := 232) (by decide +kernel)) (by decide +kernel)
theorem dX3_read_40 : decode cX3_read 40 = .ok (.aload_n 1, 1) := dc_43 (byA eNcX3_read (p := 40) (v := 43) (by decide +kernel))
theorem dX3_read_41 : decode cX3_read 41 = .ok (.invokevirtual 32, 3) := dc_182 (byA eNcX3_read (p := 41) (v := 182) (by decide +kernel)) (byA eNcX3_read (p := 42) (v := 0) (by decide +kernel)) (byA eNcX3_read (p := 43) (v := 32) (by decide +kernel)) rfl
theorem dX3_read_44 : decode cX3_read 44 = .ok (.aload_n 1, 1) := dc_43 (byA eNcX3_read (p := 44) (v := 43) (by decide +kernel))
theorem dX3_read_45 : decode cX3_read 45 = .ok (.getfield 35, 3) := dc_180 (byA eNcX3_read (p := 45) (v := 180) (by decide +kernel)) (byA eNcX3_read (p := 46) (v := 0) (by decide +kernel)) (byA eNcX3_read (p := 47) (v := 35) (by decide +kernel)) rfl
theorem dX3_read_48 : decode cX3_read 48 = .ok (.ireturn, 1) := dc_172 (byA eNcX3_read (p := 48) (v := 172) (by decide +kernel))
def X3_read_L13 (l0 : Nat) (k40 : Mm → Rs) : Nat → Int → Mm → Rs
  | 0, _, _ => none
  | n + 1, l2, μ => if 8 ≤ l2 then (k40 μ) else (bd (X4_take 44 μ) fun v6 μ7 => if v6 = 0 then (k40 μ7) else (bd (X3_readCue l0 l2 μ7) fun v10 μ11 => X3_read_L13 l0 k40 n (iA l2 1) μ11))
def X3_read (l0 : Nat) (μ : Mm) : Rs := sF μ l0 2 0 fun μ1 => bd (X3_readCue l0 0 μ1) fun v2 μ3 => X3_read_L13 l0 (fun μ13 => bd (X4_needEnd μ13) fun v14 μ15 => some (μ15 3 2, μ15)) FU 1 μ3
set_option maxHeartbeats 4000000 in
set_option maxRecDepth 100000 in
theorem kX3_read_L13 (d : Nat) (hd : 4 ≤ d) {l0 : Nat} (hk0 : kD l0 = (13, 3)) {k40 : Mm → Rs} {r : Int} {μ' : Mm} (hk_40 : ∀ (μ1 : Mm), k40 μ1 = some (r, μ') → VV d mX3_read 40 [none, some (vR 3), none] [] μ1 r μ') : ∀ (n : Nat) {l2 : Int} {μ : Mm}, X3_read_L13 l0 k40 n l2 μ = some (r, μ') → VV d mX3_read 13 [some (vR l0), some (vR 3), some (vI l2)] [] μ r μ' := by
  intro n
  induction n with
  | zero => intro l2 μ h; rw [X3_read_L13] at h; cases h
  | succ n ih =>
    intro l2 μ h
    rw [X3_read_L13] at h
    refine V_iload_n (q := 14) dX3_read_13 rfl rfl rfl ?_
    refine V_bipush (q := 16) dX3_read_14 rfl rfl rfl ?_
    refine V_icmpge (q := 40) (q2 := 19) dX3_read_16 (by decide) rfl (fun hc5 => ?_) (fun hc5 => ?_)
    · have h := ifT hc5 h
      exact V_weak (hk_40 _ h) (sb_n (sb_s rfl (sb_n sb_0)))
    · have h := ifF hc5 h
      refine V_aload_n (q := 20) dX3_read_19 rfl rfl rfl ?_
      refine V_bipush (q := 22) dX3_read_20 rfl rfl rfl ?_
      obtain ⟨v6, μ7, hc8, h⟩ := bd_i h
      refine V_cV1 (q := 25) (v := vI v6) (kX4_take (d - 1) (by omega) hc8) (by omega) mv_X3_26 rfl rfl rfl rfl rfl rfl dX3_read_22 rfl ?_
      refine V_ifeq (q := 40) (q2 := 28) dX3_read_25 (by decide) rfl (fun hc9 => ?_) (fun hc9 => ?_)
      · have h := ifT hc9 h
        exact V_weak (hk_40 _ h) (sb_n (sb_s rfl (sb_n sb_0)))
      · have h := ifF hc9 h
        refine V_aload_n (q := 29) dX3_read_28 rfl rfl rfl ?_
        refine V_aload_n (q := 30) dX3_read_29 rfl rfl rfl ?_
        refine V_iload_n (q := 31) dX3_read_30 rfl rfl rfl ?_
        obtain ⟨v10, μ11, hc12, h⟩ := bd_i h
        refine V_cV0 (q := 34) (kX3_readCue (d - 1) (by omega) hk0 hc12) (by omega) mv_X3_22 hk0 rfl rfl rfl rfl rfl dX3_read_31 rfl ?_
        refine V_iinc (q := 37) dX3_read_34 rfl (Nat.le_of_ble_eq_true rfl) trivial rfl ?_
        refine V_goto (q := 13) dX3_read_37 (by decide) ?_
        exact V_weak (ih h) (sb_s rfl (sb_s rfl (sb_s rfl sb_0)))
set_option maxHeartbeats 4000000 in
set_option maxRecDepth 100000 in
theorem kX3_read (d : Nat) (hd : 4 ≤ d) {l0 : Nat} (hk0 : kD l0 = (13, 3)) {μ : Mm} {r : Int} {μ' : Mm} (h : X3_read l0 μ = some (r, μ')) : CC d mX3_read [vR l0, vR 3] μ r μ' := by
  unfold X3_read at h
  refine V_enter (by decide) (Nat.le_of_ble_eq_true rfl) ?_
  show VV d mX3_read 0 [some (vR l0), some (vR 3), none] [] μ r μ'
  refine V_aload_n (q := 1) dX3_read_0 rfl rfl rfl ?_
  refine V_iconst (q := 2) dX3_read_1 rfl rfl ?_
  have h := sF_i h
  refine V_putI (q := 5) fl_X3_18 hk0 rfl rfl dX3_read_2 rfl ?_
  refine V_aload_n (q := 6) dX3_read_5 rfl rfl rfl ?_
  refine V_aload_n (q := 7) dX3_read_6 rfl rfl rfl ?_
  refine V_iconst (q := 8) dX3_read_7 rfl rfl ?_
  obtain ⟨v2, μ3, hc4, h⟩ := bd_i h
  refine V_cV0 (q := 11) (kX3_readCue (d - 1) (by omega) hk0 hc4) (by omega) mv_X3_22 hk0 rfl rfl rfl rfl rfl dX3_read_8 rfl ?_
  refine V_iconst (q := 12) dX3_read_11 rfl rfl ?_
  refine V_istore_n (q := 13) dX3_read_12 rfl (Nat.le_of_ble_eq_true rfl) trivial rfl ?_
  refine V_weak (kX3_read_L13 d hd hk0 (fun μ13 h => ?_) FU h) (sb_s rfl (sb_s rfl (sb_s rfl sb_0)))
  refine V_aload_n (q := 41) dX3_read_40 rfl rfl rfl ?_
  obtain ⟨v14, μ15, hc16, h⟩ := bd_i h
  refine V_cV0 (q := 44) (kX4_needEnd (d - 1) (by omega) hc16) (by omega) mv_X3_32 rfl rfl rfl rfl rfl rfl dX3_read_41 rfl ?_
  refine V_aload_n (q := 45) dX3_read_44 rfl rfl rfl ?_
  refine V_getI (q := 48) fl_X3_35 rfl rfl rfl dX3_read_45 rfl ?_
  exact V_iret rfl h dX3_read_48
abbrev mX5_takeOrder : Mth := (yX5_takeOrder, cX5_takeOrder, 7, some .boolean)
set_option maxRecDepth 100000 in
theorem mi_X5_takeOrder : Cond.instanceMethod yX5_takeOrder ∈ tG ∧ Cond.selects yX5_takeOrder.cls yX5_takeOrder yX5_takeOrder ∈ tG ∧ Cond.initialized yX5_takeOrder.cls ∈ tG ∧ Cond.code yX5_takeOrder cX5_takeOrder 7 (some .boolean) ∈ tG ∧ (yX5_takeOrder.cls ≠ "java/lang/invoke/MethodHandle" ∧ yX5_takeOrder.cls ≠ "java/lang/invoke/VarHandle" ∧ (parseMethodDescriptor yX5_takeOrder.desc).map (fun d => d.parameters.length) = some 2) ∧ 7 ≤ 60 := ⟨(tG_of (tb4 (List.mem_of_getElem? (i := 8) rfl)) (by decide +kernel)), (tG_of (tb4 (List.mem_of_getElem? (i := 9) rfl)) (by decide +kernel)), (tG_of (tb1 (List.mem_of_getElem? (i := 9) rfl)) (by decide +kernel)), (tG_of (tb4 (List.mem_of_getElem? (i := 10) rfl)) (by decide +kernel)), ⟨by decide, by decide, by decide +kernel⟩, by decide⟩
set_option maxRecDepth 100000 in
theorem mv_X10_291 : mV RX10 291 mX5_takeOrder 2 := ⟨(tG_of (tb4 (List.mem_of_getElem? (i := 7) rfl)) (by decide +kernel)), mi_X5_takeOrder⟩
theorem dX5_takeOrder_0 : decode cX5_takeOrder 0 = .ok (.iload_n 1, 1) := dc_27 (byA eNcX5_takeOrder (p := 0) (v := 27) (by decide +kernel))
theorem dX5_takeOrder_1 : decode cX5_takeOrder 1 = .ok (.istore_n 3, 1) := dc_62 (byA eNcX5_takeOrder (p := 1) (v := 62) (by decide +kernel))
theorem dX5_takeOrder_2 : decode cX5_takeOrder 2 = .ok (.iconst 0, 1) := dc_3 (byA eNcX5_takeOrder (p := 2) (v := 3) (by decide +kernel))
theorem dX5_takeOrder_3 : decode cX5_takeOrder 3 = .ok (.istore 4, 2) := dc_54 (byA eNcX5_takeOrder (p := 3) (v := 54) (by decide +kernel)) (byA eNcX5_takeOrder (p := 4) (v := 4) (by decide +kernel))
theorem dX5_takeOrder_5 : decode cX5_takeOrder 5 = .ok (.aload_n 0, 1) := dc_42 (byA eNcX5_takeOrder (p := 5) (v := 42) (by decide +kernel))
theorem dX5_takeOrder_6 : decode cX5_takeOrder 6 = .ok (.iload_n 2, 1) := dc_28 (byA eNcX5_takeOrder (p := 6) (v := 28) (by decide +kernel))
theorem dX5_takeOrder_7 : decode cX5_takeOrder 7 = .ok (.putfield 21, 3) := dc_181 (byA eNcX5_takeOrder (p := 7) (v := 181) (by decide +kernel)) (byA eNcX5_takeOrder (p := 8) (v := 0) (by decide +kernel)) (byA eNcX5_takeOrder (p := 9) (v := 21) (by decide +kernel)) rfl
theorem dX5_takeOrder_10 : decode cX5_takeOrder 10 = .ok (.iload_n 2, 1) := dc_28 (byA eNcX5_takeOrder (p := 10) (v := 28) (by decide +kernel))
theorem dX5_takeOrder_11 : decode cX5_takeOrder 11 = .ok (.iconst 1, 1) := dc_4 (byA eNcX5_takeOrder (p := 11) (v := 4) (by decide +kernel))
theorem dX5_takeOrder_12 : decode cX5_takeOrder 12 = .ok (.isub, 1) := dc_100 (byA eNcX5_takeOrder (p := 12) (v := 100) (by decide +kernel))
theorem dX5_takeOrder_13 : decode cX5_takeOrder 13 = .ok (.istore 5, 2) := dc_54 (byA eNcX5_takeOrder (p := 13) (v := 54) (by decide +kernel)) (byA eNcX5_takeOrder (p := 14) (v := 5) (by decide +kernel))
theorem dX5_takeOrder_15 : decode cX5_takeOrder 15 = .ok (.iload 5, 2) := dc_21 (byA eNcX5_takeOrder (p := 15) (v := 21) (by decide +kernel)) (byA eNcX5_takeOrder (p := 16) (v := 5) (by decide +kernel))
theorem dX5_takeOrder_17 : decode cX5_takeOrder 17 = .ok (.ifCond .lt 69, 3) := dc_155 (byA eNcX5_takeOrder (p := 17) (v := 155) (by decide +kernel)) (byA eNcX5_takeOrder (p := 18) (v := 0) (by decide +kernel)) (byA eNcX5_takeOrder (p := 19) (v := 69) (by decide +kernel)) (by decide +kernel)
theorem dX5_takeOrder_20 : decode cX5_takeOrder 20 = .ok (.iload 5, 2) := dc_21 (byA eNcX5_takeOrder (p := 20) (v := 21) (by decide +kernel)) (byA eNcX5_takeOrder (p := 21) (v := 5) (by decide +kernel))
theorem dX5_takeOrder_22 : decode cX5_takeOrder 22 = .ok (.bipush 8, 2) := dc_16 (byA eNcX5_takeOrder (p := 22) (v := 16) (by decide +kernel)) (byA eNcX5_takeOrder (p := 23) (v := 8) (by decide +kernel)) (by decide +kernel)
theorem dX5_takeOrder_24 : decode cX5_takeOrder 24 = .ok (.if_icmp .ge 62, 3) := dc_162 (byA eNcX5_takeOrder (p := 24) (v := 162) (by decide +kernel)) (byA eNcX5_takeOrder (p := 25) (v := 0) (by decide +kernel)) (byA eNcX5_takeOrder (p := 26) (v := 62) (by decide +kernel)) (by decide +kernel)
theorem dX5_takeOrder_27 : decode cX5_takeOrder 27 = .ok (.iload_n 3, 1) := dc_29 (byA eNcX5_takeOrder (p := 27) (v := 29) (by decide +kernel))
theorem dX5_takeOrder_28 : decode cX5_takeOrder 28 = .ok (.bipush 10, 2) := dc_16 (byA eNcX5_takeOrder (p := 28) (v := 16) (by decide +kernel)) (byA eNcX5_takeOrder (p := 29) (v := 10) (by decide +kernel)) (by decide +kernel)
theorem dX5_takeOrder_30 : decode cX5_takeOrder 30 = .ok (.irem, 1) := dc_112 (byA eNcX5_takeOrder (p := 30) (v := 112) (by decide +kernel))
theorem dX5_takeOrder_31 : decode cX5_takeOrder 31 = .ok (.istore 6, 2) := dc_54 (byA eNcX5_takeOrder (p := 31) (v := 54) (by decide +kernel)) (byA eNcX5_takeOrder (p := 32) (v := 6) (by decide +kernel))
theorem dX5_takeOrder_33 : decode cX5_takeOrder 33 = .ok (.iload_n 3, 1) := dc_29 (byA eNcX5_takeOrder (p := 33) (v := 29) (by decide +kernel))
theorem dX5_takeOrder_34 : decode cX5_takeOrder 34 = .ok (.bipush 10, 2) := dc_16 (byA eNcX5_takeOrder (p := 34) (v := 16) (by decide +kernel)) (byA eNcX5_takeOrder (p := 35) (v := 10) (by decide +kernel)) (by decide +kernel)
theorem dX5_takeOrder_36 : decode cX5_takeOrder 36 = .ok (.idiv, 1) := dc_108 (byA eNcX5_takeOrder (p := 36) (v := 108) (by decide +kernel))
theorem dX5_takeOrder_37 : decode cX5_takeOrder 37 = .ok (.istore_n 3, 1) := dc_62 (byA eNcX5_takeOrder (p := 37) (v := 62) (by decide +kernel))
theorem dX5_takeOrder_38 : decode cX5_takeOrder 38 = .ok (.iload 6, 2) := dc_21 (byA eNcX5_takeOrder (p := 38) (v := 21) (by decide +kernel)) (byA eNcX5_takeOrder (p := 39) (v := 6) (by decide +kernel))
theorem dX5_takeOrder_40 : decode cX5_takeOrder 40 = .ok (.ifCond .lt 20, 3) := dc_155 (byA eNcX5_takeOrder (p := 40) (v := 155) (by decide +kernel)) (byA eNcX5_takeOrder (p := 41) (v := 0) (by decide +kernel)) (byA eNcX5_takeOrder (p := 42) (v := 20) (by decide +kernel)) (by decide +kernel)
theorem dX5_takeOrder_43 : decode cX5_takeOrder 43 = .ok (.iload 6, 2) := dc_21 (byA eNcX5_takeOrder (p := 43) (v := 21) (by decide +kernel)) (byA eNcX5_takeOrder (p := 44) (v := 6) (by decide +kernel))
theorem dX5_takeOrder_45 : decode cX5_takeOrder 45 = .ok (.iload_n 2, 1) := dc_28 (byA eNcX5_takeOrder (p := 45) (v := 28) (by decide +kernel))
theorem dX5_takeOrder_46 : decode cX5_takeOrder 46 = .ok (.if_icmp .ge 14, 3) := dc_162 (byA eNcX5_takeOrder (p := 46) (v := 162) (by decide +kernel)) (byA eNcX5_takeOrder (p := 47) (v := 0) (by decide +kernel)) (byA eNcX5_takeOrder (p := 48) (v := 14) (by decide +kernel)) (by decide +kernel)
theorem dX5_takeOrder_49 : decode cX5_takeOrder 49 = .ok (.iload 4, 2) := dc_21 (byA eNcX5_takeOrder (p := 49) (v := 21) (by decide +kernel)) (byA eNcX5_takeOrder (p := 50) (v := 4) (by decide +kernel))
theorem dX5_takeOrder_51 : decode cX5_takeOrder 51 = .ok (.iload 6, 2) := dc_21 (byA eNcX5_takeOrder (p := 51) (v := 21) (by decide +kernel)) (byA eNcX5_takeOrder (p := 52) (v := 6) (by decide +kernel))
theorem dX5_takeOrder_53 : decode cX5_takeOrder 53 = .ok (.ishr, 1) := dc_122 (byA eNcX5_takeOrder (p := 53) (v := 122) (by decide +kernel))
theorem dX5_takeOrder_54 : decode cX5_takeOrder 54 = .ok (.iconst 1, 1) := dc_4 (byA eNcX5_takeOrder (p := 54) (v := 4) (by decide +kernel))
theorem dX5_takeOrder_55 : decode cX5_takeOrder 55 = .ok (.iand, 1) := dc_126 (byA eNcX5_takeOrder (p := 55) (v := 126) (by decide +kernel))
theorem dX5_takeOrder_56 : decode cX5_takeOrder 56 = .ok (.iconst 1, 1) := dc_4 (byA eNcX5_takeOrder (p := 56) (v := 4) (by decide +kernel))
theorem dX5_takeOrder_57 : decode cX5_takeOrder 57 = .ok (.if_icmp .ne 5, 3) := dc_160 (byA eNcX5_takeOrder (p := 57) (v := 160) (by decide +kernel)) (byA eNcX5_takeOrder (p := 58) (v := 0) (by decide +kernel)) (byA eNcX5_takeOrder (p := 59) (v := 5) (by decide +kernel)) (by decide +kernel)
theorem dX5_takeOrder_60 : decode cX5_takeOrder 60 = .ok (.iconst 0, 1) := dc_3 (byA eNcX5_takeOrder (p := 60) (v := 3) (by decide +kernel))
theorem dX5_takeOrder_61 : decode cX5_takeOrder 61 = .ok (.ireturn, 1) := dc_172 (byA eNcX5_takeOrder (p := 61) (v := 172) (by decide +kernel))
theorem dX5_takeOrder_62 : decode cX5_takeOrder 62 = .ok (.iload 4, 2) := dc_21 (byA eNcX5_takeOrder (p := 62) (v := 21) (by decide +kernel)) (byA eNcX5_takeOrder (p := 63) (v := 4) (by decide +kernel))
theorem dX5_takeOrder_64 : decode cX5_takeOrder 64 = .ok (.iconst 1, 1) := dc_4 (byA eNcX5_takeOrder (p := 64) (v := 4) (by decide +kernel))
theorem dX5_takeOrder_65 : decode cX5_takeOrder 65 = .ok (.iload 6, 2) := dc_21 (byA eNcX5_takeOrder (p := 65) (v := 21) (by decide +kernel)) (byA eNcX5_takeOrder (p := 66) (v := 6) (by decide +kernel))
theorem dX5_takeOrder_67 : decode cX5_takeOrder 67 = .ok (.ishl, 1) := dc_120 (byA eNcX5_takeOrder (p := 67) (v := 120) (by decide +kernel))
theorem dX5_takeOrder_68 : decode cX5_takeOrder 68 = .ok (.ior, 1) := dc_128 (byA eNcX5_takeOrder (p := 68) (v := 128) (by decide +kernel))
theorem dX5_takeOrder_69 : decode cX5_takeOrder 69 = .ok (.istore 4, 2) := dc_54 (byA eNcX5_takeOrder (p := 69) (v := 54) (by decide +kernel)) (byA eNcX5_takeOrder (p := 70) (v := 4) (by decide +kernel))
theorem dX5_takeOrder_71 : decode cX5_takeOrder 71 = .ok (.aload_n 0, 1) := dc_42 (byA eNcX5_takeOrder (p := 71) (v := 42) (by decide +kernel))
theorem dX5_takeOrder_72 : decode cX5_takeOrder 72 = .ok (.getfield 9, 3) := dc_180 (byA eNcX5_takeOrder (p := 72) (v := 180) (by decide +kernel)) (byA eNcX5_takeOrder (p := 73) (v := 0) (by decide +kernel)) (byA eNcX5_takeOrder (p := 74) (v := 9) (by decide +kernel)) rfl
theorem dX5_takeOrder_75 : decode cX5_takeOrder 75 = .ok (.iload 5, 2) := dc_21 (byA eNcX5_takeOrder (p := 75) (v := 21) (by decide +kernel)) (byA eNcX5_takeOrder (p := 76) (v := 5) (by decide +kernel))
theorem dX5_takeOrder_77 : decode cX5_takeOrder 77 = .ok (.iload 6, 2) := dc_21 (byA eNcX5_takeOrder (p := 77) (v := 21) (by decide +kernel)) (byA eNcX5_takeOrder (p := 78) (v := 6) (by decide +kernel))
theorem dX5_takeOrder_79 : decode cX5_takeOrder 79 = .ok (.iastore, 1) := dc_79 (byA eNcX5_takeOrder (p := 79) (v := 79) (by decide +kernel))
theorem dX5_takeOrder_80 : decode cX5_takeOrder 80 = .ok (.iinc 5 (-1), 3) := dc_132 (byA eNcX5_takeOrder (p := 80) (v := 132) (by decide +kernel)) (byA eNcX5_takeOrder (p := 81) (v := 5) (by decide +kernel)) (byA eNcX5_takeOrder (p := 82) (v := 255) (by decide +kernel)) (by decide +kernel)
theorem dX5_takeOrder_83 : decode cX5_takeOrder 83 = .ok (.goto (-68), 3) := dc_167 (byA eNcX5_takeOrder (p := 83) (v := 167) (by decide +kernel)) (byA eNcX5_takeOrder (p := 84) (v := 255) (by decide +kernel)) (byA eNcX5_takeOrder (p := 85) (v := 188) (by decide +kernel)) (by decide +kernel)
theorem dX5_takeOrder_86 : decode cX5_takeOrder 86 = .ok (.iload_n 3, 1) := dc_29 (byA eNcX5_takeOrder (p := 86) (v := 29) (by decide +kernel))
theorem dX5_takeOrder_87 : decode cX5_takeOrder 87 = .ok (.ifCond .ne 7, 3) := dc_154 (byA eNcX5_takeOrder (p := 87) (v := 154) (by decide +kernel)) (byA eNcX5_takeOrder (p := 88) (v := 0) (by decide +kernel)) (byA eNcX5_takeOrder (p := 89) (v := 7) (by decide +kernel)) (by decide +kernel)
theorem dX5_takeOrder_90 : decode cX5_takeOrder 90 = .ok (.iconst 1, 1) := dc_4 (byA eNcX5_takeOrder (p := 90) (v := 4) (by decide +kernel))
theorem dX5_takeOrder_91 : decode cX5_takeOrder 91 = .ok (.goto 4, 3) := dc_167 (byA eNcX5_takeOrder (p := 91) (v := 167) (by decide +kernel)) (byA eNcX5_takeOrder (p := 92) (v := 0) (by decide +kernel)) (byA eNcX5_takeOrder (p := 93) (v := 4) (by decide +kernel)) (by decide +kernel)
theorem dX5_takeOrder_94 : decode cX5_takeOrder 94 = .ok (.iconst 0, 1) := dc_3 (byA eNcX5_takeOrder (p := 94) (v := 3) (by decide +kernel))
theorem dX5_takeOrder_95 : decode cX5_takeOrder 95 = .ok (.ireturn, 1) := dc_172 (byA eNcX5_takeOrder (p := 95) (v := 172) (by decide +kernel))
def X5_takeOrder_L15 (l2 : Int) (k86 : Int → Mm → Rs) : Nat → Int → Int → Int → Mm → Rs
  | 0, _, _, _, _ => none
  | n + 1, l3, l4, l5, μ => if l5 < 0 then (k86 l3 μ) else (if 8 ≤ l5 then (k86 l3 μ) else (if (iR l3 10) < 0 then (some (0, μ)) else (if l2 ≤ (iR l3 10) then (some (0, μ)) else (if (bA (bR l4 (iR l3 10)) 1) = 1 then (some (0, μ)) else (lt_ (bO l4 (bL 1 (iR l3 10))) fun v7 => stA μ 59 l5 (iR l3 10) fun μ8 => X5_takeOrder_L15 l2 k86 n (iD l3 10) v7 (iA l5 (-1)) μ8)))))
def X5_takeOrder (l1 : Int) (l2 : Int) (μ : Mm) : Rs := sF μ 58 3 l2 fun μ1 => X5_takeOrder_L15 l2 (fun v10 μ11 => if v10 = 0 then (some (1, μ11)) else (some (0, μ11))) FU l1 0 (iS l2 1) μ1
set_option maxHeartbeats 4000000 in
set_option maxRecDepth 100000 in
theorem kX5_takeOrder_L15 (d : Nat) (hd : 1 ≤ d) {l2 : Int} {k86 : Int → Mm → Rs} {r : Int} {μ' : Mm} (hk_86 : ∀ (v3 : Int) (μ1 : Mm), k86 v3 μ1 = some (r, μ') → VV d mX5_takeOrder 86 [none, none, none, some (vI v3), none, none, none] [] μ1 r μ') : ∀ (n : Nat) {l3 l4 l5 : Int} {μ : Mm}, X5_takeOrder_L15 l2 k86 n l3 l4 l5 μ = some (r, μ') → VV d mX5_takeOrder 15 [some (vR 58), none, some (vI l2), some (vI l3), some (vI l4), some (vI l5), none] [] μ r μ' := by
  intro n
  induction n with
  | zero => intro l3 l4 l5 μ h; rw [X5_takeOrder_L15] at h; cases h
  | succ n ih =>
    intro l3 l4 l5 μ h
    rw [X5_takeOrder_L15] at h
    refine V_iload (q := 17) dX5_takeOrder_15 rfl rfl ?_
    refine V_iflt (q := 86) (q2 := 20) dX5_takeOrder_17 (by decide) rfl (fun hc2 => ?_) (fun hc2 => ?_)
    · have h := ifT hc2 h
      exact V_weak (hk_86 _ _ h) (sb_n (sb_n (sb_n (sb_s rfl (sb_n (sb_n (sb_n sb_0)))))))
    · have h := ifF hc2 h
      refine V_iload (q := 22) dX5_takeOrder_20 rfl rfl ?_
      refine V_bipush (q := 24) dX5_takeOrder_22 rfl rfl rfl ?_
      refine V_icmpge (q := 86) (q2 := 27) dX5_takeOrder_24 (by decide) rfl (fun hc3 => ?_) (fun hc3 => ?_)
      · have h := ifT hc3 h
        exact V_weak (hk_86 _ _ h) (sb_n (sb_n (sb_n (sb_s rfl (sb_n (sb_n (sb_n sb_0)))))))
      · have h := ifF hc3 h
        refine V_iload_n (q := 28) dX5_takeOrder_27 rfl rfl rfl ?_
        refine V_bipush (q := 30) dX5_takeOrder_28 rfl rfl rfl ?_
        refine V_irem (q := 31) dX5_takeOrder_30 (by decide) rfl ?_
        refine V_istore (q := 33) dX5_takeOrder_31 (Nat.le_of_ble_eq_true rfl) trivial rfl ?_
        refine V_iload_n (q := 34) dX5_takeOrder_33 rfl rfl rfl ?_
        refine V_bipush (q := 36) dX5_takeOrder_34 rfl rfl rfl ?_
        refine V_idiv (q := 37) dX5_takeOrder_36 (by decide) rfl ?_
        refine V_istore_n (q := 38) dX5_takeOrder_37 rfl (Nat.le_of_ble_eq_true rfl) trivial rfl ?_
        refine V_iload (q := 40) dX5_takeOrder_38 rfl rfl ?_
        refine V_iflt (q := 60) (q2 := 43) dX5_takeOrder_40 (by decide) rfl (fun hc4 => ?_) (fun hc4 => ?_)
        · have h := ifT hc4 h
          refine V_iconst (q := 61) dX5_takeOrder_60 rfl rfl ?_
          exact V_zret rfl (Or.inl rfl) h dX5_takeOrder_61
        · have h := ifF hc4 h
          refine V_iload (q := 45) dX5_takeOrder_43 rfl rfl ?_
          refine V_iload_n (q := 46) dX5_takeOrder_45 rfl rfl rfl ?_
          refine V_icmpge (q := 60) (q2 := 49) dX5_takeOrder_46 (by decide) rfl (fun hc5 => ?_) (fun hc5 => ?_)
          · have h := ifT hc5 h
            refine V_iconst (q := 61) dX5_takeOrder_60 rfl rfl ?_
            exact V_zret rfl (Or.inl rfl) h dX5_takeOrder_61
          · have h := ifF hc5 h
            refine V_iload (q := 51) dX5_takeOrder_49 rfl rfl ?_
            refine V_iload (q := 53) dX5_takeOrder_51 rfl rfl ?_
            refine V_ishr (q := 54) dX5_takeOrder_53 rfl ?_
            refine V_iconst (q := 55) dX5_takeOrder_54 rfl rfl ?_
            refine V_iand (q := 56) dX5_takeOrder_55 rfl ?_
            refine V_iconst (q := 57) dX5_takeOrder_56 rfl rfl ?_
            refine V_icmpne (q := 62) (q2 := 60) dX5_takeOrder_57 (by decide) rfl (fun hc6 => ?_) (fun hc6 => ?_)
            · have h := ifF hc6 h
              refine V_iload (q := 64) dX5_takeOrder_62 rfl rfl ?_
              refine V_iconst (q := 65) dX5_takeOrder_64 rfl rfl ?_
              refine V_iload (q := 67) dX5_takeOrder_65 rfl rfl ?_
              refine V_ishl (q := 68) dX5_takeOrder_67 rfl ?_
              refine V_ior (q := 69) dX5_takeOrder_68 rfl ?_
              have h := lt_i h
              refine V_istore (q := 71) dX5_takeOrder_69 (Nat.le_of_ble_eq_true rfl) trivial rfl ?_
              refine V_aload_n (q := 72) dX5_takeOrder_71 rfl rfl rfl ?_
              refine V_getO (q := 75) (t := 59) fl_X5_9 rfl rfl rfl rfl dX5_takeOrder_72 rfl ?_
              refine V_iload (q := 77) dX5_takeOrder_75 rfl rfl ?_
              refine V_iload (q := 79) dX5_takeOrder_77 rfl rfl ?_
              obtain ⟨hi9, h⟩ := stA_i h
              refine V_iastore (q := 80) rfl hi9 dX5_takeOrder_79 rfl ?_
              refine V_iinc (q := 83) dX5_takeOrder_80 rfl (Nat.le_of_ble_eq_true rfl) trivial rfl ?_
              refine V_goto (q := 15) dX5_takeOrder_83 (by decide) ?_
              exact V_weak (ih h) (sb_s rfl (sb_n (sb_s rfl (sb_s rfl (sb_s rfl (sb_s rfl (sb_n sb_0)))))))
            · have h := ifT hc6 h
              refine V_iconst (q := 61) dX5_takeOrder_60 rfl rfl ?_
              exact V_zret rfl (Or.inl rfl) h dX5_takeOrder_61
set_option maxHeartbeats 4000000 in
set_option maxRecDepth 100000 in
theorem kX5_takeOrder (d : Nat) (hd : 1 ≤ d) {l1 : Int} {l2 : Int} {μ : Mm} {r : Int} {μ' : Mm} (h : X5_takeOrder l1 l2 μ = some (r, μ')) : CC d mX5_takeOrder [vR 58, vI l1, vI l2] μ r μ' := by
  unfold X5_takeOrder at h
  refine V_enter (by decide) (Nat.le_of_ble_eq_true rfl) ?_
  show VV d mX5_takeOrder 0 [some (vR 58), some (vI l1), some (vI l2), none, none, none, none] [] μ r μ'
  refine V_iload_n (q := 1) dX5_takeOrder_0 rfl rfl rfl ?_
  refine V_istore_n (q := 2) dX5_takeOrder_1 rfl (Nat.le_of_ble_eq_true rfl) trivial rfl ?_
  refine V_iconst (q := 3) dX5_takeOrder_2 rfl rfl ?_
  refine V_istore (q := 5) dX5_takeOrder_3 (Nat.le_of_ble_eq_true rfl) trivial rfl ?_
  refine V_aload_n (q := 6) dX5_takeOrder_5 rfl rfl rfl ?_
  refine V_iload_n (q := 7) dX5_takeOrder_6 rfl rfl rfl ?_
  have h := sF_i h
  refine V_putI (q := 10) fl_X5_21 rfl rfl rfl dX5_takeOrder_7 rfl ?_
  refine V_iload_n (q := 11) dX5_takeOrder_10 rfl rfl rfl ?_
  refine V_iconst (q := 12) dX5_takeOrder_11 rfl rfl ?_
  refine V_isub (q := 13) dX5_takeOrder_12 rfl ?_
  refine V_istore (q := 15) dX5_takeOrder_13 (Nat.le_of_ble_eq_true rfl) trivial rfl ?_
  refine V_weak (kX5_takeOrder_L15 d hd (fun v10 μ11 h => ?_) FU h) (sb_s rfl (sb_n (sb_s rfl (sb_s rfl (sb_s rfl (sb_s rfl (sb_n sb_0)))))))
  refine V_iload_n (q := 87) dX5_takeOrder_86 rfl rfl rfl ?_
  refine V_ifne (q := 94) (q2 := 90) dX5_takeOrder_87 (by decide) rfl (fun hc12 => ?_) (fun hc12 => ?_)
  · have h := ifF hc12 h
    refine V_iconst (q := 95) dX5_takeOrder_94 rfl rfl ?_
    exact V_zret rfl (Or.inl rfl) h dX5_takeOrder_95
  · have h := ifT hc12 h
    refine V_iconst (q := 91) dX5_takeOrder_90 rfl rfl ?_
    refine V_goto (q := 95) dX5_takeOrder_91 (by decide) ?_
    exact V_zret rfl (Or.inr rfl) h dX5_takeOrder_95
abbrev mX5_takeBook : Mth := (yX5_takeBook, cX5_takeBook, 4, none)
set_option maxRecDepth 100000 in
theorem mi_X5_takeBook : Cond.instanceMethod yX5_takeBook ∈ tG ∧ Cond.selects yX5_takeBook.cls yX5_takeBook yX5_takeBook ∈ tG ∧ Cond.initialized yX5_takeBook.cls ∈ tG ∧ Cond.code yX5_takeBook cX5_takeBook 4 (none) ∈ tG ∧ (yX5_takeBook.cls ≠ "java/lang/invoke/MethodHandle" ∧ yX5_takeBook.cls ≠ "java/lang/invoke/VarHandle" ∧ (parseMethodDescriptor yX5_takeBook.desc).map (fun d => d.parameters.length) = some 2) ∧ 4 ≤ 60 := ⟨(tG_of (tb4 (List.mem_of_getElem? (i := 120) rfl)) (by decide +kernel)), (tG_of (tb4 (List.mem_of_getElem? (i := 121) rfl)) (by decide +kernel)), (tG_of (tb1 (List.mem_of_getElem? (i := 9) rfl)) (by decide +kernel)), (tG_of (tb4 (List.mem_of_getElem? (i := 122) rfl)) (by decide +kernel)), ⟨by decide, by decide, by decide +kernel⟩, by decide⟩
set_option maxRecDepth 100000 in
theorem mv_X10_298 : mV RX10 298 mX5_takeBook 2 := ⟨(tG_of (tb4 (List.mem_of_getElem? (i := 119) rfl)) (by decide +kernel)), mi_X5_takeBook⟩
theorem dX5_takeBook_0 : decode cX5_takeBook 0 = .ok (.aload_n 0, 1) := dc_42 (byA eNcX5_takeBook (p := 0) (v := 42) (by decide +kernel))
theorem dX5_takeBook_1 : decode cX5_takeBook 1 = .ok (.iconst 0, 1) := dc_3 (byA eNcX5_takeBook (p := 1) (v := 3) (by decide +kernel))
theorem dX5_takeBook_2 : decode cX5_takeBook 2 = .ok (.putfield 21, 3) := dc_181 (byA eNcX5_takeBook (p := 2) (v := 181) (by decide +kernel)) (byA eNcX5_takeBook (p := 3) (v := 0) (by decide +kernel)) (byA eNcX5_takeBook (p := 4) (v := 21) (by decide +kernel)) rfl
theorem dX5_takeBook_5 : decode cX5_takeBook 5 = .ok (.iconst 0, 1) := dc_3 (byA eNcX5_takeBook (p := 5) (v := 3) (by decide +kernel))
theorem dX5_takeBook_6 : decode cX5_takeBook 6 = .ok (.istore_n 3, 1) := dc_62 (byA eNcX5_takeBook (p := 6) (v := 62) (by decide +kernel))
theorem dX5_takeBook_7 : decode cX5_takeBook 7 = .ok (.iload_n 3, 1) := dc_29 (byA eNcX5_takeBook (p := 7) (v := 29) (by decide +kernel))
theorem dX5_takeBook_8 : decode cX5_takeBook 8 = .ok (.iload_n 2, 1) := dc_28 (byA eNcX5_takeBook (p := 8) (v := 28) (by decide +kernel))
theorem dX5_takeBook_9 : decode cX5_takeBook 9 = .ok (.if_icmp .ge 53, 3) := dc_162 (byA eNcX5_takeBook (p := 9) (v := 162) (by decide +kernel)) (byA eNcX5_takeBook (p := 10) (v := 0) (by decide +kernel)) (byA eNcX5_takeBook (p := 11) (v := 53) (by decide +kernel)) (by decide +kernel)
theorem dX5_takeBook_12 : decode cX5_takeBook 12 = .ok (.iload_n 3, 1) := dc_29 (byA eNcX5_takeBook (p := 12) (v := 29) (by decide +kernel))
theorem dX5_takeBook_13 : decode cX5_takeBook 13 = .ok (.bipush 8, 2) := dc_16 (byA eNcX5_takeBook (p := 13) (v := 16) (by decide +kernel)) (byA eNcX5_takeBook (p := 14) (v := 8) (by decide +kernel)) (by decide +kernel)
theorem dX5_takeBook_15 : decode cX5_takeBook 15 = .ok (.if_icmp .ge 47, 3) := dc_162 (byA eNcX5_takeBook (p := 15) (v := 162) (by decide +kernel)) (byA eNcX5_takeBook (p := 16) (v := 0) (by decide +kernel)) (byA eNcX5_takeBook (p := 17) (v := 47) (by decide +kernel)) (by decide +kernel)
theorem dX5_takeBook_18 : decode cX5_takeBook 18 = .ok (.iload_n 1, 1) := dc_27 (byA eNcX5_takeBook (p := 18) (v := 27) (by decide +kernel))
theorem dX5_takeBook_19 : decode cX5_takeBook 19 = .ok (.iload_n 3, 1) := dc_29 (byA eNcX5_takeBook (p := 19) (v := 29) (by decide +kernel))
theorem dX5_takeBook_20 : decode cX5_takeBook 20 = .ok (.ishr, 1) := dc_122 (byA eNcX5_takeBook (p := 20) (v := 122) (by decide +kernel))
theorem dX5_takeBook_21 : decode cX5_takeBook 21 = .ok (.iconst 1, 1) := dc_4 (byA eNcX5_takeBook (p := 21) (v := 4) (by decide +kernel))
theorem dX5_takeBook_22 : decode cX5_takeBook 22 = .ok (.iand, 1) := dc_126 (byA eNcX5_takeBook (p := 22) (v := 126) (by decide +kernel))
theorem dX5_takeBook_23 : decode cX5_takeBook 23 = .ok (.iconst 1, 1) := dc_4 (byA eNcX5_takeBook (p := 23) (v := 4) (by decide +kernel))
theorem dX5_takeBook_24 : decode cX5_takeBook 24 = .ok (.if_icmp .ne 32, 3) := dc_160 (byA eNcX5_takeBook (p := 24) (v := 160) (by decide +kernel)) (byA eNcX5_takeBook (p := 25) (v := 0) (by decide +kernel)) (byA eNcX5_takeBook (p := 26) (v := 32) (by decide +kernel)) (by decide +kernel)
theorem dX5_takeBook_27 : decode cX5_takeBook 27 = .ok (.aload_n 0, 1) := dc_42 (byA eNcX5_takeBook (p := 27) (v := 42) (by decide +kernel))
theorem dX5_takeBook_28 : decode cX5_takeBook 28 = .ok (.getfield 21, 3) := dc_180 (byA eNcX5_takeBook (p := 28) (v := 180) (by decide +kernel)) (byA eNcX5_takeBook (p := 29) (v := 0) (by decide +kernel)) (byA eNcX5_takeBook (p := 30) (v := 21) (by decide +kernel)) rfl
theorem dX5_takeBook_31 : decode cX5_takeBook 31 = .ok (.bipush 8, 2) := dc_16 (byA eNcX5_takeBook (p := 31) (v := 16) (by decide +kernel)) (byA eNcX5_takeBook (p := 32) (v := 8) (by decide +kernel)) (by decide +kernel)
theorem dX5_takeBook_33 : decode cX5_takeBook 33 = .ok (.if_icmp .ge 23, 3) := dc_162 (byA eNcX5_takeBook (p := 33) (v := 162) (by decide +kernel)) (byA eNcX5_takeBook (p := 34) (v := 0) (by decide +kernel)) (byA eNcX5_takeBook (p := 35) (v := 23) (by decide +kernel)) (by decide +kernel)
theorem dX5_takeBook_36 : decode cX5_takeBook 36 = .ok (.aload_n 0, 1) := dc_42 (byA eNcX5_takeBook (p := 36) (v := 42) (by decide +kernel))
theorem dX5_takeBook_37 : decode cX5_takeBook 37 = .ok (.getfield 9, 3) := dc_180 (byA eNcX5_takeBook (p := 37) (v := 180) (by decide +kernel)) (byA eNcX5_takeBook (p := 38) (v := 0) (by decide +kernel)) (byA eNcX5_takeBook (p := 39) (v := 9) (by decide +kernel)) rfl
theorem dX5_takeBook_40 : decode cX5_takeBook 40 = .ok (.aload_n 0, 1) := dc_42 (byA eNcX5_takeBook (p := 40) (v := 42) (by decide +kernel))
theorem dX5_takeBook_41 : decode cX5_takeBook 41 = .ok (.getfield 21, 3) := dc_180 (byA eNcX5_takeBook (p := 41) (v := 180) (by decide +kernel)) (byA eNcX5_takeBook (p := 42) (v := 0) (by decide +kernel)) (byA eNcX5_takeBook (p := 43) (v := 21) (by decide +kernel)) rfl
theorem dX5_takeBook_44 : decode cX5_takeBook 44 = .ok (.iload_n 3, 1) := dc_29 (byA eNcX5_takeBook (p := 44) (v := 29) (by decide +kernel))
theorem dX5_takeBook_45 : decode cX5_takeBook 45 = .ok (.iastore, 1) := dc_79 (byA eNcX5_takeBook (p := 45) (v := 79) (by decide +kernel))
theorem dX5_takeBook_46 : decode cX5_takeBook 46 = .ok (.aload_n 0, 1) := dc_42 (byA eNcX5_takeBook (p := 46) (v := 42) (by decide +kernel))
theorem dX5_takeBook_47 : decode cX5_takeBook 47 = .ok (.dup, 1) := dc_89 (byA eNcX5_takeBook (p := 47) (v := 89) (by decide +kernel))
theorem dX5_takeBook_48 : decode cX5_takeBook 48 = .ok (.getfield 21, 3) := dc_180 (byA eNcX5_takeBook (p := 48) (v := 180) (by decide +kernel)) (byA eNcX5_takeBook (p := 49) (v := 0) (by decide +kernel)) (byA eNcX5_takeBook (p := 50) (v := 21) (by decide +kernel)) rfl
theorem dX5_takeBook_51 : decode cX5_takeBook 51 = .ok (.iconst 1, 1) := dc_4 (byA eNcX5_takeBook (p := 51) (v := 4) (by decide +kernel))
theorem dX5_takeBook_52 : decode cX5_takeBook 52 = .ok (.iadd, 1) := dc_96 (byA eNcX5_takeBook (p := 52) (v := 96) (by decide +kernel))
theorem dX5_takeBook_53 : decode cX5_takeBook 53 = .ok (.putfield 21, 3) := dc_181 (byA eNcX5_takeBook (p := 53) (v := 181) (by decide +kernel)) (byA eNcX5_takeBook (p := 54) (v := 0) (by decide +kernel)) (byA eNcX5_takeBook (p := 55) (v := 21) (by decide +kernel)) rfl
theorem dX5_takeBook_56 : decode cX5_takeBook 56 = .ok (.iinc 3 1, 3) := dc_132 (byA eNcX5_takeBook (p := 56) (v := 132) (by decide +kernel)) (byA eNcX5_takeBook (p := 57) (v := 3) (by decide +kernel)) (byA eNcX5_takeBook (p := 58) (v := 1) (by decide +kernel)) (by decide +kernel)
theorem dX5_takeBook_59 : decode cX5_takeBook 59 = .ok (.goto (-52), 3) := dc_167 (byA eNcX5_takeBook (p := 59) (v := 167) (by decide +kernel)) (byA eNcX5_takeBook (p := 60) (v := 255) (by decide +kernel)) (byA eNcX5_takeBook (p := 61) (v := 204) (by decide +kernel)) (by decide +kernel)
theorem dX5_takeBook_62 : decode cX5_takeBook 62 = .ok (.return_, 1) := dc_177 (byA eNcX5_takeBook (p := 62) (v := 177) (by decide +kernel))
def X5_takeBook_L7 (l1 : Int) (l2 : Int) : Nat → Int → Mm → Rs
  | 0, _, _ => none
  | n + 1, l3, μ => if l2 ≤ l3 then (some (0, μ)) else (if 8 ≤ l3 then (some (0, μ)) else (if (bA (bR l1 l3) 1) = 1 then (if 8 ≤ (μ 58 3) then (X5_takeBook_L7 l1 l2 n (iA l3 1) μ) else (stA μ 59 (μ 58 3) l3 fun μ6 => sF μ6 58 3 (iA (μ6 58 3) 1) fun μ8 => X5_takeBook_L7 l1 l2 n (iA l3 1) μ8)) else (X5_takeBook_L7 l1 l2 n (iA l3 1) μ)))
def X5_takeBook (l1 : Int) (l2 : Int) (μ : Mm) : Rs := sF μ 58 3 0 fun μ1 => X5_takeBook_L7 l1 l2 FU 0 μ1
set_option maxHeartbeats 4000000 in
set_option maxRecDepth 100000 in
theorem kX5_takeBook_L7 (d : Nat) (hd : 1 ≤ d) {l1 : Int} {l2 : Int} {r : Int} {μ' : Mm} : ∀ (n : Nat) {l3 : Int} {μ : Mm}, X5_takeBook_L7 l1 l2 n l3 μ = some (r, μ') → VV d mX5_takeBook 7 [some (vR 58), some (vI l1), some (vI l2), some (vI l3)] [] μ r μ' := by
  intro n
  induction n with
  | zero => intro l3 μ h; rw [X5_takeBook_L7] at h; cases h
  | succ n ih =>
    intro l3 μ h
    rw [X5_takeBook_L7] at h
    refine V_iload_n (q := 8) dX5_takeBook_7 rfl rfl rfl ?_
    refine V_iload_n (q := 9) dX5_takeBook_8 rfl rfl rfl ?_
    refine V_icmpge (q := 62) (q2 := 12) dX5_takeBook_9 (by decide) rfl (fun hc2 => ?_) (fun hc2 => ?_)
    · have h := ifT hc2 h
      exact V_vret rfl h dX5_takeBook_62
    · have h := ifF hc2 h
      refine V_iload_n (q := 13) dX5_takeBook_12 rfl rfl rfl ?_
      refine V_bipush (q := 15) dX5_takeBook_13 rfl rfl rfl ?_
      refine V_icmpge (q := 62) (q2 := 18) dX5_takeBook_15 (by decide) rfl (fun hc3 => ?_) (fun hc3 => ?_)
      · have h := ifT hc3 h
        exact V_vret rfl h dX5_takeBook_62
      · have h := ifF hc3 h
        refine V_iload_n (q := 19) dX5_takeBook_18 rfl rfl rfl ?_
        refine V_iload_n (q := 20) dX5_takeBook_19 rfl rfl rfl ?_
        refine V_ishr (q := 21) dX5_takeBook_20 rfl ?_
        refine V_iconst (q := 22) dX5_takeBook_21 rfl rfl ?_
        refine V_iand (q := 23) dX5_takeBook_22 rfl ?_
        refine V_iconst (q := 24) dX5_takeBook_23 rfl rfl ?_
        refine V_icmpne (q := 56) (q2 := 27) dX5_takeBook_24 (by decide) rfl (fun hc4 => ?_) (fun hc4 => ?_)
        · have h := ifF hc4 h
          refine V_iinc (q := 59) dX5_takeBook_56 rfl (Nat.le_of_ble_eq_true rfl) trivial rfl ?_
          refine V_goto (q := 7) dX5_takeBook_59 (by decide) ?_
          exact V_weak (ih h) (sb_s rfl (sb_s rfl (sb_s rfl (sb_s rfl sb_0))))
        · have h := ifT hc4 h
          refine V_aload_n (q := 28) dX5_takeBook_27 rfl rfl rfl ?_
          refine V_getI (q := 31) fl_X5_21 rfl rfl rfl dX5_takeBook_28 rfl ?_
          refine V_bipush (q := 33) dX5_takeBook_31 rfl rfl rfl ?_
          refine V_icmpge (q := 56) (q2 := 36) dX5_takeBook_33 (by decide) rfl (fun hc5 => ?_) (fun hc5 => ?_)
          · have h := ifT hc5 h
            refine V_iinc (q := 59) dX5_takeBook_56 rfl (Nat.le_of_ble_eq_true rfl) trivial rfl ?_
            refine V_goto (q := 7) dX5_takeBook_59 (by decide) ?_
            exact V_weak (ih h) (sb_s rfl (sb_s rfl (sb_s rfl (sb_s rfl sb_0))))
          · have h := ifF hc5 h
            refine V_aload_n (q := 37) dX5_takeBook_36 rfl rfl rfl ?_
            refine V_getO (q := 40) (t := 59) fl_X5_9 rfl rfl rfl rfl dX5_takeBook_37 rfl ?_
            refine V_aload_n (q := 41) dX5_takeBook_40 rfl rfl rfl ?_
            refine V_getI (q := 44) fl_X5_21 rfl rfl rfl dX5_takeBook_41 rfl ?_
            refine V_iload_n (q := 45) dX5_takeBook_44 rfl rfl rfl ?_
            obtain ⟨hi7, h⟩ := stA_i h
            refine V_iastore (q := 46) rfl hi7 dX5_takeBook_45 rfl ?_
            refine V_aload_n (q := 47) dX5_takeBook_46 rfl rfl rfl ?_
            refine V_dup (q := 48) dX5_takeBook_47 trivial rfl ?_
            refine V_getI (q := 51) fl_X5_21 rfl rfl rfl dX5_takeBook_48 rfl ?_
            refine V_iconst (q := 52) dX5_takeBook_51 rfl rfl ?_
            refine V_iadd (q := 53) dX5_takeBook_52 rfl ?_
            have h := sF_i h
            refine V_putI (q := 56) fl_X5_21 rfl rfl rfl dX5_takeBook_53 rfl ?_
            refine V_iinc (q := 59) dX5_takeBook_56 rfl (Nat.le_of_ble_eq_true rfl) trivial rfl ?_
            refine V_goto (q := 7) dX5_takeBook_59 (by decide) ?_
            exact V_weak (ih h) (sb_s rfl (sb_s rfl (sb_s rfl (sb_s rfl sb_0))))
set_option maxHeartbeats 4000000 in
set_option maxRecDepth 100000 in
theorem kX5_takeBook (d : Nat) (hd : 1 ≤ d) {l1 : Int} {l2 : Int} {μ : Mm} {r : Int} {μ' : Mm} (h : X5_takeBook l1 l2 μ = some (r, μ')) : CC d mX5_takeBook [vR 58, vI l1, vI l2] μ r μ' := by
  unfold X5_takeBook at h
  refine V_enter (by decide) (Nat.le_of_ble_eq_true rfl) ?_
  show VV d mX5_takeBook 0 [some (vR 58), some (vI l1), some (vI l2), none] [] μ r μ'
  refine V_aload_n (q := 1) dX5_takeBook_0 rfl rfl rfl ?_
  refine V_iconst (q := 2) dX5_takeBook_1 rfl rfl ?_
  have h := sF_i h
  refine V_putI (q := 5) fl_X5_21 rfl rfl rfl dX5_takeBook_2 rfl ?_
  refine V_iconst (q := 6) dX5_takeBook_5 rfl rfl ?_
  refine V_istore_n (q := 7) dX5_takeBook_6 rfl (Nat.le_of_ble_eq_true rfl) trivial rfl ?_
  exact V_weak (kX5_takeBook_L7 d hd  FU h) (sb_s rfl (sb_s rfl (sb_s rfl (sb_s rfl sb_0))))
abbrev mX5_addLate : Mth := (yX5_addLate, cX5_addLate, 2, none)
set_option maxRecDepth 100000 in
theorem mi_X5_addLate : Cond.instanceMethod yX5_addLate ∈ tG ∧ Cond.selects yX5_addLate.cls yX5_addLate yX5_addLate ∈ tG ∧ Cond.initialized yX5_addLate.cls ∈ tG ∧ Cond.code yX5_addLate cX5_addLate 2 (none) ∈ tG ∧ (yX5_addLate.cls ≠ "java/lang/invoke/MethodHandle" ∧ yX5_addLate.cls ≠ "java/lang/invoke/VarHandle" ∧ (parseMethodDescriptor yX5_addLate.desc).map (fun d => d.parameters.length) = some 1) ∧ 2 ≤ 60 := ⟨(tG_of (tb4 (List.mem_of_getElem? (i := 36) rfl)) (by decide +kernel)), (tG_of (List.mem_of_getElem? (i := 25) (by decide +kernel)) (by decide +kernel)), (tG_of (tb1 (List.mem_of_getElem? (i := 9) rfl)) (by decide +kernel)), (tG_of (tb4 (List.mem_of_getElem? (i := 37) rfl)) (by decide +kernel)), ⟨by decide, by decide, by decide +kernel⟩, by decide⟩
set_option maxRecDepth 100000 in
theorem mv_X5_60 : mV RX5 60 mX5_addLate 1 := ⟨(tG_of (tb4 (List.mem_of_getElem? (i := 34) rfl)) (by decide +kernel)), mi_X5_addLate⟩
theorem dX5_addLate_0 : decode cX5_addLate 0 = .ok (.aload_n 0, 1) := dc_42 (byA eNcX5_addLate (p := 0) (v := 42) (by decide +kernel))
theorem dX5_addLate_1 : decode cX5_addLate 1 = .ok (.dup, 1) := dc_89 (byA eNcX5_addLate (p := 1) (v := 89) (by decide +kernel))
theorem dX5_addLate_2 : decode cX5_addLate 2 = .ok (.getfield 27, 3) := dc_180 (byA eNcX5_addLate (p := 2) (v := 180) (by decide +kernel)) (byA eNcX5_addLate (p := 3) (v := 0) (by decide +kernel)) (byA eNcX5_addLate (p := 4) (v := 27) (by decide +kernel)) rfl
theorem dX5_addLate_5 : decode cX5_addLate 5 = .ok (.iload_n 1, 1) := dc_27 (byA eNcX5_addLate (p := 5) (v := 27) (by decide +kernel))
theorem dX5_addLate_6 : decode cX5_addLate 6 = .ok (.iadd, 1) := dc_96 (byA eNcX5_addLate (p := 6) (v := 96) (by decide +kernel))
theorem dX5_addLate_7 : decode cX5_addLate 7 = .ok (.putfield 27, 3) := dc_181 (byA eNcX5_addLate (p := 7) (v := 181) (by decide +kernel)) (byA eNcX5_addLate (p := 8) (v := 0) (by decide +kernel)) (byA eNcX5_addLate (p := 9) (v := 27) (by decide +kernel)) rfl
theorem dX5_addLate_10 : decode cX5_addLate 10 = .ok (.aload_n 0, 1) := dc_42 (byA eNcX5_addLate (p := 10) (v := 42) (by decide +kernel))
theorem dX5_addLate_11 : decode cX5_addLate 11 = .ok (.aload_n 0, 1) := dc_42 (byA eNcX5_addLate (p := 11) (v := 42) (by decide +kernel))
theorem dX5_addLate_12 : decode cX5_addLate 12 = .ok (.getfield 30, 3) := dc_180 (byA eNcX5_addLate (p := 12) (v := 180) (by decide +kernel)) (byA eNcX5_addLate (p := 13) (v := 0) (by decide +kernel)) (byA eNcX5_addLate (p := 14) (v := 30) (by decide +kernel)) rfl
theorem dX5_addLate_15 : decode cX5_addLate 15 = .ok (.iload_n 1, 1) := dc_27 (byA eNcX5_addLate (p := 15) (v := 27) (by decide +kernel))
theorem dX5_addLate_16 : decode cX5_addLate 16 = .ok (.invokestatic 64, 3) := dc_184 (byA eNcX5_addLate (p := 16) (v := 184) (by decide +kernel)) (byA eNcX5_addLate (p := 17) (v := 0) (by decide +kernel)) (byA eNcX5_addLate (p := 18) (v := 64) (by decide +kernel)) rfl
theorem dX5_addLate_19 : decode cX5_addLate 19 = .ok (.putfield 30, 3) := dc_181 (byA eNcX5_addLate (p := 19) (v := 181) (by decide +kernel)) (byA eNcX5_addLate (p := 20) (v := 0) (by decide +kernel)) (byA eNcX5_addLate (p := 21) (v := 30) (by decide +kernel)) rfl
theorem dX5_addLate_22 : decode cX5_addLate 22 = .ok (.iload_n 1, 1) := dc_27 (byA eNcX5_addLate (p := 22) (v := 27) (by decide +kernel))
theorem dX5_addLate_23 : decode cX5_addLate 23 = .ok (.ifCond .le 13, 3) := dc_158 (byA eNcX5_addLate (p := 23) (v := 158) (by decide +kernel)) (byA eNcX5_addLate (p := 24) (v := 0) (by decide +kernel)) (byA eNcX5_addLate (p := 25) (v := 13) (by decide +kernel)) (by decide +kernel)
theorem dX5_addLate_26 : decode cX5_addLate 26 = .ok (.aload_n 0, 1) := dc_42 (byA eNcX5_addLate (p := 26) (v := 42) (by decide +kernel))
theorem dX5_addLate_27 : decode cX5_addLate 27 = .ok (.dup, 1) := dc_89 (byA eNcX5_addLate (p := 27) (v := 89) (by decide +kernel))
theorem dX5_addLate_28 : decode cX5_addLate 28 = .ok (.getfield 33, 3) := dc_180 (byA eNcX5_addLate (p := 28) (v := 180) (by decide +kernel)) (byA eNcX5_addLate (p := 29) (v := 0) (by decide +kernel)) (byA eNcX5_addLate (p := 30) (v := 33) (by decide +kernel)) rfl
theorem dX5_addLate_31 : decode cX5_addLate 31 = .ok (.iconst 1, 1) := dc_4 (byA eNcX5_addLate (p := 31) (v := 4) (by decide +kernel))
theorem dX5_addLate_32 : decode cX5_addLate 32 = .ok (.iadd, 1) := dc_96 (byA eNcX5_addLate (p := 32) (v := 96) (by decide +kernel))
theorem dX5_addLate_33 : decode cX5_addLate 33 = .ok (.putfield 33, 3) := dc_181 (byA eNcX5_addLate (p := 33) (v := 181) (by decide +kernel)) (byA eNcX5_addLate (p := 34) (v := 0) (by decide +kernel)) (byA eNcX5_addLate (p := 35) (v := 33) (by decide +kernel)) rfl
theorem dX5_addLate_36 : decode cX5_addLate 36 = .ok (.return_, 1) := dc_177 (byA eNcX5_addLate (p := 36) (v := 177) (by decide +kernel))
def X5_addLate (l1 : Int) (μ : Mm) : Rs := sF μ 58 4 (iA (μ 58 4) l1) fun μ1 => sF μ1 58 5 (mX (μ1 58 5) l1) fun μ2 => if l1 ≤ 0 then (some (0, μ2)) else (sF μ2 58 6 (iA (μ2 58 6) 1) fun μ4 => some (0, μ4))
set_option maxHeartbeats 4000000 in
set_option maxRecDepth 100000 in
theorem kX5_addLate (d : Nat) (hd : 1 ≤ d) {l1 : Int} {μ : Mm} {r : Int} {μ' : Mm} (h : X5_addLate l1 μ = some (r, μ')) : CC d mX5_addLate [vR 58, vI l1] μ r μ' := by
  unfold X5_addLate at h
  refine V_enter (by decide) (Nat.le_of_ble_eq_true rfl) ?_
  show VV d mX5_addLate 0 [some (vR 58), some (vI l1)] [] μ r μ'
  refine V_aload_n (q := 1) dX5_addLate_0 rfl rfl rfl ?_
  refine V_dup (q := 2) dX5_addLate_1 trivial rfl ?_
  refine V_getI (q := 5) fl_X5_27 rfl rfl rfl dX5_addLate_2 rfl ?_
  refine V_iload_n (q := 6) dX5_addLate_5 rfl rfl rfl ?_
  refine V_iadd (q := 7) dX5_addLate_6 rfl ?_
  have h := sF_i h
  refine V_putI (q := 10) fl_X5_27 rfl rfl rfl dX5_addLate_7 rfl ?_
  refine V_aload_n (q := 11) dX5_addLate_10 rfl rfl rfl ?_
  refine V_aload_n (q := 12) dX5_addLate_11 rfl rfl rfl ?_
  refine V_getI (q := 15) fl_X5_30 rfl rfl rfl dX5_addLate_12 rfl ?_
  refine V_iload_n (q := 16) dX5_addLate_15 rfl rfl rfl ?_
  refine V_mmax (q := 19) mx_X5_64 (by omega) rfl dX5_addLate_16 rfl ?_
  have h := sF_i h
  refine V_putI (q := 22) fl_X5_30 rfl rfl rfl dX5_addLate_19 rfl ?_
  refine V_iload_n (q := 23) dX5_addLate_22 rfl rfl rfl ?_
  refine V_ifle (q := 36) (q2 := 26) dX5_addLate_23 (by decide) rfl (fun hc3 => ?_) (fun hc3 => ?_)
  · have h := ifT hc3 h
    exact V_vret rfl h dX5_addLate_36
  · have h := ifF hc3 h
    refine V_aload_n (q := 27) dX5_addLate_26 rfl rfl rfl ?_
    refine V_dup (q := 28) dX5_addLate_27 trivial rfl ?_
    refine V_getI (q := 31) fl_X5_33 rfl rfl rfl dX5_addLate_28 rfl ?_
    refine V_iconst (q := 32) dX5_addLate_31 rfl rfl ?_
    refine V_iadd (q := 33) dX5_addLate_32 rfl ?_
    have h := sF_i h
    refine V_putI (q := 36) fl_X5_33 rfl rfl rfl dX5_addLate_33 rfl ?_
    exact V_vret rfl h dX5_addLate_36
abbrev mX5_go : Mth := (yX5_go, cX5_go, 6, some .boolean)
set_option maxRecDepth 100000 in
theorem mi_X5_go : Cond.instanceMethod yX5_go ∈ tG ∧ Cond.selects yX5_go.cls yX5_go yX5_go ∈ tG ∧ Cond.initialized yX5_go.cls ∈ tG ∧ Cond.code yX5_go cX5_go 6 (some .boolean) ∈ tG ∧ (yX5_go.cls ≠ "java/lang/invoke/MethodHandle" ∧ yX5_go.cls ≠ "java/lang/invoke/VarHandle" ∧ (parseMethodDescriptor yX5_go.desc).map (fun d => d.parameters.length) = some 1) ∧ 6 ≤ 60 := ⟨(tG_of (tb4 (List.mem_of_getElem? (i := 12) rfl)) (by decide +kernel)), (tG_of (tb4 (List.mem_of_getElem? (i := 13) rfl)) (by decide +kernel)), (tG_of (tb1 (List.mem_of_getElem? (i := 9) rfl)) (by decide +kernel)), (tG_of (tb4 (List.mem_of_getElem? (i := 14) rfl)) (by decide +kernel)), ⟨by decide, by decide, by decide +kernel⟩, by decide⟩
set_option maxRecDepth 100000 in
theorem mv_X10_294 : mV RX10 294 mX5_go 1 := ⟨(tG_of (tb4 (List.mem_of_getElem? (i := 11) rfl)) (by decide +kernel)), mi_X5_go⟩
theorem dX5_go_0 : decode cX5_go 0 = .ok (.bipush 8, 2) := dc_16 (byA eNcX5_go (p := 0) (v := 16) (by decide +kernel)) (byA eNcX5_go (p := 1) (v := 8) (by decide +kernel)) (by decide +kernel)
theorem dX5_go_2 : decode cX5_go 2 = .ok (.istore_n 2, 1) := dc_61 (byA eNcX5_go (p := 2) (v := 61) (by decide +kernel))
theorem dX5_go_3 : decode cX5_go 3 = .ok (.aload_n 0, 1) := dc_42 (byA eNcX5_go (p := 3) (v := 42) (by decide +kernel))
theorem dX5_go_4 : decode cX5_go 4 = .ok (.iconst 0, 1) := dc_3 (byA eNcX5_go (p := 4) (v := 3) (by decide +kernel))
theorem dX5_go_5 : decode cX5_go 5 = .ok (.putfield 27, 3) := dc_181 (byA eNcX5_go (p := 5) (v := 181) (by decide +kernel)) (byA eNcX5_go (p := 6) (v := 0) (by decide +kernel)) (byA eNcX5_go (p := 7) (v := 27) (by decide +kernel)) rfl
theorem dX5_go_8 : decode cX5_go 8 = .ok (.aload_n 0, 1) := dc_42 (byA eNcX5_go (p := 8) (v := 42) (by decide +kernel))
theorem dX5_go_9 : decode cX5_go 9 = .ok (.iconst 0, 1) := dc_3 (byA eNcX5_go (p := 9) (v := 3) (by decide +kernel))
theorem dX5_go_10 : decode cX5_go 10 = .ok (.putfield 30, 3) := dc_181 (byA eNcX5_go (p := 10) (v := 181) (by decide +kernel)) (byA eNcX5_go (p := 11) (v := 0) (by decide +kernel)) (byA eNcX5_go (p := 12) (v := 30) (by decide +kernel)) rfl
theorem dX5_go_13 : decode cX5_go 13 = .ok (.aload_n 0, 1) := dc_42 (byA eNcX5_go (p := 13) (v := 42) (by decide +kernel))
theorem dX5_go_14 : decode cX5_go 14 = .ok (.iconst 0, 1) := dc_3 (byA eNcX5_go (p := 14) (v := 3) (by decide +kernel))
theorem dX5_go_15 : decode cX5_go 15 = .ok (.putfield 33, 3) := dc_181 (byA eNcX5_go (p := 15) (v := 181) (by decide +kernel)) (byA eNcX5_go (p := 16) (v := 0) (by decide +kernel)) (byA eNcX5_go (p := 17) (v := 33) (by decide +kernel)) rfl
theorem dX5_go_18 : decode cX5_go 18 = .ok (.aload_n 0, 1) := dc_42 (byA eNcX5_go (p := 18) (v := 42) (by decide +kernel))
theorem dX5_go_19 : decode cX5_go 19 = .ok (.iconst 0, 1) := dc_3 (byA eNcX5_go (p := 19) (v := 3) (by decide +kernel))
theorem dX5_go_20 : decode cX5_go 20 = .ok (.putfield 36, 3) := dc_181 (byA eNcX5_go (p := 20) (v := 181) (by decide +kernel)) (byA eNcX5_go (p := 21) (v := 0) (by decide +kernel)) (byA eNcX5_go (p := 22) (v := 36) (by decide +kernel)) rfl
theorem dX5_go_23 : decode cX5_go 23 = .ok (.aload_n 0, 1) := dc_42 (byA eNcX5_go (p := 23) (v := 42) (by decide +kernel))
theorem dX5_go_24 : decode cX5_go 24 = .ok (.iconst 0, 1) := dc_3 (byA eNcX5_go (p := 24) (v := 3) (by decide +kernel))
theorem dX5_go_25 : decode cX5_go 25 = .ok (.putfield 39, 3) := dc_181 (byA eNcX5_go (p := 25) (v := 181) (by decide +kernel)) (byA eNcX5_go (p := 26) (v := 0) (by decide +kernel)) (byA eNcX5_go (p := 27) (v := 39) (by decide +kernel)) rfl
theorem dX5_go_28 : decode cX5_go 28 = .ok (.aload_n 0, 1) := dc_42 (byA eNcX5_go (p := 28) (v := 42) (by decide +kernel))
theorem dX5_go_29 : decode cX5_go 29 = .ok (.iconst 0, 1) := dc_3 (byA eNcX5_go (p := 29) (v := 3) (by decide +kernel))
theorem dX5_go_30 : decode cX5_go 30 = .ok (.putfield 42, 3) := dc_181 (byA eNcX5_go (p := 30) (v := 181) (by decide +kernel)) (byA eNcX5_go (p := 31) (v := 0) (by decide +kernel)) (byA eNcX5_go (p := 32) (v := 42) (by decide +kernel)) rfl
theorem dX5_go_33 : decode cX5_go 33 = .ok (.iconst 0, 1) := dc_3 (byA eNcX5_go (p := 33) (v := 3) (by decide +kernel))
theorem dX5_go_34 : decode cX5_go 34 = .ok (.istore_n 3, 1) := dc_62 (byA eNcX5_go (p := 34) (v := 62) (by decide +kernel))
theorem dX5_go_35 : decode cX5_go 35 = .ok (.iload_n 3, 1) := dc_29 (byA eNcX5_go (p := 35) (v := 29) (by decide +kernel))
theorem dX5_go_36 : decode cX5_go 36 = .ok (.aload_n 0, 1) := dc_42 (byA eNcX5_go (p := 36) (v := 42) (by decide +kernel))
theorem dX5_go_37 : decode cX5_go 37 = .ok (.getfield 21, 3) := dc_180 (byA eNcX5_go (p := 37) (v := 180) (by decide +kernel)) (byA eNcX5_go (p := 38) (v := 0) (by decide +kernel)) (byA eNcX5_go (p := 39) (v := 21) (by decide +kernel)) rfl
theorem dX5_go_40 : decode cX5_go 40 = .ok (.if_icmp .ge 133, 3) := dc_162 (byA eNcX5_go (p := 40) (v := 162) (by decide +kernel)) (byA eNcX5_go (p := 41) (v := 0) (by decide +kernel)) (byA eNcX5_go (p := 42) (v := 133) (by decide +kernel)) (by decide +kernel)
theorem dX5_go_43 : decode cX5_go 43 = .ok (.iload_n 3, 1) := dc_29 (byA eNcX5_go (p := 43) (v := 29) (by decide +kernel))
theorem dX5_go_44 : decode cX5_go 44 = .ok (.bipush 8, 2) := dc_16 (byA eNcX5_go (p := 44) (v := 16) (by decide +kernel)) (byA eNcX5_go (p := 45) (v := 8) (by decide +kernel)) (by decide +kernel)
theorem dX5_go_46 : decode cX5_go 46 = .ok (.if_icmp .ge 127, 3) := dc_162 (byA eNcX5_go (p := 46) (v := 162) (by decide +kernel)) (byA eNcX5_go (p := 47) (v := 0) (by decide +kernel)) (byA eNcX5_go (p := 48) (v := 127) (by decide +kernel)) (by decide +kernel)
theorem dX5_go_49 : decode cX5_go 49 = .ok (.aload_n 0, 1) := dc_42 (byA eNcX5_go (p := 49) (v := 42) (by decide +kernel))
theorem dX5_go_50 : decode cX5_go 50 = .ok (.getfield 9, 3) := dc_180 (byA eNcX5_go (p := 50) (v := 180) (by decide +kernel)) (byA eNcX5_go (p := 51) (v := 0) (by decide +kernel)) (byA eNcX5_go (p := 52) (v := 9) (by decide +kernel)) rfl
theorem dX5_go_53 : decode cX5_go 53 = .ok (.iload_n 3, 1) := dc_29 (byA eNcX5_go (p := 53) (v := 29) (by decide +kernel))
theorem dX5_go_54 : decode cX5_go 54 = .ok (.iaload, 1) := dc_46 (byA eNcX5_go (p := 54) (v := 46) (by decide +kernel))
theorem dX5_go_55 : decode cX5_go 55 = .ok (.istore 4, 2) := dc_54 (byA eNcX5_go (p := 55) (v := 54) (by decide +kernel)) (byA eNcX5_go (p := 56) (v := 4) (by decide +kernel))
theorem dX5_go_57 : decode cX5_go 57 = .ok (.aload_n 1, 1) := dc_43 (byA eNcX5_go (p := 57) (v := 43) (by decide +kernel))
theorem dX5_go_58 : decode cX5_go 58 = .ok (.aload_n 0, 1) := dc_42 (byA eNcX5_go (p := 58) (v := 42) (by decide +kernel))
theorem dX5_go_59 : decode cX5_go 59 = .ok (.getfield 36, 3) := dc_180 (byA eNcX5_go (p := 59) (v := 180) (by decide +kernel)) (byA eNcX5_go (p := 60) (v := 0) (by decide +kernel)) (byA eNcX5_go (p := 61) (v := 36) (by decide +kernel)) rfl
theorem dX5_go_62 : decode cX5_go 62 = .ok (.iload_n 2, 1) := dc_28 (byA eNcX5_go (p := 62) (v := 28) (by decide +kernel))
theorem dX5_go_63 : decode cX5_go 63 = .ok (.iload 4, 2) := dc_21 (byA eNcX5_go (p := 63) (v := 21) (by decide +kernel)) (byA eNcX5_go (p := 64) (v := 4) (by decide +kernel))
theorem dX5_go_65 : decode cX5_go 65 = .ok (.invokevirtual 45, 3) := dc_182 (byA eNcX5_go (p := 65) (v := 182) (by decide +kernel)) (byA eNcX5_go (p := 66) (v := 0) (by decide +kernel)) (byA eNcX5_go (p := 67) (v := 45) (by decide +kernel)) rfl
theorem dX5_go_68 : decode cX5_go 68 = .ok (.istore 5, 2) := dc_54 (byA eNcX5_go (p := 68) (v := 54) (by decide +kernel)) (byA eNcX5_go (p := 69) (v := 5) (by decide +kernel))
theorem dX5_go_70 : decode cX5_go 70 = .ok (.iload 5, 2) := dc_21 (byA eNcX5_go (p := 70) (v := 21) (by decide +kernel)) (byA eNcX5_go (p := 71) (v := 5) (by decide +kernel))
theorem dX5_go_72 : decode cX5_go 72 = .ok (.iconst (-1), 1) := dc_2 (byA eNcX5_go (p := 72) (v := 2) (by decide +kernel))
theorem dX5_go_73 : decode cX5_go 73 = .ok (.if_icmp .ne 5, 3) := dc_160 (byA eNcX5_go (p := 73) (v := 160) (by decide +kernel)) (byA eNcX5_go (p := 74) (v := 0) (by decide +kernel)) (byA eNcX5_go (p := 75) (v := 5) (by decide +kernel)) (by decide +kernel)
theorem dX5_go_76 : decode cX5_go 76 = .ok (.iconst 0, 1) := dc_3 (byA eNcX5_go (p := 76) (v := 3) (by decide +kernel))
theorem dX5_go_77 : decode cX5_go 77 = .ok (.ireturn, 1) := dc_172 (byA eNcX5_go (p := 77) (v := 172) (by decide +kernel))
theorem dX5_go_78 : decode cX5_go 78 = .ok (.aload_n 0, 1) := dc_42 (byA eNcX5_go (p := 78) (v := 42) (by decide +kernel))
theorem dX5_go_79 : decode cX5_go 79 = .ok (.dup, 1) := dc_89 (byA eNcX5_go (p := 79) (v := 89) (by decide +kernel))
theorem dX5_go_80 : decode cX5_go 80 = .ok (.getfield 39, 3) := dc_180 (byA eNcX5_go (p := 80) (v := 180) (by decide +kernel)) (byA eNcX5_go (p := 81) (v := 0) (by decide +kernel)) (byA eNcX5_go (p := 82) (v := 39) (by decide +kernel)) rfl
theorem dX5_go_83 : decode cX5_go 83 = .ok (.aload_n 1, 1) := dc_43 (byA eNcX5_go (p := 83) (v := 43) (by decide +kernel))
theorem dX5_go_84 : decode cX5_go 84 = .ok (.iload_n 2, 1) := dc_28 (byA eNcX5_go (p := 84) (v := 28) (by decide +kernel))
theorem dX5_go_85 : decode cX5_go 85 = .ok (.iload 4, 2) := dc_21 (byA eNcX5_go (p := 85) (v := 21) (by decide +kernel)) (byA eNcX5_go (p := 86) (v := 4) (by decide +kernel))
theorem dX5_go_87 : decode cX5_go 87 = .ok (.invokevirtual 48, 3) := dc_182 (byA eNcX5_go (p := 87) (v := 182) (by decide +kernel)) (byA eNcX5_go (p := 88) (v := 0) (by decide +kernel)) (byA eNcX5_go (p := 89) (v := 48) (by decide +kernel)) rfl
theorem dX5_go_90 : decode cX5_go 90 = .ok (.iadd, 1) := dc_96 (byA eNcX5_go (p := 90) (v := 96) (by decide +kernel))
theorem dX5_go_91 : decode cX5_go 91 = .ok (.putfield 39, 3) := dc_181 (byA eNcX5_go (p := 91) (v := 181) (by decide +kernel)) (byA eNcX5_go (p := 92) (v := 0) (by decide +kernel)) (byA eNcX5_go (p := 93) (v := 39) (by decide +kernel)) rfl
theorem dX5_go_94 : decode cX5_go 94 = .ok (.aload_n 0, 1) := dc_42 (byA eNcX5_go (p := 94) (v := 42) (by decide +kernel))
theorem dX5_go_95 : decode cX5_go 95 = .ok (.aload_n 1, 1) := dc_43 (byA eNcX5_go (p := 95) (v := 43) (by decide +kernel))
theorem dX5_go_96 : decode cX5_go 96 = .ok (.iload 5, 2) := dc_21 (byA eNcX5_go (p := 96) (v := 21) (by decide +kernel)) (byA eNcX5_go (p := 97) (v := 5) (by decide +kernel))
theorem dX5_go_98 : decode cX5_go 98 = .ok (.iload 4, 2) := dc_21 (byA eNcX5_go (p := 98) (v := 21) (by decide +kernel)) (byA eNcX5_go (p := 99) (v := 4) (by decide +kernel))
theorem dX5_go_100 : decode cX5_go 100 = .ok (.invokevirtual 52, 3) := dc_182 (byA eNcX5_go (p := 100) (v := 182) (by decide +kernel)) (byA eNcX5_go (p := 101) (v := 0) (by decide +kernel)) (byA eNcX5_go (p := 102) (v := 52) (by decide +kernel)) rfl
theorem dX5_go_103 : decode cX5_go 103 = .ok (.putfield 36, 3) := dc_181 (byA eNcX5_go (p := 103) (v := 181) (by decide +kernel)) (byA eNcX5_go (p := 104) (v := 0) (by decide +kernel)) (byA eNcX5_go (p := 105) (v := 36) (by decide +kernel)) rfl
theorem dX5_go_106 : decode cX5_go 106 = .ok (.aload_n 0, 1) := dc_42 (byA eNcX5_go (p := 106) (v := 42) (by decide +kernel))
theorem dX5_go_107 : decode cX5_go 107 = .ok (.dup, 1) := dc_89 (byA eNcX5_go (p := 107) (v := 89) (by decide +kernel))
theorem dX5_go_108 : decode cX5_go 108 = .ok (.getfield 42, 3) := dc_180 (byA eNcX5_go (p := 108) (v := 180) (by decide +kernel)) (byA eNcX5_go (p := 109) (v := 0) (by decide +kernel)) (byA eNcX5_go (p := 110) (v := 42) (by decide +kernel)) rfl
theorem dX5_go_111 : decode cX5_go 111 = .ok (.aload_n 0, 1) := dc_42 (byA eNcX5_go (p := 111) (v := 42) (by decide +kernel))
theorem dX5_go_112 : decode cX5_go 112 = .ok (.getfield 36, 3) := dc_180 (byA eNcX5_go (p := 112) (v := 180) (by decide +kernel)) (byA eNcX5_go (p := 113) (v := 0) (by decide +kernel)) (byA eNcX5_go (p := 114) (v := 36) (by decide +kernel)) rfl
theorem dX5_go_115 : decode cX5_go 115 = .ok (.aload_n 1, 1) := dc_43 (byA eNcX5_go (p := 115) (v := 43) (by decide +kernel))
theorem dX5_go_116 : decode cX5_go 116 = .ok (.iload 5, 2) := dc_21 (byA eNcX5_go (p := 116) (v := 21) (by decide +kernel)) (byA eNcX5_go (p := 117) (v := 5) (by decide +kernel))
theorem dX5_go_118 : decode cX5_go 118 = .ok (.iload 4, 2) := dc_21 (byA eNcX5_go (p := 118) (v := 21) (by decide +kernel)) (byA eNcX5_go (p := 119) (v := 4) (by decide +kernel))
theorem dX5_go_120 : decode cX5_go 120 = .ok (.invokevirtual 54, 3) := dc_182 (byA eNcX5_go (p := 120) (v := 182) (by decide +kernel)) (byA eNcX5_go (p := 121) (v := 0) (by decide +kernel)) (byA eNcX5_go (p := 122) (v := 54) (by decide +kernel)) rfl
theorem dX5_go_123 : decode cX5_go 123 = .ok (.isub, 1) := dc_100 (byA eNcX5_go (p := 123) (v := 100) (by decide +kernel))
theorem dX5_go_124 : decode cX5_go 124 = .ok (.iadd, 1) := dc_96 (byA eNcX5_go (p := 124) (v := 96) (by decide +kernel))
theorem dX5_go_125 : decode cX5_go 125 = .ok (.putfield 42, 3) := dc_181 (byA eNcX5_go (p := 125) (v := 181) (by decide +kernel)) (byA eNcX5_go (p := 126) (v := 0) (by decide +kernel)) (byA eNcX5_go (p := 127) (v := 42) (by decide +kernel)) rfl
theorem dX5_go_128 : decode cX5_go 128 = .ok (.aload_n 0, 1) := dc_42 (byA eNcX5_go (p := 128) (v := 42) (by decide +kernel))
theorem dX5_go_129 : decode cX5_go 129 = .ok (.getfield 15, 3) := dc_180 (byA eNcX5_go (p := 129) (v := 180) (by decide +kernel)) (byA eNcX5_go (p := 130) (v := 0) (by decide +kernel)) (byA eNcX5_go (p := 131) (v := 15) (by decide +kernel)) rfl
theorem dX5_go_132 : decode cX5_go 132 = .ok (.iload 4, 2) := dc_21 (byA eNcX5_go (p := 132) (v := 21) (by decide +kernel)) (byA eNcX5_go (p := 133) (v := 4) (by decide +kernel))
theorem dX5_go_134 : decode cX5_go 134 = .ok (.iload 5, 2) := dc_21 (byA eNcX5_go (p := 134) (v := 21) (by decide +kernel)) (byA eNcX5_go (p := 135) (v := 5) (by decide +kernel))
theorem dX5_go_136 : decode cX5_go 136 = .ok (.iastore, 1) := dc_79 (byA eNcX5_go (p := 136) (v := 79) (by decide +kernel))
theorem dX5_go_137 : decode cX5_go 137 = .ok (.aload_n 0, 1) := dc_42 (byA eNcX5_go (p := 137) (v := 42) (by decide +kernel))
theorem dX5_go_138 : decode cX5_go 138 = .ok (.getfield 18, 3) := dc_180 (byA eNcX5_go (p := 138) (v := 180) (by decide +kernel)) (byA eNcX5_go (p := 139) (v := 0) (by decide +kernel)) (byA eNcX5_go (p := 140) (v := 18) (by decide +kernel)) rfl
theorem dX5_go_141 : decode cX5_go 141 = .ok (.iload 4, 2) := dc_21 (byA eNcX5_go (p := 141) (v := 21) (by decide +kernel)) (byA eNcX5_go (p := 142) (v := 4) (by decide +kernel))
theorem dX5_go_143 : decode cX5_go 143 = .ok (.aload_n 0, 1) := dc_42 (byA eNcX5_go (p := 143) (v := 42) (by decide +kernel))
theorem dX5_go_144 : decode cX5_go 144 = .ok (.getfield 36, 3) := dc_180 (byA eNcX5_go (p := 144) (v := 180) (by decide +kernel)) (byA eNcX5_go (p := 145) (v := 0) (by decide +kernel)) (byA eNcX5_go (p := 146) (v := 36) (by decide +kernel)) rfl
theorem dX5_go_147 : decode cX5_go 147 = .ok (.iastore, 1) := dc_79 (byA eNcX5_go (p := 147) (v := 79) (by decide +kernel))
theorem dX5_go_148 : decode cX5_go 148 = .ok (.aload_n 0, 1) := dc_42 (byA eNcX5_go (p := 148) (v := 42) (by decide +kernel))
theorem dX5_go_149 : decode cX5_go 149 = .ok (.aload_n 0, 1) := dc_42 (byA eNcX5_go (p := 149) (v := 42) (by decide +kernel))
theorem dX5_go_150 : decode cX5_go 150 = .ok (.getfield 36, 3) := dc_180 (byA eNcX5_go (p := 150) (v := 180) (by decide +kernel)) (byA eNcX5_go (p := 151) (v := 0) (by decide +kernel)) (byA eNcX5_go (p := 152) (v := 36) (by decide +kernel)) rfl
theorem dX5_go_153 : decode cX5_go 153 = .ok (.aload_n 1, 1) := dc_43 (byA eNcX5_go (p := 153) (v := 43) (by decide +kernel))
theorem dX5_go_154 : decode cX5_go 154 = .ok (.getfield 57, 3) := dc_180 (byA eNcX5_go (p := 154) (v := 180) (by decide +kernel)) (byA eNcX5_go (p := 155) (v := 0) (by decide +kernel)) (byA eNcX5_go (p := 156) (v := 57) (by decide +kernel)) rfl
theorem dX5_go_157 : decode cX5_go 157 = .ok (.iload 4, 2) := dc_21 (byA eNcX5_go (p := 157) (v := 21) (by decide +kernel)) (byA eNcX5_go (p := 158) (v := 4) (by decide +kernel))
theorem dX5_go_159 : decode cX5_go 159 = .ok (.iaload, 1) := dc_46 (byA eNcX5_go (p := 159) (v := 46) (by decide +kernel))
theorem dX5_go_160 : decode cX5_go 160 = .ok (.isub, 1) := dc_100 (byA eNcX5_go (p := 160) (v := 100) (by decide +kernel))
theorem dX5_go_161 : decode cX5_go 161 = .ok (.invokevirtual 60, 3) := dc_182 (byA eNcX5_go (p := 161) (v := 182) (by decide +kernel)) (byA eNcX5_go (p := 162) (v := 0) (by decide +kernel)) (byA eNcX5_go (p := 163) (v := 60) (by decide +kernel)) rfl
theorem dX5_go_164 : decode cX5_go 164 = .ok (.iload 4, 2) := dc_21 (byA eNcX5_go (p := 164) (v := 21) (by decide +kernel)) (byA eNcX5_go (p := 165) (v := 4) (by decide +kernel))
theorem dX5_go_166 : decode cX5_go 166 = .ok (.istore_n 2, 1) := dc_61 (byA eNcX5_go (p := 166) (v := 61) (by decide +kernel))
theorem dX5_go_167 : decode cX5_go 167 = .ok (.iinc 3 1, 3) := dc_132 (byA eNcX5_go (p := 167) (v := 132) (by decide +kernel)) (byA eNcX5_go (p := 168) (v := 3) (by decide +kernel)) (byA eNcX5_go (p := 169) (v := 1) (by decide +kernel)) (by decide +kernel)
theorem dX5_go_170 : decode cX5_go 170 = .ok (.goto (-135), 3) := dc_167 (byA eNcX5_go (p := 170) (v := 167) (by decide +kernel)) (byA eNcX5_go (p := 171) (v := 255) (by decide +kernel)) (byA eNcX5_go (p := 172) (v := 121) (by decide +kernel)) (by decide +kernel)
theorem dX5_go_173 : decode cX5_go 173 = .ok (.iconst 1, 1) := dc_4 (byA eNcX5_go (p := 173) (v := 4) (by decide +kernel))
theorem dX5_go_174 : decode cX5_go 174 = .ok (.ireturn, 1) := dc_172 (byA eNcX5_go (p := 174) (v := 172) (by decide +kernel))
def X5_go_L35 (l1 : Nat) : Nat → Int → Int → Mm → Rs
  | 0, _, _, _ => none
  | n + 1, l2, l3, μ => if (μ 58 3) ≤ l3 then (some (1, μ)) else (if 8 ≤ l3 then (some (1, μ)) else (ldA μ 59 l3 fun v9 => bd (X1_comes l1 (μ 58 7) l2 v9 μ) fun v11 μ12 => if v11 = (-1) then (some (0, μ12)) else (bd (X1_stepsBetween l1 l2 v9 μ12) fun v15 μ16 => sF μ16 58 8 (iA (μ12 58 8) v15) fun μ18 => bd (X1_dones l1 v11 v9 μ18) fun v19 μ20 => sF μ20 58 7 v19 fun μ22 => bd (X1_wound l1 v11 v9 μ22) fun v23 μ24 => sF μ24 58 9 (iA (μ22 58 9) (iS (μ22 58 7) v23)) fun μ26 => stA μ26 60 v9 v11 fun μ27 => stA μ27 61 v9 (μ27 58 7) fun μ29 => ldA μ29 (l1 + 2) v9 fun v31 => bd (X5_addLate (iS (μ29 58 7) v31) μ29) fun v33 μ34 => X5_go_L35 l1 n v9 (iA l3 1) μ34)))
def X5_go (l1 : Nat) (μ : Mm) : Rs := sF μ 58 4 0 fun μ1 => sF μ1 58 5 0 fun μ2 => sF μ2 58 6 0 fun μ3 => sF μ3 58 7 0 fun μ4 => sF μ4 58 8 0 fun μ5 => sF μ5 58 9 0 fun μ6 => X5_go_L35 l1 FU 8 0 μ6
set_option maxHeartbeats 4000000 in
set_option maxRecDepth 100000 in
theorem kX5_go_L35 (d : Nat) (hd : 3 ≤ d) {l1 : Nat} (hk1 : kD l1 = (11, 7)) {r : Int} {μ' : Mm} : ∀ (n : Nat) {l2 l3 : Int} {μ : Mm}, X5_go_L35 l1 n l2 l3 μ = some (r, μ') → VV d mX5_go 35 [some (vR 58), some (vR l1), some (vI l2), some (vI l3), none, none] [] μ r μ' := by
  intro n
  induction n with
  | zero => intro l2 l3 μ h; rw [X5_go_L35] at h; cases h
  | succ n ih =>
    intro l2 l3 μ h
    rw [X5_go_L35] at h
    refine V_iload_n (q := 36) dX5_go_35 rfl rfl rfl ?_
    refine V_aload_n (q := 37) dX5_go_36 rfl rfl rfl ?_
    refine V_getI (q := 40) fl_X5_21 rfl rfl rfl dX5_go_37 rfl ?_
    refine V_icmpge (q := 173) (q2 := 43) dX5_go_40 (by decide) rfl (fun hc7 => ?_) (fun hc7 => ?_)
    · have h := ifT hc7 h
      refine V_iconst (q := 174) dX5_go_173 rfl rfl ?_
      exact V_zret rfl (Or.inr rfl) h dX5_go_174
    · have h := ifF hc7 h
      refine V_iload_n (q := 44) dX5_go_43 rfl rfl rfl ?_
      refine V_bipush (q := 46) dX5_go_44 rfl rfl rfl ?_
      refine V_icmpge (q := 173) (q2 := 49) dX5_go_46 (by decide) rfl (fun hc8 => ?_) (fun hc8 => ?_)
      · have h := ifT hc8 h
        refine V_iconst (q := 174) dX5_go_173 rfl rfl ?_
        exact V_zret rfl (Or.inr rfl) h dX5_go_174
      · have h := ifF hc8 h
        refine V_aload_n (q := 50) dX5_go_49 rfl rfl rfl ?_
        refine V_getO (q := 53) (t := 59) fl_X5_9 rfl rfl rfl rfl dX5_go_50 rfl ?_
        refine V_iload_n (q := 54) dX5_go_53 rfl rfl rfl ?_
        obtain ⟨hi10, h⟩ := ldA_i h
        refine V_iaload (q := 55) rfl hi10 dX5_go_54 rfl ?_
        refine V_istore (q := 57) dX5_go_55 (Nat.le_of_ble_eq_true rfl) trivial rfl ?_
        refine V_aload_n (q := 58) dX5_go_57 rfl rfl rfl ?_
        refine V_aload_n (q := 59) dX5_go_58 rfl rfl rfl ?_
        refine V_getI (q := 62) fl_X5_36 rfl rfl rfl dX5_go_59 rfl ?_
        refine V_iload_n (q := 63) dX5_go_62 rfl rfl rfl ?_
        refine V_iload (q := 65) dX5_go_63 rfl rfl ?_
        obtain ⟨v11, μ12, hc13, h⟩ := bd_i h
        refine V_cV1 (q := 68) (v := vI v11) (kX1_comes (d - 1) (by omega) hk1 hc13) (by omega) mv_X5_45 hk1 rfl rfl rfl rfl rfl dX5_go_65 rfl ?_
        refine V_istore (q := 70) dX5_go_68 (Nat.le_of_ble_eq_true rfl) trivial rfl ?_
        refine V_iload (q := 72) dX5_go_70 rfl rfl ?_
        refine V_iconst (q := 73) dX5_go_72 rfl rfl ?_
        refine V_icmpne (q := 78) (q2 := 76) dX5_go_73 (by decide) rfl (fun hc14 => ?_) (fun hc14 => ?_)
        · have h := ifF hc14 h
          refine V_aload_n (q := 79) dX5_go_78 rfl rfl rfl ?_
          refine V_dup (q := 80) dX5_go_79 trivial rfl ?_
          refine V_getI (q := 83) fl_X5_39 rfl rfl rfl dX5_go_80 rfl ?_
          refine V_aload_n (q := 84) dX5_go_83 rfl rfl rfl ?_
          refine V_iload_n (q := 85) dX5_go_84 rfl rfl rfl ?_
          refine V_iload (q := 87) dX5_go_85 rfl rfl ?_
          obtain ⟨v15, μ16, hc17, h⟩ := bd_i h
          refine V_cV1 (q := 90) (v := vI v15) (kX1_stepsBetween (d - 1) (by omega) hk1 hc17) (by omega) mv_X5_48 hk1 rfl rfl rfl rfl rfl dX5_go_87 rfl ?_
          refine V_iadd (q := 91) dX5_go_90 rfl ?_
          have h := sF_i h
          refine V_putI (q := 94) fl_X5_39 rfl rfl rfl dX5_go_91 rfl ?_
          refine V_aload_n (q := 95) dX5_go_94 rfl rfl rfl ?_
          refine V_aload_n (q := 96) dX5_go_95 rfl rfl rfl ?_
          refine V_iload (q := 98) dX5_go_96 rfl rfl ?_
          refine V_iload (q := 100) dX5_go_98 rfl rfl ?_
          obtain ⟨v19, μ20, hc21, h⟩ := bd_i h
          refine V_cV1 (q := 103) (v := vI v19) (kX1_dones (d - 1) (by omega) hk1 hc21) (by omega) mv_X5_52 hk1 rfl rfl rfl rfl rfl dX5_go_100 rfl ?_
          have h := sF_i h
          refine V_putI (q := 106) fl_X5_36 rfl rfl rfl dX5_go_103 rfl ?_
          refine V_aload_n (q := 107) dX5_go_106 rfl rfl rfl ?_
          refine V_dup (q := 108) dX5_go_107 trivial rfl ?_
          refine V_getI (q := 111) fl_X5_42 rfl rfl rfl dX5_go_108 rfl ?_
          refine V_aload_n (q := 112) dX5_go_111 rfl rfl rfl ?_
          refine V_getI (q := 115) fl_X5_36 rfl rfl rfl dX5_go_112 rfl ?_
          refine V_aload_n (q := 116) dX5_go_115 rfl rfl rfl ?_
          refine V_iload (q := 118) dX5_go_116 rfl rfl ?_
          refine V_iload (q := 120) dX5_go_118 rfl rfl ?_
          obtain ⟨v23, μ24, hc25, h⟩ := bd_i h
          refine V_cV1 (q := 123) (v := vI v23) (kX1_wound (d - 1) (by omega) hk1 hc25) (by omega) mv_X5_54 hk1 rfl rfl rfl rfl rfl dX5_go_120 rfl ?_
          refine V_isub (q := 124) dX5_go_123 rfl ?_
          refine V_iadd (q := 125) dX5_go_124 rfl ?_
          have h := sF_i h
          refine V_putI (q := 128) fl_X5_42 rfl rfl rfl dX5_go_125 rfl ?_
          refine V_aload_n (q := 129) dX5_go_128 rfl rfl rfl ?_
          refine V_getO (q := 132) (t := 60) fl_X5_15 rfl rfl rfl rfl dX5_go_129 rfl ?_
          refine V_iload (q := 134) dX5_go_132 rfl rfl ?_
          refine V_iload (q := 136) dX5_go_134 rfl rfl ?_
          obtain ⟨hi28, h⟩ := stA_i h
          refine V_iastore (q := 137) rfl hi28 dX5_go_136 rfl ?_
          refine V_aload_n (q := 138) dX5_go_137 rfl rfl rfl ?_
          refine V_getO (q := 141) (t := 61) fl_X5_18 rfl rfl rfl rfl dX5_go_138 rfl ?_
          refine V_iload (q := 143) dX5_go_141 rfl rfl ?_
          refine V_aload_n (q := 144) dX5_go_143 rfl rfl rfl ?_
          refine V_getI (q := 147) fl_X5_36 rfl rfl rfl dX5_go_144 rfl ?_
          obtain ⟨hi30, h⟩ := stA_i h
          refine V_iastore (q := 148) rfl hi30 dX5_go_147 rfl ?_
          refine V_aload_n (q := 149) dX5_go_148 rfl rfl rfl ?_
          refine V_aload_n (q := 150) dX5_go_149 rfl rfl rfl ?_
          refine V_getI (q := 153) fl_X5_36 rfl rfl rfl dX5_go_150 rfl ?_
          refine V_aload_n (q := 154) dX5_go_153 rfl rfl rfl ?_
          refine V_getO (q := 157) (t := _) fl_X5_57 hk1 rfl rfl rfl dX5_go_154 rfl ?_
          refine V_iload (q := 159) dX5_go_157 rfl rfl ?_
          obtain ⟨hi32, h⟩ := ldA_i h
          refine V_iaload (q := 160) (kdo_1_2 hk1) hi32 dX5_go_159 rfl ?_
          refine V_isub (q := 161) dX5_go_160 rfl ?_
          obtain ⟨v33, μ34, hc35, h⟩ := bd_i h
          refine V_cV0 (q := 164) (kX5_addLate (d - 1) (by omega) hc35) (by omega) mv_X5_60 rfl rfl rfl rfl rfl rfl dX5_go_161 rfl ?_
          refine V_iload (q := 166) dX5_go_164 rfl rfl ?_
          refine V_istore_n (q := 167) dX5_go_166 rfl (Nat.le_of_ble_eq_true rfl) trivial rfl ?_
          refine V_iinc (q := 170) dX5_go_167 rfl (Nat.le_of_ble_eq_true rfl) trivial rfl ?_
          refine V_goto (q := 35) dX5_go_170 (by decide) ?_
          exact V_weak (ih h) (sb_s rfl (sb_s rfl (sb_s rfl (sb_s rfl (sb_n (sb_n sb_0))))))
        · have h := ifT hc14 h
          refine V_iconst (q := 77) dX5_go_76 rfl rfl ?_
          exact V_zret rfl (Or.inl rfl) h dX5_go_77
set_option maxHeartbeats 4000000 in
set_option maxRecDepth 100000 in
theorem kX5_go (d : Nat) (hd : 3 ≤ d) {l1 : Nat} (hk1 : kD l1 = (11, 7)) {μ : Mm} {r : Int} {μ' : Mm} (h : X5_go l1 μ = some (r, μ')) : CC d mX5_go [vR 58, vR l1] μ r μ' := by
  unfold X5_go at h
  refine V_enter (by decide) (Nat.le_of_ble_eq_true rfl) ?_
  show VV d mX5_go 0 [some (vR 58), some (vR l1), none, none, none, none] [] μ r μ'
  refine V_bipush (q := 2) dX5_go_0 rfl rfl rfl ?_
  refine V_istore_n (q := 3) dX5_go_2 rfl (Nat.le_of_ble_eq_true rfl) trivial rfl ?_
  refine V_aload_n (q := 4) dX5_go_3 rfl rfl rfl ?_
  refine V_iconst (q := 5) dX5_go_4 rfl rfl ?_
  have h := sF_i h
  refine V_putI (q := 8) fl_X5_27 rfl rfl rfl dX5_go_5 rfl ?_
  refine V_aload_n (q := 9) dX5_go_8 rfl rfl rfl ?_
  refine V_iconst (q := 10) dX5_go_9 rfl rfl ?_
  have h := sF_i h
  refine V_putI (q := 13) fl_X5_30 rfl rfl rfl dX5_go_10 rfl ?_
  refine V_aload_n (q := 14) dX5_go_13 rfl rfl rfl ?_
  refine V_iconst (q := 15) dX5_go_14 rfl rfl ?_
  have h := sF_i h
  refine V_putI (q := 18) fl_X5_33 rfl rfl rfl dX5_go_15 rfl ?_
  refine V_aload_n (q := 19) dX5_go_18 rfl rfl rfl ?_
  refine V_iconst (q := 20) dX5_go_19 rfl rfl ?_
  have h := sF_i h
  refine V_putI (q := 23) fl_X5_36 rfl rfl rfl dX5_go_20 rfl ?_
  refine V_aload_n (q := 24) dX5_go_23 rfl rfl rfl ?_
  refine V_iconst (q := 25) dX5_go_24 rfl rfl ?_
  have h := sF_i h
  refine V_putI (q := 28) fl_X5_39 rfl rfl rfl dX5_go_25 rfl ?_
  refine V_aload_n (q := 29) dX5_go_28 rfl rfl rfl ?_
  refine V_iconst (q := 30) dX5_go_29 rfl rfl ?_
  have h := sF_i h
  refine V_putI (q := 33) fl_X5_42 rfl rfl rfl dX5_go_30 rfl ?_
  refine V_iconst (q := 34) dX5_go_33 rfl rfl ?_
  refine V_istore_n (q := 35) dX5_go_34 rfl (Nat.le_of_ble_eq_true rfl) trivial rfl ?_
  exact V_weak (kX5_go_L35 d hd hk1  FU h) (sb_s rfl (sb_s rfl (sb_s rfl (sb_s rfl (sb_n (sb_n sb_0))))))
