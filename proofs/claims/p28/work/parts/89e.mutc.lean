/-! POSTS taken away, CRANKS exchanged, THUDS -/
theorem cnt_upd {P : Int → Bool} {f : Nat → Int} {k : Nat} {v : Int} : ∀ n, cnt P (fun j => if j = k then v else f j) n = cnt P f n + (if k < n then (if P v then 1 else 0) - (if P (f k) then 1 else 0) else 0) := by
  intro n
  induction n with
  | zero => rw [if_neg (Nat.not_lt_zero k)]; rfl
  | succ n ih =>
    show cnt P (fun j => if j = k then v else f j) n + (if P (if n = k then v else f n) then 1 else 0) = (cnt P f n + (if P (f n) then 1 else 0)) + _
    rw [ih]
    by_cases c : k < n
    · have c2 : ¬ n = k := by omega
      have c3 : k < n + 1 := by omega
      simp only [c, c2, c3, if_true, if_false]
      omega
    · by_cases c2 : n = k
      · subst c2
        have c3 : n < n + 1 := by omega
        simp only [c, c3, if_true, if_false]
        omega
      · have c3 : ¬ k < n + 1 := by omega
        simp only [c, c2, c3, if_false]
        omega
theorem cnt_P {P : Int → Bool} {f g : Nat → Int} : ∀ n, (∀ j, j < n → P (f j) = P (g j)) → cnt P f n = cnt P g n := by
  intro n
  induction n with
  | zero => intro _; rfl
  | succ n ih =>
    intro h
    show cnt P f n + _ = cnt P g n + _
    rw [ih (fun j hj => h j (by omega)), h n (by omega)]
theorem cnt_b {P : Int → Bool} {f : Nat → Int} : ∀ n : Nat, 0 ≤ cnt P f n ∧ cnt P f n ≤ (n : Int) := by
  intro n
  induction n with
  | zero => show (0 : Int) ≤ 0 ∧ (0 : Int) ≤ 0; omega
  | succ n ih =>
    show 0 ≤ cnt P f n + (if P (f n) then 1 else 0) ∧ cnt P f n + (if P (f n) then 1 else 0) ≤ ((n + 1 : Nat) : Int)
    split <;> omega
theorem isPl_no {μ : Mm} (hB : Bm μ) {a : Int} (ha : rI a) (h : a < 0 ∨ 60 ≤ a) : X11_isPlace a μ = some (0, μ) := by
  unfold X11_isPlace
  by_cases c : a < 0
  · rw [if_pos c]
  · have h6 : 0 ≤ μ 70 23 ∧ μ 70 23 ≤ 6 := hB 70 23 (by decide)
    have h10 := (iD_10 a ha).1
    rw [if_neg c, if_pos (by omega)]
theorem isPl_y {μ : Mm} {p : Nat} (hp : p < 60) (h : isP μ p) : X11_isPlace (p : Int) μ = some (1, μ) := by
  unfold isP at h
  rw [isPl_eq (by omega), Int.toNat_natCast, if_pos h]
theorem isPl_n {μ : Mm} {p : Nat} (hp : p < 60) (h : ¬ isP μ p) : X11_isPlace (p : Int) μ = some (0, μ) := by
  unfold isP at h
  rw [isPl_eq (by omega), Int.toNat_natCast, if_neg h]
theorem Kc_knock {μ ν : Mm} (hK : Kc μ 5 82 86 30 31) {p : Nat} (hp : p < 60) (ip : isP μ p) (e82 : μ 82 p = 1) (c1 : μ 6 p = 1) (f6 : ∀ j, ν 6 j = if j = p then 0 else μ 6 j) (f82 : ∀ j, ν 82 j = if j = p then 0 else μ 82 j) (f56 : ν 5 6 = μ 5 6 - 1) (fo : ∀ k j, k ≠ 6 → ¬ (k = 5 ∧ j = 6) → k ≠ 82 → ν k j = μ k j) : Kc ν 5 82 86 30 31 := by
  obtain ⟨h1, h2, h3, h4, h5, h6, h7, h8, h9, h10⟩ := hK
  have i : ∀ q, isP ν q ↔ isP μ q := isP_congr (fo 70 23 (by decide) (by decide) (by decide)) (fo 70 24 (by decide) (by decide) (by decide))
  refine ⟨fun q hq => ?_, fun q hq => ?_, fun d hd q hq => ?_, fun d hd => ?_, ?_, ?_, ?_, ?_, ?_, fun z d hd => ?_⟩
  · show (isP ν q → ν 6 q = ν 82 q) ∧ (¬ isP ν q → ν 6 q = -1)
    rw [i q, f6, f82]
    by_cases c : q = p
    · rw [if_pos c, if_pos c]
      exact ⟨fun _ => rfl, fun n => absurd (by rw [c]; exact ip) n⟩
    · rw [if_neg c, if_neg c]; exact h1 q hq
  · rw [i q, f82, fo 5 3 (by decide) (by decide) (by decide)]
    by_cases c : q = p
    · rw [if_pos c]
      refine ⟨fun z => absurd z.2 (by decide), fun z => ?_⟩
      have := ((h2 q hq).mpr z).2
      rw [c, e82] at this
      exact absurd this (by decide)
    · rw [if_neg c]; exact h2 q hq
  · show (isP ν q ∧ ν 82 q = 3 + ((d : Nat) : Int)) ↔ ν 7 d = ((q : Nat) : Int)
    rw [i q, f82, fo 7 d (by decide) (by omega) (by decide)]
    by_cases c : q = p
    · rw [if_pos c]
      refine ⟨fun z => absurd z.2 (by omega), fun z => ?_⟩
      have := ((h3 d hd q hq).mpr z).2
      rw [c, e82] at this
      exact absurd this (by omega)
    · rw [if_neg c]; exact h3 d hd q hq
  · show -1 ≤ ν 7 d ∧ ν 7 d ≤ 59
    rw [fo 7 d (by decide) (by omega) (by decide)]; exact h4 d hd
  · rw [fo 5 4 (by decide) (by decide) (by decide), fo 70 23 (by decide) (by decide) (by decide)]; exact h5
  · rw [fo 5 5 (by decide) (by decide) (by decide), h6]
    exact (cnt_congr 8 (fun j _ => fo 7 j (by decide) (by omega) (by decide))).symm
  · have h7 : μ 5 6 = cnt is1 (μ 6) 60 := h7
    rw [f56, h7]
    have e := cnt_congr (P := is1) (f := ν 6) (g := fun j => if j = p then 0 else μ 6 j) 60 (fun j _ => f6 j)
    show _ = cnt is1 (ν 6) 60
    rw [e, cnt_upd, if_pos hp, c1]
    show _ = _ + (0 - 1)
    omega
  · rw [fo 5 7 (by decide) (by decide) (by decide), fo 70 30 (by decide) (by decide) (by decide)]; exact h8
  · rw [fo 5 8 (by decide) (by decide) (by decide), fo 70 31 (by decide) (by decide) (by decide)]; exact h9
  · show ν 8 d = ν 86 d
    rw [fo 8 d (by decide) (by omega) (by decide), fo 86 d (by decide) (by omega) (by decide)]; rw [fo 70 23 (by decide) (by decide) (by decide)] at z; exact h10 z d hd
theorem m_knock : ∀ a0, rI a0 → sI Inv Inv (X10_knock a0) (X11_knock a0) := by
  intro a ha μ hI
  have t1 := t_X10_knock (W := W70) (μs := μ) scr_70 (fun k j h => h) (hp_l1 := ha) (St_rf hI.1)
  obtain ⟨h1, h2, h3, h4, h5, h6, h7, h8, h9, h10⟩ := id hI.2.2.2.2.2.1
  by_cases c0 : 0 ≤ a ∧ a < 60
  · obtain ⟨p, rfl⟩ : ∃ p : Nat, a = (p : Int) := ⟨a.toNat, by omega⟩
    have hp : p < 60 := by omega
    have hat : X0_cellAt 5 (p : Int) μ = some (μ 6 p, μ) := by
      unfold X0_cellAt ldA
      rw [if_neg (by omega), if_neg (by omega), if_pos (by show (0 : Int) ≤ (p : Int) ∧ (p : Int) < 60; omega), Int.toNat_natCast]
    by_cases c1 : μ 6 p = 1
    · have ip : isP μ p := Classical.byContradiction (fun n => by have h := (h1 p hp).2 n; have : μ 6 p = -1 := h; omega)
      have e82 : μ 82 p = 1 := by have := (h1 p hp).1 ip; have : μ 6 p = μ 82 p := this; omega
      have h7 : μ 5 6 = cnt is1 (μ 6) 60 := h7
      have hb := cnt_b (P := is1) (f := μ 6) 60
      have e1 : X10_knock (p : Int) μ = some (1, sM (sM μ 6 p 0) 5 6 (μ 5 6 - 1)) := by
        unfold X10_knock X0_takePost
        rw [hat, bd_some, if_pos c1]
        unfold stA sF
        rw [if_pos (by show (0 : Int) ≤ (p : Int) ∧ (p : Int) < 60; omega), Int.toNat_natCast]
        dsimp only
        rw [sM_a (by decide), iS_id (by omega) (by omega), bd_some, rZ_b (Or.inr rfl)]
      have e70 : ∀ k j, 70 ≤ k → sM (sM μ 6 p 0) 5 6 (μ 5 6 - 1) k j = μ k j := fun k j hk => by rw [sM_a (by omega), sM_a (by omega)]
      have ip' : isP (sM (sM μ 6 p 0) 5 6 (μ 5 6 - 1)) p := (isP_congr (e70 70 23 (by decide)) (e70 70 24 (by decide)) p).mpr ip
      have e2 : X11_knock (p : Int) (sM (sM μ 6 p 0) 5 6 (μ 5 6 - 1)) = some (1, sM (sM (sM μ 6 p 0) 5 6 (μ 5 6 - 1)) 82 p 0) := by
        unfold X11_knock
        rw [isPl_y hp ip', bd_some, if_neg (by decide)]
        unfold ldA stA
        rw [if_pos (by show (0 : Int) ≤ (p : Int) ∧ (p : Int) < 60; omega), Int.toNat_natCast, e70 82 p (by decide), e82]
        dsimp only
        rw [if_pos rfl, if_pos (by show (0 : Int) ≤ (p : Int) ∧ (p : Int) < 60; omega)]
      have hB1 := Bx_t t1 e1
      have hIr1 : Ir (sM (sM μ 6 p 0) 5 6 (μ 5 6 - 1)) := Ir_lo (Ir_lo hI.2.1 (by decide)) (by decide)
      have hIr : Ir (sM (sM (sM μ 6 p 0) 5 6 (μ 5 6 - 1)) 82 p 0) := Ir_82 hIr1 (by rw [e70 82 p (by decide), e82]; decide) (by decide)
      have f6 : ∀ j, sM (sM (sM μ 6 p 0) 5 6 (μ 5 6 - 1)) 82 p 0 6 j = if j = p then 0 else μ 6 j := fun j => by rw [sM_a (by decide), sM_a (by decide), sM_if]
      have f82 : ∀ j, sM (sM (sM μ 6 p 0) 5 6 (μ 5 6 - 1)) 82 p 0 82 j = if j = p then 0 else μ 82 j := fun j => by rw [sM_if, e70 82 j (by decide)]
      have fo : ∀ k j, k ≠ 6 → ¬ (k = 5 ∧ j = 6) → k ≠ 82 → sM (sM (sM μ 6 p 0) 5 6 (μ 5 6 - 1)) 82 p 0 k j = μ k j := fun k j g1 g2 g3 => by
        rw [sM_a g3]
        unfold sM
        rw [if_neg (by omega), if_neg (by omega)]
      have f56 : sM (sM (sM μ 6 p 0) 5 6 (μ 5 6 - 1)) 82 p 0 5 6 = μ 5 6 - 1 := by rw [sM_a (by decide), sM_s]
      have i : ∀ q, isP (sM (sM (sM μ 6 p 0) 5 6 (μ 5 6 - 1)) 82 p 0) q ↔ isP μ q := isP_congr (fo 70 23 (by decide) (by decide) (by decide)) (fo 70 24 (by decide) (by decide) (by decide))
      refine ⟨_, _, _, e1, e2, Inv_C hI (Bx_congr hB1 (fun k j hk => sM_a (by omega))) hIr (fw_sM (fw_sM (fw_sM fw_rf (by unfold WC; omega)) (by unfold WC; omega)) (by unfold WC; omega)) ?_⟩
      exact Kc_knock hI.2.2.2.2.2.1 hp ip e82 c1 f6 f82 f56 fo
    · have e1 : X10_knock (p : Int) μ = some (0, μ) := by
        unfold X10_knock X0_takePost
        rw [hat, bd_some, if_neg c1, bd_some, rZ_b (Or.inl rfl)]
      have e2 : X11_knock (p : Int) μ = some (0, μ) := by
        unfold X11_knock
        by_cases ip : isP μ p
        · have : μ 6 p = μ 82 p := (h1 p hp).1 ip
          rw [isPl_y hp ip, bd_some, if_neg (by decide)]
          unfold ldA
          rw [if_pos (by show (0 : Int) ≤ (p : Int) ∧ (p : Int) < 60; omega), Int.toNat_natCast]
          dsimp only
          rw [if_neg (by omega)]
        · rw [isPl_n hp ip, bd_some, if_pos rfl]
      exact ⟨_, _, _, e1, e2, hI⟩
  · have e1 : X10_knock a μ = some (0, μ) := by
      unfold X10_knock X0_takePost X0_cellAt
      by_cases c : a < 0
      · rw [if_pos c, bd_some, if_neg (by decide), bd_some, rZ_b (Or.inl rfl)]
      · rw [if_neg c, if_pos (by omega), bd_some, if_neg (by decide), bd_some, rZ_b (Or.inl rfl)]
    have e2 : X11_knock a μ = some (0, μ) := by
      unfold X11_knock
      rw [isPl_no hI.2.1.1 ha (by omega), bd_some, if_pos rfl]
    exact ⟨_, _, _, e1, e2, hI⟩
def WU (k j : Nat) : Prop := (k = 67 ∧ j = 2) ∨ k = 68 ∨ k = 69 ∨ (k = 70 ∧ j = 45) ∨ k = 93 ∨ k = 94
theorem m_thud : ∀ a0, rI a0 → ∀ a1, rI a1 → sI Inv Inv (X10_thud a0 a1) (X11_thud a0 a1) := by
  intro s hs a ha μ hI
  have t1 := t_X10_thud (W := W70) (μs := μ) scr_70 (fun k j h => h) (hp_l1 := hs) (hp_l2 := ha) (St_rf hI.1)
  obtain ⟨w, e0, hw⟩ := crk hI ha
  have hc := crk_m (fun k j _ => rfl) ha hw
  obtain ⟨n, n1, n2, n3, n4⟩ := id hI.2.2.2.2.2.2.2.2
  have no1 : ∀ c1 : w = -1, X11_thud s a μ = some (-1, μ) := fun c1 => by
    unfold X11_thud
    rw [hc, bd_some, if_pos (by rw [if_pos c1])]
  by_cases c0 : 0 ≤ s ∧ s ≤ 999
  · by_cases c1 : w = -1
    · have e1 : X10_thud s a μ = some (-1, μ) := by
        unfold X10_thud
        rw [if_neg (by omega), if_neg (by omega), e0, bd_some, if_pos c1]
      exact ⟨_, _, _, e1, no1 c1, hI⟩
    · by_cases c2 : n = 10
      · have e1 : X10_thud s a μ = some (-1, μ) := by
          unfold X10_thud X8_add
          rw [if_neg (by omega), if_neg (by omega), e0, bd_some, if_neg c1, if_neg (by omega), bd_some, if_pos rfl]
        have e2 : X11_thud s a μ = some (-1, μ) := by
          unfold X11_thud
          rw [hc, bd_some, if_neg (by rw [if_neg c1]; decide), in_rg _ c0, bd_some, if_neg (by decide), if_pos (by omega)]
        exact ⟨_, _, _, e1, e2, hI⟩
      · have ha7 : 0 ≤ a ∧ a ≤ 7 := by
          rcases hw with ⟨h, _⟩ | ⟨h, h', _⟩
          · exact absurd h c1
          · exact ⟨h, h'⟩
        have e1 : X10_thud s a μ = some (((n + 1 : Nat) : Int), sM (sM (sM μ 68 n s) 69 n a) 67 2 ((n + 1 : Nat) : Int)) := by
          unfold X10_thud X8_add stA sF
          rw [if_neg (by omega), if_neg (by omega), e0, bd_some, if_neg c1, n2, if_pos (by omega), if_pos (by show (0 : Int) ≤ (n : Int) ∧ (n : Int) < 10; omega), Int.toNat_natCast]
          dsimp only
          rw [sM_a (by decide), n2, if_pos (by show (0 : Int) ≤ (n : Int) ∧ (n : Int) < 10; omega), Int.toNat_natCast, sM_a (by decide), sM_a (by decide), n2, iA_nat (by omega), bd_some, if_neg (by decide), sM_s]
        have e70 : ∀ k j, 70 ≤ k → sM (sM (sM μ 68 n s) 69 n a) 67 2 ((n + 1 : Nat) : Int) k j = μ k j := fun k j hk => by rw [sM_a (by omega), sM_a (by omega), sM_a (by omega)]
        have hc' := crk_m (μ := μ) e70 ha hw
        have e2 : X11_thud s a (sM (sM (sM μ 68 n s) 69 n a) 67 2 ((n + 1 : Nat) : Int)) = some (((n + 1 : Nat) : Int), sM (sM (sM (sM (sM (sM μ 68 n s) 69 n a) 67 2 ((n + 1 : Nat) : Int)) 93 n s) 94 n a) 70 45 ((n + 1 : Nat) : Int)) := by
          unfold X11_thud stA sF
          rw [hc', bd_some, if_neg (by rw [if_neg c1]; decide), in_rg _ c0, bd_some, if_neg (by decide), e70 70 45 (by decide), n3, if_neg (by omega), if_pos (by show (0 : Int) ≤ (n : Int) ∧ (n : Int) < 10; omega), Int.toNat_natCast]
          dsimp only
          rw [sM_a (b := 70) (by decide), e70 70 45 (by decide), n3, if_pos (by show (0 : Int) ≤ (n : Int) ∧ (n : Int) < 10; omega), Int.toNat_natCast, sM_s, sM_a (a := 94) (b := 70) (by decide), sM_a (a := 93) (b := 70) (by decide), e70 70 45 (by decide), n3, iA_nat (by omega)]
        have hf : fw WU μ (sM (sM (sM (sM (sM (sM μ 68 n s) 69 n a) 67 2 ((n + 1 : Nat) : Int)) 93 n s) 94 n a) 70 45 ((n + 1 : Nat) : Int)) := fw_sM (fw_sM (fw_sM (fw_sM (fw_sM (fw_sM fw_rf (by unfold WU; omega)) (by unfold WU; omega)) (by unfold WU; omega)) (by unfold WU; omega)) (by unfold WU; omega)) (by unfold WU; omega)
        have hB2 : Bm (sM (sM (sM (sM (sM (sM μ 68 n s) 69 n a) 67 2 ((n + 1 : Nat) : Int)) 93 n s) 94 n a) 70 45 ((n + 1 : Nat) : Int)) := Bm_sM (Bm_sM (Bm_sM (Bm_lo (Bm_lo (Bm_lo hI.2.1.1 (by decide)) (by decide)) (by decide)) (show (0 : Int) ≤ s ∧ s ≤ 999 from c0) ) (show (0 : Int) ≤ a ∧ a ≤ 7 from ha7)) (show (0 : Int) ≤ ((n + 1 : Nat) : Int) ∧ ((n + 1 : Nat) : Int) ≤ 10 by omega)
        refine ⟨_, _, _, e1, e2, Inv_W hI (Bx_congr (Bx_t t1 e1) (fun k j hk => by rw [sM_a (by omega), sM_a (by omega), sM_a (by omega)])) (Ir_congr hI.2.1 hB2 (fun k j h => hf k j (by unfold perI at h; unfold WU; omega))) hf (Or.inl ?_) (Or.inl ?_) (Or.inl ?_) (Or.inl ?_) (Or.inl ?_) (Or.inl ?_) (Or.inr ?_)⟩
        · intro k j h; unfold kT at h; unfold WU; omega
        · intro k j h; unfold kP at h; unfold WU; omega
        · intro k j h; unfold kLw at h; unfold WU; omega
        · intro k j h; unfold kCl at h; unfold WU; omega
        · intro k j h; unfold kH at h; unfold WU; omega
        · intro k j h; unfold kI at h; unfold WU; omega
        · refine ⟨n + 1, by omega, ?_, ?_, fun j hj => ?_⟩
          · rw [sM_a (by decide), sM_a (by decide), sM_a (by decide), sM_s]
          · rw [sM_s]
          · have g68 : sM (sM (sM (sM (sM (sM μ 68 n s) 69 n a) 67 2 ((n + 1 : Nat) : Int)) 93 n s) 94 n a) 70 45 ((n + 1 : Nat) : Int) 68 j = if j = n then s else μ 68 j := by
              rw [sM_a (by decide), sM_a (by decide), sM_a (by decide), sM_a (by decide), sM_a (by decide), sM_if]
            have g69 : sM (sM (sM (sM (sM (sM μ 68 n s) 69 n a) 67 2 ((n + 1 : Nat) : Int)) 93 n s) 94 n a) 70 45 ((n + 1 : Nat) : Int) 69 j = if j = n then a else μ 69 j := by
              rw [sM_a (by decide), sM_a (by decide), sM_a (by decide), sM_a (by decide), sM_if, sM_a (by decide)]
            have g93 : sM (sM (sM (sM (sM (sM μ 68 n s) 69 n a) 67 2 ((n + 1 : Nat) : Int)) 93 n s) 94 n a) 70 45 ((n + 1 : Nat) : Int) 93 j = if j = n then s else μ 93 j := by
              rw [sM_a (by decide), sM_a (by decide), sM_if, e70 93 j (by decide)]
            have g94 : sM (sM (sM (sM (sM (sM μ 68 n s) 69 n a) 67 2 ((n + 1 : Nat) : Int)) 93 n s) 94 n a) 70 45 ((n + 1 : Nat) : Int) 94 j = if j = n then a else μ 94 j := by
              rw [sM_a (by decide), sM_if, sM_a (by decide), e70 94 j (by decide)]
            rw [g68, g69, g93, g94]
            by_cases c : j = n
            · rw [if_pos c, if_pos c, if_pos c, if_pos c]; exact ⟨rfl, rfl⟩
            · rw [if_neg c, if_neg c, if_neg c, if_neg c]; exact n4 j (by omega)
  · have e1 : X10_thud s a μ = some (-1, μ) := by
      unfold X10_thud
      by_cases c : s < 0
      · rw [if_pos c]
      · rw [if_neg c, if_pos (by omega)]
    have e2 : X11_thud s a μ = some (-1, μ) := by
      unfold X11_thud
      rw [hc, bd_some]
      by_cases c1 : w = -1
      · rw [if_pos (by rw [if_pos c1])]
      · rw [if_neg (by rw [if_neg c1]; decide), in_no _ c0, bd_some, if_pos rfl]
    exact ⟨_, _, _, e1, e2, hI⟩
