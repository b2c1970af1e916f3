/-! TOTALITY of the class, by program (wip/gen/tot.py) -/
set_option maxHeartbeats 4000000 in
set_option maxRecDepth 100000 in
theorem t_X0_clear_L2 {W : Nat → Nat → Prop} {μs : Mm} {l0 : Nat} (hW : ∀ k j, scr k j → W k j) (hwC : ∀ k j, l0 ≤ k → k ≤ l0 + 3 → W k j)  (hk_l0 : kD l0 = (10, 9)) {k21 : Mm → Rs} {Q : Int → Mm → Prop} (hk_k21 : ∀ (μ : Mm), St W μs μ → True → wp (k21 μ) Q) : ∀ (n : Nat) {l1 : Int} {μ : Mm}, St W μs μ → (0 ≤ l1 ∧ l1 ≤ 60) → True → 60 - l1 + 1 ≤ ((n : Nat) : Int) → wp (X0_clear_L2 l0 k21 n l1 μ) Q := by
  have hb_l0 := kCr' hk_l0
  have hFU := FU_v
  intro n
  induction n with
  | zero => intro l1 μ hS hv_l1 hi hm; exact absurd hm (by  have : ((0 : Nat) : Int) = 0 := rfl; omega)
  | succ n ih =>
    intro l1 μ hS hv_l1 hi hm
    have hn1 : ((n + 1 : Nat) : Int) = ((n : Nat) : Int) + 1 := rfl
    rw [X0_clear_L2]
    refine wp_if (fun g3 => ?_) (fun g3 => ?_)
    · exact hk_k21  μ hS  trivial
    · refine wp_stv (P := St W μs) (by have na0 : ((aN (l0 + 1) : Nat) : Int) = 60 := (by rw [(bA_0_1 hk_l0 (by omega) 0).2.2]; rfl); omega) (pA_0_1 hk_l0 (by omega) hS (hwC _ _ (by omega) (by omega)) (by omega)) (fun m4 h4 he4 => ?_)
      exact ih h4 (by have := iA_c l1 1; omega) trivial (by have := iA_c l1 1; omega)
set_option maxHeartbeats 4000000 in
set_option maxRecDepth 100000 in
theorem t_X0_clear_L23 {W : Nat → Nat → Prop} {μs : Mm} {l0 : Nat} (hW : ∀ k j, scr k j → W k j) (hwC : ∀ k j, l0 ≤ k → k ≤ l0 + 3 → W k j)  (hk_l0 : kD l0 = (10, 9)) {k49 : Mm → Rs} {Q : Int → Mm → Prop} (hk_k49 : ∀ (μ : Mm), St W μs μ → True → wp (k49 μ) Q) : ∀ (n : Nat) {l1 : Int} {μ : Mm}, St W μs μ → (0 ≤ l1 ∧ l1 ≤ 8) → True → 8 - l1 + 1 ≤ ((n : Nat) : Int) → wp (X0_clear_L23 l0 k49 n l1 μ) Q := by
  have hb_l0 := kCr' hk_l0
  have hFU := FU_v
  intro n
  induction n with
  | zero => intro l1 μ hS hv_l1 hi hm; exact absurd hm (by  have : ((0 : Nat) : Int) = 0 := rfl; omega)
  | succ n ih =>
    intro l1 μ hS hv_l1 hi hm
    have hn1 : ((n + 1 : Nat) : Int) = ((n : Nat) : Int) + 1 := rfl
    rw [X0_clear_L23]
    refine wp_if (fun g5 => ?_) (fun g5 => ?_)
    · exact hk_k49  μ hS  trivial
    · refine wp_stv (P := St W μs) (by have na0 : ((aN (l0 + 2) : Nat) : Int) = 8 := (by rw [(bA_0_2 hk_l0 (by omega) 0).2.2]; rfl); omega) (pA_0_2 hk_l0 (by omega) hS (hwC _ _ (by omega) (by omega)) (by omega)) (fun m6 h6 he6 => ?_)
      refine wp_stv (P := St W μs) (by have na0 : ((aN (l0 + 3) : Nat) : Int) = 8 := (by rw [(bA_0_3 hk_l0 (by omega) 0).2.2]; rfl); omega) (pA_0_3 hk_l0 (by omega) h6 (hwC _ _ (by omega) (by omega)) (by omega)) (fun m8 h8 he8 => ?_)
      exact ih h8 (by have := iA_c l1 1; omega) trivial (by have := iA_c l1 1; omega)
set_option maxHeartbeats 4000000 in
set_option maxRecDepth 100000 in
theorem t_X0_clear {W : Nat → Nat → Prop} {μs : Mm} {l0 : Nat} (hW : ∀ k j, scr k j → W k j) (hwC : ∀ k j, l0 ≤ k → k ≤ l0 + 3 → W k j)  (hk_l0 : kD l0 = (10, 9)) {μ : Mm} (hS : St W μs μ) : wp (X0_clear l0 μ) (fun r μ' => St W μs μ' ∧ (-2147483648 ≤ r ∧ r ≤ 2147483647) ∧ True) := by
  have hb_l0 := kCr' hk_l0
  have hFU := FU_v
  unfold X0_clear
  refine t_X0_clear_L2 (l0 := l0) (l1 := 0) hW hwC hk_l0 (fun m8 h8  hp8 => ?_) FU hS (by omega) trivial (by omega)
  refine t_X0_clear_L23 (l0 := l0) (l1 := 0) hW hwC hk_l0 (fun m15 h15  hp15 => ?_) FU h8 (by omega) trivial (by omega)
  refine wp_sFv (P := St W μs) (pO_0_3 hk_l0 h15 (hwC _ _ (by omega) (by omega)) (by omega)) (fun m21 h21 he21 => ?_)
  refine wp_sFv (P := St W μs) (pO_0_4 hk_l0 h21 (hwC _ _ (by omega) (by omega)) (by omega)) (fun m26 h26 he26 => ?_)
  refine wp_sFv (P := St W μs) (pO_0_5 hk_l0 h26 (hwC _ _ (by omega) (by omega)) (by omega)) (fun m30 h30 he30 => ?_)
  refine wp_sFv (P := St W μs) (pO_0_6 hk_l0 h30 (hwC _ _ (by omega) (by omega)) (by omega)) (fun m33 h33 he33 => ?_)
  refine wp_sFv (P := St W μs) (pO_0_7 hk_l0 h33 (hwC _ _ (by omega) (by omega)) (by omega)) (fun m35 h35 he35 => ?_)
  exact ⟨h35, (by omega), trivial⟩
set_option maxHeartbeats 4000000 in
set_option maxRecDepth 100000 in
theorem t_X0_stands {W : Nat → Nat → Prop} {μs : Mm} {l0 : Nat}  (hk_l0 : kD l0 = (10, 9)) {μ : Mm} (hS : St W μs μ) : wp (X0_stands l0 μ) (fun r μ' => μ' = μ ∧ (0 ≤ r ∧ r ≤ 1) ∧ True) := by
  have hb_l0 := kCr' hk_l0
  have hFU := FU_v
  unfold X0_stands
  refine wp_if (fun g1 => ?_) (fun g1 => ?_)
  · exact ⟨rfl, (by have := gO_0_4 hk_l0 (by omega) hS; omega), trivial⟩
  · exact ⟨rfl, (by have := gO_0_4 hk_l0 (by omega) hS; omega), trivial⟩
set_option maxHeartbeats 4000000 in
set_option maxRecDepth 100000 in
theorem t_X4_peek_L10 {W : Nat → Nat → Prop} {μs : Mm}  (hW : ∀ k j, scr k j → W k j)   {k54 : Mm → Rs} {Q : Int → Mm → Prop} (hk_k54 : ∀ (μ : Mm), St W μs μ → True → wp (k54 μ) Q) : ∀ (n : Nat) {μ : Mm}, St W μs μ → True → 160 - μ 3 1 + 1 ≤ ((n : Nat) : Int) → wp (X4_peek_L10 k54 n μ) Q := by
  have hFU := FU_v
  intro n
  induction n with
  | zero => intro  μ hS  hi hm; exact absurd hm (by have := gO_4_1 (rfl : kD 3 = (14, 3)) (by decide) hS;  have : ((0 : Nat) : Int) = 0 := rfl; omega)
  | succ n ih =>
    intro  μ hS  hi hm
    have hn1 : ((n + 1 : Nat) : Int) = ((n : Nat) : Int) + 1 := rfl
    rw [X4_peek_L10]
    refine wp_mRv hS.1.2.1 (fun v9 hkv9 e10 => ?_)
    have hbv9 := kTr' hkv9
    refine wp_if (fun g14 => ?_) (fun g14 => ?_)
    · exact hk_k54  μ hS  trivial
    · refine wp_mRe hkv9 e10 ?_
      refine wp_ldv (by have := gO_4_1 (rfl : kD 3 = (14, 3)) (by decide) hS; have na1 : ((aN (v9 + 1) : Nat) : Int) = 160 := (by rw [(bA_7_1 hkv9 (by omega) 0).2.2]; rfl); have := gO_7_1 hkv9 (by omega) hS; omega) (fun v18 q19 => ?_)
      have hrv18 := gA_7_1 hkv9 (by omega) hS ((μ 3 1)).toNat
      rw [← q19] at hrv18
      refine wp_if (fun g21 => ?_) (fun g21 => ?_)
      · refine wp_sFv (P := St W μs) (pO_4_1 (rfl : kD 3 = (14, 3)) hS (hW _ _ (by unfold scr; omega)) (by have := gO_4_1 (rfl : kD 3 = (14, 3)) (by decide) hS; have := iA_c (μ 3 1) 1; have := gO_7_1 hkv9 (by omega) hS; omega)) (fun m22 h22 he22 => ?_)
        exact ih h22  trivial (by have := gO_4_1 (rfl : kD 3 = (14, 3)) (by decide) h22; have : m22 3 1 = (iA (μ 3 1) 1) := (by rw [he22, sM_s]); have := gO_4_1 (rfl : kD 3 = (14, 3)) (by decide) hS; have := iA_c (μ 3 1) 1; have := gO_7_1 hkv9 (by omega) hS; omega)
      · exact hk_k54  μ hS  trivial
set_option maxHeartbeats 4000000 in
set_option maxRecDepth 100000 in
theorem t_X4_peek {W : Nat → Nat → Prop} {μs : Mm}  (hW : ∀ k j, scr k j → W k j)   {μ : Mm} (hS : St W μs μ) : wp (X4_peek μ) (fun r μ' => St W μs μ' ∧ (-2147483648 ≤ r ∧ r ≤ 2147483647) ∧ (r = -1 ∨ μ' 3 1 ≤ 159)) := by
  have hFU := FU_v
  unfold X4_peek
  refine wp_if (fun g2 => ?_) (fun g2 => ?_)
  · refine t_X4_peek_L10 hW  (fun m3 h3  hp3 => ?_) FU hS  trivial (by have := gO_4_1 (rfl : kD 3 = (14, 3)) (by decide) hS; have := gO_4_2 (rfl : kD 3 = (14, 3)) (by decide) hS; omega)
    unfold X4_peek_J54
    try dsimp only
    refine wp_mRv h3.1.2.1 (fun v7 hkv7 e8 => ?_)
    have hbv7 := kTr' hkv7
    refine wp_if (fun g11 => ?_) (fun g11 => ?_)
    · exact ⟨h3, (by have := gO_4_2 (rfl : kD 3 = (14, 3)) (by decide) hS; have := gO_7_1 hkv7 (by omega) h3; have := gO_4_1 (rfl : kD 3 = (14, 3)) (by decide) h3; omega), (by show ((-1) = -1 ∨ m3 3 1 ≤ 159); exact (by have := gO_4_1 (rfl : kD 3 = (14, 3)) (by decide) h3; have := gO_4_2 (rfl : kD 3 = (14, 3)) (by decide) hS; have := gO_7_1 hkv7 (by omega) h3; omega))⟩
    · refine wp_mRe hkv7 e8 ?_
      refine wp_ldv (by have := gO_4_1 (rfl : kD 3 = (14, 3)) (by decide) h3; have na1 : ((aN (v7 + 1) : Nat) : Int) = 160 := (by rw [(bA_7_1 hkv7 (by omega) 0).2.2]; rfl); have := gO_4_2 (rfl : kD 3 = (14, 3)) (by decide) hS; have := gO_7_1 hkv7 (by omega) h3; omega) (fun v14 q15 => ?_)
      have hrv14 := gA_7_1 hkv7 (by omega) h3 ((m3 3 1)).toNat
      rw [← q15] at hrv14
      exact ⟨h3, (by have := gO_4_2 (rfl : kD 3 = (14, 3)) (by decide) hS; have := gO_7_1 hkv7 (by omega) h3; have := gO_4_1 (rfl : kD 3 = (14, 3)) (by decide) h3; omega), (by show (v14 = -1 ∨ m3 3 1 ≤ 159); exact (by have := gO_4_1 (rfl : kD 3 = (14, 3)) (by decide) h3; have := gO_4_2 (rfl : kD 3 = (14, 3)) (by decide) hS; have := gO_7_1 hkv7 (by omega) h3; omega))⟩
  · exact ⟨hS, (by have := gO_4_2 (rfl : kD 3 = (14, 3)) (by decide) hS; omega), (by show ((-1) = -1 ∨ μ 3 1 ≤ 159); exact (by have := gO_4_1 (rfl : kD 3 = (14, 3)) (by decide) hS; have := gO_4_2 (rfl : kD 3 = (14, 3)) (by decide) hS; omega))⟩
set_option maxHeartbeats 4000000 in
set_option maxRecDepth 100000 in
theorem t_X0_cellOf {W : Nat → Nat → Prop} {μs : Mm} {l0 : Int}  (hp_l0 : -2147483648 ≤ l0 ∧ l0 ≤ 2147483647) {μ : Mm} (hS : St W μs μ) : wp (X0_cellOf l0 μ) (fun r μ' => μ' = μ ∧ (-1 ≤ r ∧ r ≤ 10) ∧ True) := by
  have hFU := FU_v
  unfold X0_cellOf
  refine wp_if (fun g1 => ?_) (fun g1 => ?_)
  · exact ⟨rfl, (by omega), trivial⟩
  · refine wp_if (fun g2 => ?_) (fun g2 => ?_)
    · exact ⟨rfl, (by omega), trivial⟩
    · refine wp_if (fun g3 => ?_) (fun g3 => ?_)
      · exact ⟨rfl, (by omega), trivial⟩
      · refine wp_if (fun g4 => ?_) (fun g4 => ?_)
        · exact ⟨rfl, (by omega), trivial⟩
        · refine wp_if (fun g5 => ?_) (fun g5 => ?_)
          · exact ⟨rfl, (by omega), trivial⟩
          · exact ⟨rfl, (by have := iA_c 3 l0; have := iS_c (iA 3 l0) 65; omega), trivial⟩
set_option maxHeartbeats 4000000 in
set_option maxRecDepth 100000 in
theorem t_X0_placeOf {W : Nat → Nat → Prop} {μs : Mm} {l0 : Nat} {l1 : Int}  (hk_l0 : kD l0 = (10, 9)) (hp_l1 : -2147483648 ≤ l1 ∧ l1 ≤ 2147483647) {μ : Mm} (hS : St W μs μ) : wp (X0_placeOf l0 l1 μ) (fun r μ' => μ' = μ ∧ (-1 ≤ r ∧ r ≤ 59) ∧ (r = -1 ∨ (0 ≤ l1 ∧ l1 ≤ 7))) := by
  have hb_l0 := kCr' hk_l0
  have hFU := FU_v
  unfold X0_placeOf
  refine wp_if (fun g2 => ?_) (fun g2 => ?_)
  · exact ⟨rfl, (by omega), (by show ((-1) = -1 ∨ (0 ≤ l1 ∧ l1 ≤ 7)); exact (by omega))⟩
  · refine wp_if (fun g3 => ?_) (fun g3 => ?_)
    · exact ⟨rfl, (by omega), (by show ((-1) = -1 ∨ (0 ≤ l1 ∧ l1 ≤ 7)); exact (by omega))⟩
    · refine wp_ldv (by have na0 : ((aN (l0 + 2) : Nat) : Int) = 8 := (by rw [(bA_0_2 hk_l0 (by omega) 0).2.2]; rfl); omega) (fun v4 q5 => ?_)
      have hrv4 := gA_0_2 hk_l0 (by omega) hS (l1).toNat
      rw [← q5] at hrv4
      exact ⟨rfl, (by omega), (by show (v4 = -1 ∨ (0 ≤ l1 ∧ l1 ≤ 7)); exact (by omega))⟩
set_option maxHeartbeats 4000000 in
set_option maxRecDepth 100000 in
theorem t_X4_refuseAt {W : Nat → Nat → Prop} {μs : Mm} {l1 : Int} (hW : ∀ k j, scr k j → W k j)  (hp_l1 : -1 ≤ l1 ∧ l1 ≤ 160) {μ : Mm} (hS : St W μs μ) : wp (X4_refuseAt l1 μ) (fun r μ' => St W μs μ' ∧ (-2147483648 ≤ r ∧ r ≤ 2147483647) ∧ True) := by
  have hFU := FU_v
  unfold X4_refuseAt
  refine wp_if (fun g2 => ?_) (fun g2 => ?_)
  · refine wp_sFv (P := St W μs) (pO_4_2 (rfl : kD 3 = (14, 3)) hS (hW _ _ (by unfold scr; omega)) (by have := gO_4_2 (rfl : kD 3 = (14, 3)) (by decide) hS; omega)) (fun m3 h3 he3 => ?_)
    exact ⟨h3, (by have := gO_4_2 (rfl : kD 3 = (14, 3)) (by decide) hS; omega), trivial⟩
  · exact ⟨hS, (by have := gO_4_2 (rfl : kD 3 = (14, 3)) (by decide) hS; omega), trivial⟩
set_option maxHeartbeats 4000000 in
set_option maxRecDepth 100000 in
theorem t_X4_pass {W : Nat → Nat → Prop} {μs : Mm}  (hW : ∀ k j, scr k j → W k j)   {μ : Mm} (hS : St W μs μ) : wp (X4_pass μ) (fun r μ' => St W μs μ' ∧ (-2147483648 ≤ r ∧ r ≤ 2147483647) ∧ True) := by
  have hFU := FU_v
  unfold X4_pass
  refine wp_mRv hS.1.2.1 (fun v3 hkv3 e4 => ?_)
  have hbv3 := kTr' hkv3
  refine wp_if (fun g6 => ?_) (fun g6 => ?_)
  · exact ⟨hS, (by have := gO_7_1 hkv3 (by omega) hS; have := gO_4_1 (rfl : kD 3 = (14, 3)) (by decide) hS; omega), trivial⟩
  · refine wp_sFv (P := St W μs) (pO_4_1 (rfl : kD 3 = (14, 3)) hS (hW _ _ (by unfold scr; omega)) (by have := gO_4_1 (rfl : kD 3 = (14, 3)) (by decide) hS; have := iA_c (μ 3 1) 1; have := gO_7_1 hkv3 (by omega) hS; omega)) (fun m7 h7 he7 => ?_)
    exact ⟨h7, (by have := gO_7_1 hkv3 (by omega) hS; have := gO_4_1 (rfl : kD 3 = (14, 3)) (by decide) hS; omega), trivial⟩
set_option maxHeartbeats 4000000 in
set_option maxRecDepth 100000 in
theorem t_X0_put {W : Nat → Nat → Prop} {μs : Mm} {l0 : Nat} {l2 : Int} {l3 : Int} (hW : ∀ k j, scr k j → W k j) (hwC : ∀ k j, l0 ≤ k → k ≤ l0 + 3 → W k j)  (hk_l0 : kD l0 = (10, 9)) (hp_l2 : 0 ≤ l2 ∧ l2 ≤ 59) (hp_l3 : 0 ≤ l3 ∧ l3 ≤ 10) {μ : Mm} (hS : St W μs μ) : wp (X0_put l0 l2 l3 μ) (fun r μ' => St W μs μ' ∧ (-2147483648 ≤ r ∧ r ≤ 2147483647) ∧ True) := by
  have hb_l0 := kCr' hk_l0
  have hFU := FU_v
  unfold X0_put
  refine wp_if (fun g3 => ?_) (fun g3 => ?_)
  · refine wp_if (fun g4 => ?_) (fun g4 => ?_)
    · unfold X0_put_J41
      try dsimp only
      refine wp_if (fun g14 => ?_) (fun g14 => ?_)
      · refine wp_call (t_X4_pass hW  hS) (fun v15 m16 hh => ?_)
        obtain ⟨h16, hr16, hp16⟩ := hh
        refine wp_stv (P := St W μs) (by have na0 : ((aN (l0 + 1) : Nat) : Int) = 60 := (by rw [(bA_0_1 hk_l0 (by omega) 0).2.2]; rfl); have := gO_0_3 hk_l0 (by omega) hS; omega) (pA_0_1 hk_l0 (by omega) h16 (hwC _ _ (by omega) (by omega)) (by have := gO_0_3 hk_l0 (by omega) hS; omega)) (fun m22 h22 he22 => ?_)
        refine wp_if (fun g27 => ?_) (fun g27 => ?_)
        · refine wp_sFv (P := St W μs) (pO_0_3 hk_l0 h22 (hwC _ _ (by omega) (by omega)) (by have := gO_0_3 hk_l0 (by omega) hS; omega)) (fun m28 h28 he28 => ?_)
          exact ⟨h28, (by have := gO_0_3 hk_l0 (by omega) hS; omega), trivial⟩
        · refine wp_if (fun g29 => ?_) (fun g29 => ?_)
          · refine wp_sFv (P := St W μs) (pO_0_6 hk_l0 h22 (hwC _ _ (by omega) (by omega)) (by have := gO_0_6 hk_l0 (by omega) h22; have : m22 l0 6 = m16 l0 6 := (by rw [he22, sM_a (by omega)]); have := gO_0_6 hk_l0 (by omega) h16; have := iA_c (m22 l0 6) 1; have := gO_0_3 hk_l0 (by omega) hS; omega)) (fun m30 h30 he30 => ?_)
            exact ⟨h30, (by have := gO_0_3 hk_l0 (by omega) hS; omega), trivial⟩
          · refine wp_if (fun g31 => ?_) (fun g31 => ?_)
            · exact ⟨h22, (by have := gO_0_3 hk_l0 (by omega) hS; have := iS_c l3 3; omega), trivial⟩
            · refine wp_stv (P := St W μs) (by have := iS_c l3 3; have na1 : ((aN (l0 + 2) : Nat) : Int) = 8 := (by rw [(bA_0_2 hk_l0 (by omega) 0).2.2]; rfl); have := gO_0_3 hk_l0 (by omega) hS; omega) (pA_0_2 hk_l0 (by omega) h22 (hwC _ _ (by omega) (by omega)) (by have := gO_0_3 hk_l0 (by omega) hS; have := iS_c l3 3; omega)) (fun m32 h32 he32 => ?_)
              refine wp_sFv (P := St W μs) (pO_0_5 hk_l0 h32 (hwC _ _ (by omega) (by omega)) (by have := gO_0_5 hk_l0 (by omega) h32; have : m32 l0 5 = m22 l0 5 := (by rw [he32, sM_a (by omega)]); have := gO_0_5 hk_l0 (by omega) h22; have : m22 l0 5 = m16 l0 5 := (by rw [he22, sM_a (by omega)]); have := gO_0_5 hk_l0 (by omega) h16; have := iA_c (m32 l0 5) 1; have := gO_0_3 hk_l0 (by omega) hS; have := iS_c l3 3; omega)) (fun m34 h34 he34 => ?_)
              exact ⟨h34, (by have := gO_0_3 hk_l0 (by omega) hS; have := iS_c l3 3; omega), trivial⟩
      · refine wp_call (t_X4_refuseAt (l1 := (μ 3 1)) hW (by have := gO_4_1 (rfl : kD 3 = (14, 3)) (by decide) hS; have := gO_0_3 hk_l0 (by omega) hS; omega) hS) (fun v35 m36 hh => ?_)
        obtain ⟨h36, hr36, hp36⟩ := hh
        exact ⟨h36, (by have := gO_0_3 hk_l0 (by omega) hS; omega), trivial⟩
    · unfold X0_put_J41
      try dsimp only
      refine wp_if (fun g46 => ?_) (fun g46 => ?_)
      · refine wp_call (t_X4_pass hW  hS) (fun v47 m48 hh => ?_)
        obtain ⟨h48, hr48, hp48⟩ := hh
        refine wp_stv (P := St W μs) (by have na0 : ((aN (l0 + 1) : Nat) : Int) = 60 := (by rw [(bA_0_1 hk_l0 (by omega) 0).2.2]; rfl); have := gO_0_3 hk_l0 (by omega) hS; omega) (pA_0_1 hk_l0 (by omega) h48 (hwC _ _ (by omega) (by omega)) (by have := gO_0_3 hk_l0 (by omega) hS; omega)) (fun m54 h54 he54 => ?_)
        refine wp_if (fun g59 => ?_) (fun g59 => ?_)
        · refine wp_sFv (P := St W μs) (pO_0_3 hk_l0 h54 (hwC _ _ (by omega) (by omega)) (by have := gO_0_3 hk_l0 (by omega) hS; omega)) (fun m60 h60 he60 => ?_)
          exact ⟨h60, (by have := gO_0_3 hk_l0 (by omega) hS; omega), trivial⟩
        · refine wp_if (fun g61 => ?_) (fun g61 => ?_)
          · refine wp_sFv (P := St W μs) (pO_0_6 hk_l0 h54 (hwC _ _ (by omega) (by omega)) (by have := gO_0_6 hk_l0 (by omega) h54; have : m54 l0 6 = m48 l0 6 := (by rw [he54, sM_a (by omega)]); have := gO_0_6 hk_l0 (by omega) h48; have := iA_c (m54 l0 6) 1; have := gO_0_3 hk_l0 (by omega) hS; omega)) (fun m62 h62 he62 => ?_)
            exact ⟨h62, (by have := gO_0_3 hk_l0 (by omega) hS; omega), trivial⟩
          · refine wp_if (fun g63 => ?_) (fun g63 => ?_)
            · exact ⟨h54, (by have := gO_0_3 hk_l0 (by omega) hS; have := iS_c l3 3; omega), trivial⟩
            · refine wp_stv (P := St W μs) (by have := iS_c l3 3; have na1 : ((aN (l0 + 2) : Nat) : Int) = 8 := (by rw [(bA_0_2 hk_l0 (by omega) 0).2.2]; rfl); have := gO_0_3 hk_l0 (by omega) hS; omega) (pA_0_2 hk_l0 (by omega) h54 (hwC _ _ (by omega) (by omega)) (by have := gO_0_3 hk_l0 (by omega) hS; have := iS_c l3 3; omega)) (fun m64 h64 he64 => ?_)
              refine wp_sFv (P := St W μs) (pO_0_5 hk_l0 h64 (hwC _ _ (by omega) (by omega)) (by have := gO_0_5 hk_l0 (by omega) h64; have : m64 l0 5 = m54 l0 5 := (by rw [he64, sM_a (by omega)]); have := gO_0_5 hk_l0 (by omega) h54; have : m54 l0 5 = m48 l0 5 := (by rw [he54, sM_a (by omega)]); have := gO_0_5 hk_l0 (by omega) h48; have := iA_c (m64 l0 5) 1; have := gO_0_3 hk_l0 (by omega) hS; have := iS_c l3 3; omega)) (fun m66 h66 he66 => ?_)
              exact ⟨h66, (by have := gO_0_3 hk_l0 (by omega) hS; have := iS_c l3 3; omega), trivial⟩
      · refine wp_call (t_X4_refuseAt (l1 := (μ 3 1)) hW (by have := gO_4_1 (rfl : kD 3 = (14, 3)) (by decide) hS; have := gO_0_3 hk_l0 (by omega) hS; omega) hS) (fun v67 m68 hh => ?_)
        obtain ⟨h68, hr68, hp68⟩ := hh
        exact ⟨h68, (by have := gO_0_3 hk_l0 (by omega) hS; omega), trivial⟩
  · refine wp_calls (t_X0_placeOf (l0 := l0) (l1 := (iS l3 3))  hk_l0 (by have := iS_c l3 3; omega) hS) (fun v69 hh => ?_)
    obtain ⟨hr70, hp70⟩ := hh
    refine wp_if (fun g71 => ?_) (fun g71 => ?_)
    · unfold X0_put_J41
      try dsimp only
      refine wp_if (fun g81 => ?_) (fun g81 => ?_)
      · refine wp_call (t_X4_pass hW  hS) (fun v82 m83 hh => ?_)
        obtain ⟨h83, hr83, hp83⟩ := hh
        refine wp_stv (P := St W μs) (by have na0 : ((aN (l0 + 1) : Nat) : Int) = 60 := (by rw [(bA_0_1 hk_l0 (by omega) 0).2.2]; rfl); omega) (pA_0_1 hk_l0 (by omega) h83 (hwC _ _ (by omega) (by omega)) (by omega)) (fun m89 h89 he89 => ?_)
        refine wp_if (fun g94 => ?_) (fun g94 => ?_)
        · refine wp_sFv (P := St W μs) (pO_0_3 hk_l0 h89 (hwC _ _ (by omega) (by omega)) (by omega)) (fun m95 h95 he95 => ?_)
          exact ⟨h95, (by omega), trivial⟩
        · refine wp_if (fun g96 => ?_) (fun g96 => ?_)
          · refine wp_sFv (P := St W μs) (pO_0_6 hk_l0 h89 (hwC _ _ (by omega) (by omega)) (by have := gO_0_6 hk_l0 (by omega) h89; have : m89 l0 6 = m83 l0 6 := (by rw [he89, sM_a (by omega)]); have := gO_0_6 hk_l0 (by omega) h83; have := iA_c (m89 l0 6) 1; omega)) (fun m97 h97 he97 => ?_)
            exact ⟨h97, (by omega), trivial⟩
          · refine wp_if (fun g98 => ?_) (fun g98 => ?_)
            · exact ⟨h89, (by have := iS_c l3 3; omega), trivial⟩
            · refine wp_stv (P := St W μs) (by have := iS_c l3 3; have na1 : ((aN (l0 + 2) : Nat) : Int) = 8 := (by rw [(bA_0_2 hk_l0 (by omega) 0).2.2]; rfl); omega) (pA_0_2 hk_l0 (by omega) h89 (hwC _ _ (by omega) (by omega)) (by have := iS_c l3 3; omega)) (fun m99 h99 he99 => ?_)
              refine wp_sFv (P := St W μs) (pO_0_5 hk_l0 h99 (hwC _ _ (by omega) (by omega)) (by have := gO_0_5 hk_l0 (by omega) h99; have : m99 l0 5 = m89 l0 5 := (by rw [he99, sM_a (by omega)]); have := gO_0_5 hk_l0 (by omega) h89; have : m89 l0 5 = m83 l0 5 := (by rw [he89, sM_a (by omega)]); have := gO_0_5 hk_l0 (by omega) h83; have := iA_c (m99 l0 5) 1; have := iS_c l3 3; omega)) (fun m101 h101 he101 => ?_)
              exact ⟨h101, (by have := iS_c l3 3; omega), trivial⟩
      · refine wp_call (t_X4_refuseAt (l1 := (μ 3 1)) hW (by have := gO_4_1 (rfl : kD 3 = (14, 3)) (by decide) hS; omega) hS) (fun v102 m103 hh => ?_)
        obtain ⟨h103, hr103, hp103⟩ := hh
        exact ⟨h103, (by omega), trivial⟩
    · unfold X0_put_J41
      try dsimp only
      refine wp_if (fun g113 => ?_) (fun g113 => ?_)
      · refine wp_call (t_X4_pass hW  hS) (fun v114 m115 hh => ?_)
        obtain ⟨h115, hr115, hp115⟩ := hh
        refine wp_stv (P := St W μs) (by have na0 : ((aN (l0 + 1) : Nat) : Int) = 60 := (by rw [(bA_0_1 hk_l0 (by omega) 0).2.2]; rfl); omega) (pA_0_1 hk_l0 (by omega) h115 (hwC _ _ (by omega) (by omega)) (by omega)) (fun m121 h121 he121 => ?_)
        refine wp_if (fun g126 => ?_) (fun g126 => ?_)
        · refine wp_sFv (P := St W μs) (pO_0_3 hk_l0 h121 (hwC _ _ (by omega) (by omega)) (by omega)) (fun m127 h127 he127 => ?_)
          exact ⟨h127, (by omega), trivial⟩
        · refine wp_if (fun g128 => ?_) (fun g128 => ?_)
          · refine wp_sFv (P := St W μs) (pO_0_6 hk_l0 h121 (hwC _ _ (by omega) (by omega)) (by have := gO_0_6 hk_l0 (by omega) h121; have : m121 l0 6 = m115 l0 6 := (by rw [he121, sM_a (by omega)]); have := gO_0_6 hk_l0 (by omega) h115; have := iA_c (m121 l0 6) 1; omega)) (fun m129 h129 he129 => ?_)
            exact ⟨h129, (by omega), trivial⟩
          · refine wp_if (fun g130 => ?_) (fun g130 => ?_)
            · exact ⟨h121, (by have := iS_c l3 3; omega), trivial⟩
            · refine wp_stv (P := St W μs) (by have := iS_c l3 3; have na1 : ((aN (l0 + 2) : Nat) : Int) = 8 := (by rw [(bA_0_2 hk_l0 (by omega) 0).2.2]; rfl); omega) (pA_0_2 hk_l0 (by omega) h121 (hwC _ _ (by omega) (by omega)) (by have := iS_c l3 3; omega)) (fun m131 h131 he131 => ?_)
              refine wp_sFv (P := St W μs) (pO_0_5 hk_l0 h131 (hwC _ _ (by omega) (by omega)) (by have := gO_0_5 hk_l0 (by omega) h131; have : m131 l0 5 = m121 l0 5 := (by rw [he131, sM_a (by omega)]); have := gO_0_5 hk_l0 (by omega) h121; have : m121 l0 5 = m115 l0 5 := (by rw [he121, sM_a (by omega)]); have := gO_0_5 hk_l0 (by omega) h115; have := iA_c (m131 l0 5) 1; have := iS_c l3 3; omega)) (fun m133 h133 he133 => ?_)
              exact ⟨h133, (by have := iS_c l3 3; omega), trivial⟩
      · refine wp_call (t_X4_refuseAt (l1 := (μ 3 1)) hW (by have := gO_4_1 (rfl : kD 3 = (14, 3)) (by decide) hS; omega) hS) (fun v134 m135 hh => ?_)
        obtain ⟨h135, hr135, hp135⟩ := hh
        exact ⟨h135, (by omega), trivial⟩
set_option maxHeartbeats 4000000 in
set_option maxRecDepth 100000 in
theorem t_X0_readRow_L17 {W : Nat → Nat → Prop} {μs : Mm} {l0 : Nat} {l2 : Int} {l3 : Int} (hW : ∀ k j, scr k j → W k j) (hwC : ∀ k j, l0 ≤ k → k ≤ l0 + 3 → W k j)  (hk_l0 : kD l0 = (10, 9)) (hp_l2 : 0 ≤ l2 ∧ l2 ≤ 5) (hp_l3 : 0 ≤ l3 ∧ l3 ≤ 9) {k61 : Int → Mm → Rs} {k38 : Int → Mm → Rs} {Q : Int → Mm → Prop} (hk_k61 : ∀ (a0 : Int) (μ : Mm), St W μs μ → (0 ≤ a0 ∧ a0 ≤ 9) → True → wp (k61 a0 μ) Q) (hk_k38 : ∀ (a0 : Int) (μ : Mm), St W μs μ → (0 ≤ a0 ∧ a0 ≤ 9) → True → wp (k38 a0 μ) Q) : ∀ (n : Nat) {l4 : Int} {μ : Mm}, St W μs μ → (0 ≤ l4 ∧ l4 ≤ 9) → True → 9 - l4 + 1 ≤ ((n : Nat) : Int) → wp (X0_readRow_L17 l0 l2 l3 k61 k38 n l4 μ) Q := by
  have hb_l0 := kCr' hk_l0
  have hFU := FU_v
  intro n
  induction n with
  | zero => intro l4 μ hS hv_l4 hi hm; exact absurd hm (by  have : ((0 : Nat) : Int) = 0 := rfl; omega)
  | succ n ih =>
    intro l4 μ hS hv_l4 hi hm
    have hn1 : ((n + 1 : Nat) : Int) = ((n : Nat) : Int) + 1 := rfl
    rw [X0_readRow_L17]
    refine wp_if (fun g13 => ?_) (fun g13 => ?_)
    · exact hk_k61 l4 μ hS (by omega) trivial
    · refine wp_call (t_X4_peek hW  hS) (fun v14 m15 hh => ?_)
      obtain ⟨h15, hr15, hp15⟩ := hh
      refine wp_calls (t_X0_cellOf (l0 := v14)  (by omega) h15) (fun v20 hh => ?_)
      obtain ⟨hr21, hp21⟩ := hh
      refine wp_if (fun g24 => ?_) (fun g24 => ?_)
      · exact hk_k38 l4 m15 h15 (by omega) trivial
      · refine wp_call (t_X0_put (l0 := l0) (l2 := (iA (iM 10 l2) l4)) (l3 := v20) hW hwC hk_l0 (by have := iM_c 10 l2; have := iA_c (iM 10 l2) l4; omega) (by omega) h15) (fun v25 m26 hh => ?_)
        obtain ⟨h26, hr26, hp26⟩ := hh
        exact ih h26 (by have := iA_c l4 1; omega) trivial (by have := iA_c l4 1; omega)
set_option maxHeartbeats 4000000 in
set_option maxRecDepth 100000 in
theorem t_X0_readRow {W : Nat → Nat → Prop} {μs : Mm} {l0 : Nat} {l2 : Int} (hW : ∀ k j, scr k j → W k j) (hwC : ∀ k j, l0 ≤ k → k ≤ l0 + 3 → W k j)  (hk_l0 : kD l0 = (10, 9)) (hp_l2 : 0 ≤ l2 ∧ l2 ≤ 5) {μ : Mm} (hS : St W μs μ) : wp (X0_readRow l0 l2 μ) (fun r μ' => St W μs μ' ∧ (-2147483648 ≤ r ∧ r ≤ 2147483647) ∧ True) := by
  have hb_l0 := kCr' hk_l0
  have hFU := FU_v
  unfold X0_readRow
  refine wp_if (fun g1 => ?_) (fun g1 => ?_)
  · unfold X0_readRow_J13
    try dsimp only
    refine t_X0_readRow_L17 (l0 := l0) (l2 := l2) (l3 := 9) (l4 := 0) hW hwC hk_l0 (by omega) (by omega) (fun v6 m7 h7 hrv6 hp7 => ?_) (fun v8 m9 h9 hrv8 hp9 => ?_) FU hS (by omega) trivial (by omega)
    · unfold X0_readRow_J61
      try dsimp only
      refine wp_if (fun g11 => ?_) (fun g11 => ?_)
      · refine wp_sFv (P := St W μs) (pO_0_4 hk_l0 h7 (hwC _ _ (by omega) (by omega)) (by omega)) (fun m12 h12 he12 => ?_)
        unfold X0_readRow_J71
        try dsimp only
        refine wp_if (fun g17 => ?_) (fun g17 => ?_)
        · refine wp_call (t_X4_refuseAt (l1 := (m12 3 1)) hW (by have := gO_4_1 (rfl : kD 3 = (14, 3)) (by decide) h12; have : m12 3 1 = m7 3 1 := (by rw [he12, sM_a (by omega)]); have := gO_4_1 (rfl : kD 3 = (14, 3)) (by decide) h7; omega) h12) (fun v18 m19 hh => ?_)
          obtain ⟨h19, hr19, hp19⟩ := hh
          exact ⟨h19, (by omega), trivial⟩
        · refine wp_if (fun g20 => ?_) (fun g20 => ?_)
          · exact ⟨h12, (by have := gO_0_4 hk_l0 (by omega) h12; have : m12 l0 4 = v6 := (by rw [he12, sM_s]); omega), trivial⟩
          · refine wp_call (t_X4_refuseAt (l1 := (m12 3 1)) hW (by have := gO_4_1 (rfl : kD 3 = (14, 3)) (by decide) h12; have : m12 3 1 = m7 3 1 := (by rw [he12, sM_a (by omega)]); have := gO_4_1 (rfl : kD 3 = (14, 3)) (by decide) h7; have := gO_0_4 hk_l0 (by omega) h12; have : m12 l0 4 = v6 := (by rw [he12, sM_s]); omega) h12) (fun v21 m22 hh => ?_)
            obtain ⟨h22, hr22, hp22⟩ := hh
            exact ⟨h22, (by have := gO_0_4 hk_l0 (by omega) h12; have : m12 l0 4 = v6 := (by rw [he12, sM_s]); omega), trivial⟩
      · unfold X0_readRow_J71
        try dsimp only
        refine wp_if (fun g27 => ?_) (fun g27 => ?_)
        · refine wp_call (t_X4_refuseAt (l1 := (m7 3 1)) hW (by have := gO_4_1 (rfl : kD 3 = (14, 3)) (by decide) h7; omega) h7) (fun v28 m29 hh => ?_)
          obtain ⟨h29, hr29, hp29⟩ := hh
          exact ⟨h29, (by omega), trivial⟩
        · refine wp_if (fun g30 => ?_) (fun g30 => ?_)
          · exact ⟨h7, (by have := gO_0_4 hk_l0 (by omega) h7; omega), trivial⟩
          · refine wp_call (t_X4_refuseAt (l1 := (m7 3 1)) hW (by have := gO_4_1 (rfl : kD 3 = (14, 3)) (by decide) h7; have := gO_0_4 hk_l0 (by omega) h7; omega) h7) (fun v31 m32 hh => ?_)
            obtain ⟨h32, hr32, hp32⟩ := hh
            exact ⟨h32, (by have := gO_0_4 hk_l0 (by omega) h7; omega), trivial⟩
    · unfold X0_readRow_J61
      try dsimp only
      refine wp_if (fun g34 => ?_) (fun g34 => ?_)
      · refine wp_sFv (P := St W μs) (pO_0_4 hk_l0 h9 (hwC _ _ (by omega) (by omega)) (by omega)) (fun m35 h35 he35 => ?_)
        unfold X0_readRow_J71
        try dsimp only
        refine wp_if (fun g40 => ?_) (fun g40 => ?_)
        · refine wp_call (t_X4_refuseAt (l1 := (m35 3 1)) hW (by have := gO_4_1 (rfl : kD 3 = (14, 3)) (by decide) h35; have : m35 3 1 = m9 3 1 := (by rw [he35, sM_a (by omega)]); have := gO_4_1 (rfl : kD 3 = (14, 3)) (by decide) h9; omega) h35) (fun v41 m42 hh => ?_)
          obtain ⟨h42, hr42, hp42⟩ := hh
          exact ⟨h42, (by omega), trivial⟩
        · refine wp_if (fun g43 => ?_) (fun g43 => ?_)
          · exact ⟨h35, (by have := gO_0_4 hk_l0 (by omega) h35; have : m35 l0 4 = v8 := (by rw [he35, sM_s]); omega), trivial⟩
          · refine wp_call (t_X4_refuseAt (l1 := (m35 3 1)) hW (by have := gO_4_1 (rfl : kD 3 = (14, 3)) (by decide) h35; have : m35 3 1 = m9 3 1 := (by rw [he35, sM_a (by omega)]); have := gO_4_1 (rfl : kD 3 = (14, 3)) (by decide) h9; have := gO_0_4 hk_l0 (by omega) h35; have : m35 l0 4 = v8 := (by rw [he35, sM_s]); omega) h35) (fun v44 m45 hh => ?_)
            obtain ⟨h45, hr45, hp45⟩ := hh
            exact ⟨h45, (by have := gO_0_4 hk_l0 (by omega) h35; have : m35 l0 4 = v8 := (by rw [he35, sM_s]); omega), trivial⟩
      · unfold X0_readRow_J71
        try dsimp only
        refine wp_if (fun g50 => ?_) (fun g50 => ?_)
        · refine wp_call (t_X4_refuseAt (l1 := (m9 3 1)) hW (by have := gO_4_1 (rfl : kD 3 = (14, 3)) (by decide) h9; omega) h9) (fun v51 m52 hh => ?_)
          obtain ⟨h52, hr52, hp52⟩ := hh
          exact ⟨h52, (by omega), trivial⟩
        · refine wp_if (fun g53 => ?_) (fun g53 => ?_)
          · exact ⟨h9, (by have := gO_0_4 hk_l0 (by omega) h9; omega), trivial⟩
          · refine wp_call (t_X4_refuseAt (l1 := (m9 3 1)) hW (by have := gO_4_1 (rfl : kD 3 = (14, 3)) (by decide) h9; have := gO_0_4 hk_l0 (by omega) h9; omega) h9) (fun v54 m55 hh => ?_)
            obtain ⟨h55, hr55, hp55⟩ := hh
            exact ⟨h55, (by have := gO_0_4 hk_l0 (by omega) h9; omega), trivial⟩
  · unfold X0_readRow_J13
    try dsimp only
    refine t_X0_readRow_L17 (l0 := l0) (l2 := l2) (l3 := (μ l0 4)) (l4 := 0) hW hwC hk_l0 (by omega) (by have := gO_0_4 hk_l0 (by omega) hS; omega) (fun v60 m61 h61 hrv60 hp61 => ?_) (fun v62 m63 h63 hrv62 hp63 => ?_) FU hS (by omega) trivial (by omega)
    · unfold X0_readRow_J61
      try dsimp only
      refine wp_if (fun g65 => ?_) (fun g65 => ?_)
      · refine wp_sFv (P := St W μs) (pO_0_4 hk_l0 h61 (hwC _ _ (by omega) (by omega)) (by omega)) (fun m66 h66 he66 => ?_)
        unfold X0_readRow_J71
        try dsimp only
        refine wp_if (fun g71 => ?_) (fun g71 => ?_)
        · refine wp_call (t_X4_refuseAt (l1 := (m66 3 1)) hW (by have := gO_4_1 (rfl : kD 3 = (14, 3)) (by decide) h66; have : m66 3 1 = m61 3 1 := (by rw [he66, sM_a (by omega)]); have := gO_4_1 (rfl : kD 3 = (14, 3)) (by decide) h61; omega) h66) (fun v72 m73 hh => ?_)
          obtain ⟨h73, hr73, hp73⟩ := hh
          exact ⟨h73, (by omega), trivial⟩
        · refine wp_if (fun g74 => ?_) (fun g74 => ?_)
          · exact ⟨h66, (by have := gO_0_4 hk_l0 (by omega) h66; have : m66 l0 4 = v60 := (by rw [he66, sM_s]); omega), trivial⟩
          · refine wp_call (t_X4_refuseAt (l1 := (m66 3 1)) hW (by have := gO_4_1 (rfl : kD 3 = (14, 3)) (by decide) h66; have : m66 3 1 = m61 3 1 := (by rw [he66, sM_a (by omega)]); have := gO_4_1 (rfl : kD 3 = (14, 3)) (by decide) h61; have := gO_0_4 hk_l0 (by omega) h66; have : m66 l0 4 = v60 := (by rw [he66, sM_s]); omega) h66) (fun v75 m76 hh => ?_)
            obtain ⟨h76, hr76, hp76⟩ := hh
            exact ⟨h76, (by have := gO_0_4 hk_l0 (by omega) h66; have : m66 l0 4 = v60 := (by rw [he66, sM_s]); omega), trivial⟩
      · unfold X0_readRow_J71
        try dsimp only
        refine wp_if (fun g81 => ?_) (fun g81 => ?_)
        · refine wp_call (t_X4_refuseAt (l1 := (m61 3 1)) hW (by have := gO_4_1 (rfl : kD 3 = (14, 3)) (by decide) h61; omega) h61) (fun v82 m83 hh => ?_)
          obtain ⟨h83, hr83, hp83⟩ := hh
          exact ⟨h83, (by omega), trivial⟩
        · refine wp_if (fun g84 => ?_) (fun g84 => ?_)
          · exact ⟨h61, (by have := gO_0_4 hk_l0 (by omega) h61; omega), trivial⟩
          · refine wp_call (t_X4_refuseAt (l1 := (m61 3 1)) hW (by have := gO_4_1 (rfl : kD 3 = (14, 3)) (by decide) h61; have := gO_0_4 hk_l0 (by omega) h61; omega) h61) (fun v85 m86 hh => ?_)
            obtain ⟨h86, hr86, hp86⟩ := hh
            exact ⟨h86, (by have := gO_0_4 hk_l0 (by omega) h61; omega), trivial⟩
    · unfold X0_readRow_J61
      try dsimp only
      refine wp_if (fun g88 => ?_) (fun g88 => ?_)
      · refine wp_sFv (P := St W μs) (pO_0_4 hk_l0 h63 (hwC _ _ (by omega) (by omega)) (by omega)) (fun m89 h89 he89 => ?_)
        unfold X0_readRow_J71
        try dsimp only
        refine wp_if (fun g94 => ?_) (fun g94 => ?_)
        · refine wp_call (t_X4_refuseAt (l1 := (m89 3 1)) hW (by have := gO_4_1 (rfl : kD 3 = (14, 3)) (by decide) h89; have : m89 3 1 = m63 3 1 := (by rw [he89, sM_a (by omega)]); have := gO_4_1 (rfl : kD 3 = (14, 3)) (by decide) h63; omega) h89) (fun v95 m96 hh => ?_)
          obtain ⟨h96, hr96, hp96⟩ := hh
          exact ⟨h96, (by omega), trivial⟩
        · refine wp_if (fun g97 => ?_) (fun g97 => ?_)
          · exact ⟨h89, (by have := gO_0_4 hk_l0 (by omega) h89; have : m89 l0 4 = v62 := (by rw [he89, sM_s]); omega), trivial⟩
          · refine wp_call (t_X4_refuseAt (l1 := (m89 3 1)) hW (by have := gO_4_1 (rfl : kD 3 = (14, 3)) (by decide) h89; have : m89 3 1 = m63 3 1 := (by rw [he89, sM_a (by omega)]); have := gO_4_1 (rfl : kD 3 = (14, 3)) (by decide) h63; have := gO_0_4 hk_l0 (by omega) h89; have : m89 l0 4 = v62 := (by rw [he89, sM_s]); omega) h89) (fun v98 m99 hh => ?_)
            obtain ⟨h99, hr99, hp99⟩ := hh
            exact ⟨h99, (by have := gO_0_4 hk_l0 (by omega) h89; have : m89 l0 4 = v62 := (by rw [he89, sM_s]); omega), trivial⟩
      · unfold X0_readRow_J71
        try dsimp only
        refine wp_if (fun g104 => ?_) (fun g104 => ?_)
        · refine wp_call (t_X4_refuseAt (l1 := (m63 3 1)) hW (by have := gO_4_1 (rfl : kD 3 = (14, 3)) (by decide) h63; omega) h63) (fun v105 m106 hh => ?_)
          obtain ⟨h106, hr106, hp106⟩ := hh
          exact ⟨h106, (by omega), trivial⟩
        · refine wp_if (fun g107 => ?_) (fun g107 => ?_)
          · exact ⟨h63, (by have := gO_0_4 hk_l0 (by omega) h63; omega), trivial⟩
          · refine wp_call (t_X4_refuseAt (l1 := (m63 3 1)) hW (by have := gO_4_1 (rfl : kD 3 = (14, 3)) (by decide) h63; have := gO_0_4 hk_l0 (by omega) h63; omega) h63) (fun v108 m109 hh => ?_)
            obtain ⟨h109, hr109, hp109⟩ := hh
            exact ⟨h109, (by have := gO_0_4 hk_l0 (by omega) h63; omega), trivial⟩
set_option maxHeartbeats 4000000 in
set_option maxRecDepth 100000 in
theorem t_X4_take {W : Nat → Nat → Prop} {μs : Mm} {l1 : Int} (hW : ∀ k j, scr k j → W k j)  (hp_l1 : 1 ≤ l1 ∧ l1 ≤ 255) {μ : Mm} (hS : St W μs μ) : wp (X4_take l1 μ) (fun r μ' => St W μs μ' ∧ (0 ≤ r ∧ r ≤ 1) ∧ True) := by
  have hFU := FU_v
  unfold X4_take
  refine wp_call (t_X4_peek hW  hS) (fun v4 m5 hh => ?_)
  obtain ⟨h5, hr5, hp5⟩ := hh
  refine wp_if (fun g7 => ?_) (fun g7 => ?_)
  · refine wp_sFv (P := St W μs) (pO_4_1 (rfl : kD 3 = (14, 3)) h5 (hW _ _ (by unfold scr; omega)) (by have := gO_4_1 (rfl : kD 3 = (14, 3)) (by decide) h5; have := iA_c (m5 3 1) 1; omega)) (fun m8 h8 he8 => ?_)
    exact ⟨h8, (by omega), trivial⟩
  · exact ⟨h5, (by omega), trivial⟩
set_option maxHeartbeats 4000000 in
set_option maxRecDepth 100000 in
theorem t_X4_needEnd {W : Nat → Nat → Prop} {μs : Mm}  (hW : ∀ k j, scr k j → W k j)   {μ : Mm} (hS : St W μs μ) : wp (X4_needEnd μ) (fun r μ' => St W μs μ' ∧ (-2147483648 ≤ r ∧ r ≤ 2147483647) ∧ True) := by
  have hFU := FU_v
  unfold X4_needEnd
  refine wp_call (t_X4_peek hW  hS) (fun v5 m6 hh => ?_)
  obtain ⟨h6, hr6, hp6⟩ := hh
  refine wp_if (fun g9 => ?_) (fun g9 => ?_)
  · exact ⟨h6, (by omega), trivial⟩
  · refine wp_call (t_X4_refuseAt (l1 := (m6 3 1)) hW (by have := gO_4_1 (rfl : kD 3 = (14, 3)) (by decide) h6; omega) h6) (fun v10 m11 hh => ?_)
    obtain ⟨h11, hr11, hp11⟩ := hh
    exact ⟨h11, (by omega), trivial⟩
set_option maxHeartbeats 4000000 in
set_option maxRecDepth 100000 in
theorem t_X0_read_L12 {W : Nat → Nat → Prop} {μs : Mm} {l0 : Nat} (hW : ∀ k j, scr k j → W k j) (hwC : ∀ k j, l0 ≤ k → k ≤ l0 + 3 → W k j)  (hk_l0 : kD l0 = (10, 9)) {k39 : Mm → Rs} {Q : Int → Mm → Prop} (hk_k39 : ∀ (μ : Mm), St W μs μ → True → wp (k39 μ) Q) : ∀ (n : Nat) {l2 : Int} {μ : Mm}, St W μs μ → (1 ≤ l2 ∧ l2 ≤ 6) → True → 6 - l2 + 1 ≤ ((n : Nat) : Int) → wp (X0_read_L12 l0 k39 n l2 μ) Q := by
  have hb_l0 := kCr' hk_l0
  have hFU := FU_v
  intro n
  induction n with
  | zero => intro l2 μ hS hv_l2 hi hm; exact absurd hm (by  have : ((0 : Nat) : Int) = 0 := rfl; omega)
  | succ n ih =>
    intro l2 μ hS hv_l2 hi hm
    have hn1 : ((n + 1 : Nat) : Int) = ((n : Nat) : Int) + 1 := rfl
    rw [X0_read_L12]
    refine wp_if (fun g9 => ?_) (fun g9 => ?_)
    · exact hk_k39  μ hS  trivial
    · refine wp_call (t_X4_take (l1 := 47) hW (by omega) hS) (fun v10 m11 hh => ?_)
      obtain ⟨h11, hr11, hp11⟩ := hh
      refine wp_if (fun g14 => ?_) (fun g14 => ?_)
      · exact hk_k39  m11 h11  trivial
      · refine wp_call (t_X0_readRow (l0 := l0) (l2 := l2) hW hwC hk_l0 (by omega) h11) (fun v15 m16 hh => ?_)
        obtain ⟨h16, hr16, hp16⟩ := hh
        exact ih h16 (by have := iA_c l2 1; omega) trivial (by have := iA_c l2 1; omega)
set_option maxHeartbeats 4000000 in
set_option maxRecDepth 100000 in
theorem t_X0_read {W : Nat → Nat → Prop} {μs : Mm} {l0 : Nat} (hW : ∀ k j, scr k j → W k j) (hwC : ∀ k j, l0 ≤ k → k ≤ l0 + 3 → W k j)  (hk_l0 : kD l0 = (10, 9)) {μ : Mm} (hS : St W μs μ) : wp (X0_read l0 μ) (fun r μ' => St W μs μ' ∧ (-2147483648 ≤ r ∧ r ≤ 2147483647) ∧ True) := by
  have hb_l0 := kCr' hk_l0
  have hFU := FU_v
  unfold X0_read
  refine wp_call (t_X0_clear (l0 := l0) hW hwC hk_l0 hS) (fun v6 m7 hh => ?_)
  obtain ⟨h7, hr7, hp7⟩ := hh
  refine wp_call (t_X0_readRow (l0 := l0) (l2 := 0) hW hwC hk_l0 (by omega) h7) (fun v11 m12 hh => ?_)
  obtain ⟨h12, hr12, hp12⟩ := hh
  refine t_X0_read_L12 (l0 := l0) (l2 := 1) hW hwC hk_l0 (fun m14 h14  hp14 => ?_) FU h12 (by omega) trivial (by omega)
  unfold X0_read_J39
  try dsimp only
  refine wp_call (t_X4_needEnd hW  h14) (fun v21 m22 hh => ?_)
  obtain ⟨h22, hr22, hp22⟩ := hh
  refine wp_if (fun g27 => ?_) (fun g27 => ?_)
  · refine wp_call (t_X4_refuseAt (l1 := (m22 3 1)) hW (by have := gO_4_1 (rfl : kD 3 = (14, 3)) (by decide) h22; have := gO_0_3 hk_l0 (by omega) h22; omega) h22) (fun v28 m29 hh => ?_)
    obtain ⟨h29, hr29, hp29⟩ := hh
    exact ⟨h29, (by have := gO_4_2 (rfl : kD 3 = (14, 3)) (by decide) h29; have := gO_0_3 hk_l0 (by omega) h22; omega), trivial⟩
  · refine wp_if (fun g30 => ?_) (fun g30 => ?_)
    · refine wp_call (t_X4_refuseAt (l1 := (m22 3 1)) hW (by have := gO_4_1 (rfl : kD 3 = (14, 3)) (by decide) h22; have := gO_0_3 hk_l0 (by omega) h22; have := gO_0_5 hk_l0 (by omega) h22; omega) h22) (fun v31 m32 hh => ?_)
      obtain ⟨h32, hr32, hp32⟩ := hh
      exact ⟨h32, (by have := gO_4_2 (rfl : kD 3 = (14, 3)) (by decide) h32; have := gO_0_3 hk_l0 (by omega) h22; have := gO_0_5 hk_l0 (by omega) h22; omega), trivial⟩
    · exact ⟨h22, (by have := gO_4_2 (rfl : kD 3 = (14, 3)) (by decide) h22; have := gO_0_3 hk_l0 (by omega) h22; have := gO_0_5 hk_l0 (by omega) h22; omega), trivial⟩
set_option maxHeartbeats 4000000 in
set_option maxRecDepth 100000 in
theorem t_X0_copy {W : Nat → Nat → Prop} {μs : Mm} {l0 : Nat} {l1 : Nat} (hW : ∀ k j, scr k j → W k j) (hwC : ∀ k j, l0 ≤ k → k ≤ l0 + 3 → W k j)  (hk_l0 : kD l0 = (10, 9)) (hk_l1 : kD l1 = (10, 9)) {μ : Mm} (hS : St W μs μ) : wp (X0_copy l0 l1 μ) (fun r μ' => St W μs μ' ∧ (-2147483648 ≤ r ∧ r ≤ 2147483647) ∧ True) := by
  have hb_l0 := kCr' hk_l0
  have hb_l1 := kCr' hk_l1
  have hFU := FU_v
  unfold X0_copy
  refine wp_cpv (P := St W μs) (by have na0 : ((aN (l1 + 1) : Nat) : Int) = 60 := (by rw [(bA_0_1 hk_l1 (by omega) 0).2.2]; rfl); have na1 : ((aN (l0 + 1) : Nat) : Int) = 60 := (by rw [(bA_0_1 hk_l0 (by omega) 0).2.2]; rfl); omega) (St_cA hS (by omega) (fun j => (hwC _ _ (by omega) (by omega))) (fun j => by rw [show bx (l1 + 1) j = _ from (bA_0_1 hk_l1 (by omega) j).1, show bx (l0 + 1) j = _ from (bA_0_1 hk_l0 (by omega) j).1]) (bA_0_1 hk_l0 (by omega) 0).2.1) (fun m10 h10 => ?_)
  refine wp_cpv (P := St W μs) (by have na0 : ((aN (l1 + 2) : Nat) : Int) = 8 := (by rw [(bA_0_2 hk_l1 (by omega) 0).2.2]; rfl); have na1 : ((aN (l0 + 2) : Nat) : Int) = 8 := (by rw [(bA_0_2 hk_l0 (by omega) 0).2.2]; rfl); omega) (St_cA h10 (by omega) (fun j => (hwC _ _ (by omega) (by omega))) (fun j => by rw [show bx (l1 + 2) j = _ from (bA_0_2 hk_l1 (by omega) j).1, show bx (l0 + 2) j = _ from (bA_0_2 hk_l0 (by omega) j).1]) (bA_0_2 hk_l0 (by omega) 0).2.1) (fun m19 h19 => ?_)
  refine wp_cpv (P := St W μs) (by have na0 : ((aN (l1 + 3) : Nat) : Int) = 8 := (by rw [(bA_0_3 hk_l1 (by omega) 0).2.2]; rfl); have na1 : ((aN (l0 + 3) : Nat) : Int) = 8 := (by rw [(bA_0_3 hk_l0 (by omega) 0).2.2]; rfl); omega) (St_cA h19 (by omega) (fun j => (hwC _ _ (by omega) (by omega))) (fun j => by rw [show bx (l1 + 3) j = _ from (bA_0_3 hk_l1 (by omega) j).1, show bx (l0 + 3) j = _ from (bA_0_3 hk_l0 (by omega) j).1]) (bA_0_3 hk_l0 (by omega) 0).2.1) (fun m27 h27 => ?_)
  refine wp_sFv (P := St W μs) (pO_0_3 hk_l0 h27 (hwC _ _ (by omega) (by omega)) (by have := gO_0_3 hk_l1 (by omega) h27; omega)) (fun m34 h34 he34 => ?_)
  refine wp_sFv (P := St W μs) (pO_0_4 hk_l0 h34 (hwC _ _ (by omega) (by omega)) (by have := gO_0_4 hk_l1 (by omega) h34; omega)) (fun m40 h40 he40 => ?_)
  refine wp_sFv (P := St W μs) (pO_0_5 hk_l0 h40 (hwC _ _ (by omega) (by omega)) (by have := gO_0_5 hk_l1 (by omega) h40; omega)) (fun m45 h45 he45 => ?_)
  refine wp_sFv (P := St W μs) (pO_0_6 hk_l0 h45 (hwC _ _ (by omega) (by omega)) (by have := gO_0_6 hk_l1 (by omega) h45; omega)) (fun m49 h49 he49 => ?_)
  refine wp_sFv (P := St W μs) (pO_0_7 hk_l0 h49 (hwC _ _ (by omega) (by omega)) (by have := gO_0_7 hk_l1 (by omega) h49; omega)) (fun m52 h52 he52 => ?_)
  refine wp_sFv (P := St W μs) (pO_0_8 hk_l0 h52 (hwC _ _ (by omega) (by omega)) (by have := gO_0_8 hk_l1 (by omega) h52; omega)) (fun m54 h54 he54 => ?_)
  exact ⟨h54, (by omega), trivial⟩
set_option maxHeartbeats 4000000 in
set_option maxRecDepth 100000 in
theorem t_X0_windOf {W : Nat → Nat → Prop} {μs : Mm} {l0 : Nat} {l1 : Int}  (hk_l0 : kD l0 = (10, 9)) (hp_l1 : -2147483648 ≤ l1 ∧ l1 ≤ 2147483647) {μ : Mm} (hS : St W μs μ) : wp (X0_windOf l0 l1 μ) (fun r μ' => μ' = μ ∧ (1 ≤ r ∧ r ≤ 30) ∧ True) := by
  have hb_l0 := kCr' hk_l0
  have hFU := FU_v
  unfold X0_windOf
  refine wp_if (fun g2 => ?_) (fun g2 => ?_)
  · exact ⟨rfl, (by omega), trivial⟩
  · refine wp_if (fun g3 => ?_) (fun g3 => ?_)
    · exact ⟨rfl, (by omega), trivial⟩
    · refine wp_ldv (by have na0 : ((aN (l0 + 3) : Nat) : Int) = 8 := (by rw [(bA_0_3 hk_l0 (by omega) 0).2.2]; rfl); omega) (fun v4 q5 => ?_)
      have hrv4 := gA_0_3 hk_l0 (by omega) hS (l1).toNat
      rw [← q5] at hrv4
      exact ⟨rfl, (by omega), trivial⟩
set_option maxHeartbeats 4000000 in
set_option maxRecDepth 100000 in
theorem t_X0_cellAt {W : Nat → Nat → Prop} {μs : Mm} {l0 : Nat} {l1 : Int}  (hk_l0 : kD l0 = (10, 9)) (hp_l1 : -2147483648 ≤ l1 ∧ l1 ≤ 2147483647) {μ : Mm} (hS : St W μs μ) : wp (X0_cellAt l0 l1 μ) (fun r μ' => μ' = μ ∧ (-1 ≤ r ∧ r ≤ 10) ∧ (r = -1 ∨ (0 ≤ l1 ∧ l1 ≤ 59))) := by
  have hb_l0 := kCr' hk_l0
  have hFU := FU_v
  unfold X0_cellAt
  refine wp_if (fun g2 => ?_) (fun g2 => ?_)
  · exact ⟨rfl, (by omega), (by show ((-1) = -1 ∨ (0 ≤ l1 ∧ l1 ≤ 59)); exact (by omega))⟩
  · refine wp_if (fun g3 => ?_) (fun g3 => ?_)
    · exact ⟨rfl, (by omega), (by show ((-1) = -1 ∨ (0 ≤ l1 ∧ l1 ≤ 59)); exact (by omega))⟩
    · refine wp_ldv (by have na0 : ((aN (l0 + 1) : Nat) : Int) = 60 := (by rw [(bA_0_1 hk_l0 (by omega) 0).2.2]; rfl); omega) (fun v4 q5 => ?_)
      have hrv4 := gA_0_1 hk_l0 (by omega) hS (l1).toNat
      rw [← q5] at hrv4
      exact ⟨rfl, (by omega), (by show (v4 = -1 ∨ (0 ≤ l1 ∧ l1 ≤ 59)); exact (by omega))⟩
set_option maxHeartbeats 4000000 in
set_option maxRecDepth 100000 in
theorem t_X0_isOpen {W : Nat → Nat → Prop} {μs : Mm} {l0 : Nat} {l1 : Int}  (hk_l0 : kD l0 = (10, 9)) (hp_l1 : -2147483648 ≤ l1 ∧ l1 ≤ 2147483647) {μ : Mm} (hS : St W μs μ) : wp (X0_isOpen l0 l1 μ) (fun r μ' => μ' = μ ∧ (0 ≤ r ∧ r ≤ 1) ∧ (r = 0 ∨ (0 ≤ l1 ∧ l1 ≤ 59))) := by
  have hb_l0 := kCr' hk_l0
  have hFU := FU_v
  unfold X0_isOpen
  refine wp_if (fun g3 => ?_) (fun g3 => ?_)
  · exact ⟨rfl, (by omega), (by show (0 = 0 ∨ (0 ≤ l1 ∧ l1 ≤ 59)); exact (by omega))⟩
  · refine wp_if (fun g4 => ?_) (fun g4 => ?_)
    · exact ⟨rfl, (by omega), (by show (0 = 0 ∨ (0 ≤ l1 ∧ l1 ≤ 59)); exact (by omega))⟩
    · refine wp_ldv (by have na0 : ((aN (l0 + 1) : Nat) : Int) = 60 := (by rw [(bA_0_1 hk_l0 (by omega) 0).2.2]; rfl); omega) (fun v5 q6 => ?_)
      have hrv5 := gA_0_1 hk_l0 (by omega) hS (l1).toNat
      rw [← q6] at hrv5
      refine wp_if (fun g8 => ?_) (fun g8 => ?_)
      · exact ⟨rfl, (by omega), (by show (0 = 0 ∨ (0 ≤ l1 ∧ l1 ≤ 59)); exact (by omega))⟩
      · refine wp_ldv (by have na0 : ((aN (l0 + 1) : Nat) : Int) = 60 := (by rw [(bA_0_1 hk_l0 (by omega) 0).2.2]; rfl); omega) (fun v9 q10 => ?_)
        have hrv9 := gA_0_1 hk_l0 (by omega) hS (l1).toNat
        rw [← q10] at hrv9
        refine wp_if (fun g11 => ?_) (fun g11 => ?_)
        · exact ⟨rfl, (by omega), (by show (0 = 0 ∨ (0 ≤ l1 ∧ l1 ≤ 59)); exact (by omega))⟩
        · exact ⟨rfl, (by omega), (by show (1 = 0 ∨ (0 ≤ l1 ∧ l1 ≤ 59)); exact (by omega))⟩
set_option maxHeartbeats 4000000 in
set_option maxRecDepth 100000 in
theorem t_X0_tellStoop {W : Nat → Nat → Prop} {μs : Mm} {l0 : Nat} {l1 : Int} (hW : ∀ k j, scr k j → W k j) (hwC : ∀ k j, l0 ≤ k → k ≤ l0 + 3 → W k j)  (hk_l0 : kD l0 = (10, 9)) (hp_l1 : -2147483648 ≤ l1 ∧ l1 ≤ 2147483647) {μ : Mm} (hS : St W μs μ) : wp (X0_tellStoop l0 l1 μ) (fun r μ' => St W μs μ' ∧ (0 ≤ r ∧ r ≤ 1) ∧ True) := by
  have hb_l0 := kCr' hk_l0
  have hFU := FU_v
  unfold X0_tellStoop
  refine wp_calls (t_X0_stands (l0 := l0)  hk_l0 hS) (fun v4 hh => ?_)
  obtain ⟨hr5, hp5⟩ := hh
  refine wp_if (fun g7 => ?_) (fun g7 => ?_)
  · exact ⟨hS, (by omega), trivial⟩
  · refine wp_if (fun g8 => ?_) (fun g8 => ?_)
    · exact ⟨hS, (by omega), trivial⟩
    · refine wp_if (fun g9 => ?_) (fun g9 => ?_)
      · refine wp_sFv (P := St W μs) (pO_0_7 hk_l0 hS (hwC _ _ (by omega) (by omega)) (by omega)) (fun m10 h10 he10 => ?_)
        exact ⟨h10, (by omega), trivial⟩
      · exact ⟨hS, (by omega), trivial⟩
/-! TOTALITY of the class, by program (wip/gen/tot.py) -/
set_option maxHeartbeats 4000000 in
set_option maxRecDepth 100000 in
theorem t_X0_tellNight {W : Nat → Nat → Prop} {μs : Mm} {l0 : Nat} {l1 : Int} (hW : ∀ k j, scr k j → W k j) (hwC : ∀ k j, l0 ≤ k → k ≤ l0 + 3 → W k j)  (hk_l0 : kD l0 = (10, 9)) (hp_l1 : -2147483648 ≤ l1 ∧ l1 ≤ 2147483647) {μ : Mm} (hS : St W μs μ) : wp (X0_tellNight l0 l1 μ) (fun r μ' => St W μs μ' ∧ (0 ≤ r ∧ r ≤ 1) ∧ True) := by
  have hb_l0 := kCr' hk_l0
  have hFU := FU_v
  unfold X0_tellNight
  refine wp_if (fun g2 => ?_) (fun g2 => ?_)
  · exact ⟨hS, (by omega), trivial⟩
  · refine wp_if (fun g3 => ?_) (fun g3 => ?_)
    · refine wp_sFv (P := St W μs) (pO_0_8 hk_l0 hS (hwC _ _ (by omega) (by omega)) (by omega)) (fun m4 h4 he4 => ?_)
      exact ⟨h4, (by omega), trivial⟩
    · exact ⟨hS, (by omega), trivial⟩
set_option maxHeartbeats 4000000 in
set_option maxRecDepth 100000 in
theorem t_X0_tellWind {W : Nat → Nat → Prop} {μs : Mm} {l0 : Nat} {l1 : Int} {l2 : Int} (hW : ∀ k j, scr k j → W k j) (hwC : ∀ k j, l0 ≤ k → k ≤ l0 + 3 → W k j)  (hk_l0 : kD l0 = (10, 9)) (hp_l1 : -2147483648 ≤ l1 ∧ l1 ≤ 2147483647) (hp_l2 : -2147483648 ≤ l2 ∧ l2 ≤ 2147483647) {μ : Mm} (hS : St W μs μ) : wp (X0_tellWind l0 l1 l2 μ) (fun r μ' => St W μs μ' ∧ (0 ≤ r ∧ r ≤ 1) ∧ True) := by
  have hb_l0 := kCr' hk_l0
  have hFU := FU_v
  unfold X0_tellWind
  refine wp_calls (t_X0_placeOf (l0 := l0) (l1 := l1)  hk_l0 (by omega) hS) (fun v4 hh => ?_)
  obtain ⟨hr5, hp5⟩ := hh
  refine wp_if (fun g7 => ?_) (fun g7 => ?_)
  · exact ⟨hS, (by omega), trivial⟩
  · refine wp_if (fun g8 => ?_) (fun g8 => ?_)
    · exact ⟨hS, (by omega), trivial⟩
    · refine wp_if (fun g9 => ?_) (fun g9 => ?_)
      · refine wp_stv (P := St W μs) (by have na0 : ((aN (l0 + 3) : Nat) : Int) = 8 := (by rw [(bA_0_3 hk_l0 (by omega) 0).2.2]; rfl); omega) (pA_0_3 hk_l0 (by omega) hS (hwC _ _ (by omega) (by omega)) (by omega)) (fun m10 h10 he10 => ?_)
        exact ⟨h10, (by omega), trivial⟩
      · exact ⟨hS, (by omega), trivial⟩
set_option maxHeartbeats 4000000 in
set_option maxRecDepth 100000 in
theorem t_X0_halveWind {W : Nat → Nat → Prop} {μs : Mm} {l0 : Nat} {l1 : Int} (hW : ∀ k j, scr k j → W k j) (hwC : ∀ k j, l0 ≤ k → k ≤ l0 + 3 → W k j)  (hk_l0 : kD l0 = (10, 9)) (hp_l1 : -2147483648 ≤ l1 ∧ l1 ≤ 2147483647) {μ : Mm} (hS : St W μs μ) : wp (X0_halveWind l0 l1 μ) (fun r μ' => St W μs μ' ∧ (0 ≤ r ∧ r ≤ 1) ∧ True) := by
  have hb_l0 := kCr' hk_l0
  have hFU := FU_v
  unfold X0_halveWind
  refine wp_calls (t_X0_windOf (l0 := l0) (l1 := l1)  hk_l0 (by omega) hS) (fun v5 hh => ?_)
  obtain ⟨hr6, hp6⟩ := hh
  refine wp_call (t_X0_tellWind (l0 := l0) (l1 := l1) (l2 := (iD (iA v5 1) 2)) hW hwC hk_l0 (by omega) (by have := iA_c v5 1; have := iD_r (iA v5 1) 2; omega) hS) (fun v9 m10 hh => ?_)
  obtain ⟨h10, hr10, hp10⟩ := hh
  refine wp_rZv (by omega) ?_
  exact ⟨h10, (by omega), trivial⟩
set_option maxHeartbeats 4000000 in
set_option maxRecDepth 100000 in
theorem t_X0_exchangeCranks {W : Nat → Nat → Prop} {μs : Mm} {l0 : Nat} {l1 : Int} {l2 : Int} (hW : ∀ k j, scr k j → W k j) (hwC : ∀ k j, l0 ≤ k → k ≤ l0 + 3 → W k j)  (hk_l0 : kD l0 = (10, 9)) (hp_l1 : -2147483648 ≤ l1 ∧ l1 ≤ 2147483647) (hp_l2 : -2147483648 ≤ l2 ∧ l2 ≤ 2147483647) {μ : Mm} (hS : St W μs μ) : wp (X0_exchangeCranks l0 l1 l2 μ) (fun r μ' => St W μs μ' ∧ (0 ≤ r ∧ r ≤ 1) ∧ True) := by
  have hb_l0 := kCr' hk_l0
  have hFU := FU_v
  unfold X0_exchangeCranks
  refine wp_calls (t_X0_placeOf (l0 := l0) (l1 := l1)  hk_l0 (by omega) hS) (fun v9 hh => ?_)
  obtain ⟨hr10, hp10⟩ := hh
  refine wp_calls (t_X0_placeOf (l0 := l0) (l1 := l2)  hk_l0 (by omega) hS) (fun v17 hh => ?_)
  obtain ⟨hr18, hp18⟩ := hh
  refine wp_if (fun g23 => ?_) (fun g23 => ?_)
  · exact ⟨hS, (by omega), trivial⟩
  · refine wp_if (fun g24 => ?_) (fun g24 => ?_)
    · exact ⟨hS, (by omega), trivial⟩
    · refine wp_if (fun g25 => ?_) (fun g25 => ?_)
      · exact ⟨hS, (by omega), trivial⟩
      · refine wp_stv (P := St W μs) (by have na0 : ((aN (l0 + 2) : Nat) : Int) = 8 := (by rw [(bA_0_2 hk_l0 (by omega) 0).2.2]; rfl); omega) (pA_0_2 hk_l0 (by omega) hS (hwC _ _ (by omega) (by omega)) (by omega)) (fun m26 h26 he26 => ?_)
        refine wp_stv (P := St W μs) (by have na0 : ((aN (l0 + 2) : Nat) : Int) = 8 := (by rw [(bA_0_2 hk_l0 (by omega) 0).2.2]; rfl); omega) (pA_0_2 hk_l0 (by omega) h26 (hwC _ _ (by omega) (by omega)) (by omega)) (fun m30 h30 he30 => ?_)
        refine wp_stv (P := St W μs) (by have na0 : ((aN (l0 + 1) : Nat) : Int) = 60 := (by rw [(bA_0_1 hk_l0 (by omega) 0).2.2]; rfl); omega) (pA_0_1 hk_l0 (by omega) h30 (hwC _ _ (by omega) (by omega)) (by have := iA_c 3 l1; omega)) (fun m33 h33 he33 => ?_)
        refine wp_stv (P := St W μs) (by have na0 : ((aN (l0 + 1) : Nat) : Int) = 60 := (by rw [(bA_0_1 hk_l0 (by omega) 0).2.2]; rfl); omega) (pA_0_1 hk_l0 (by omega) h33 (hwC _ _ (by omega) (by omega)) (by have := iA_c 3 l2; omega)) (fun m35 h35 he35 => ?_)
        exact ⟨h35, (by omega), trivial⟩
set_option maxHeartbeats 4000000 in
set_option maxRecDepth 100000 in
theorem t_X0_takePost {W : Nat → Nat → Prop} {μs : Mm} {l0 : Nat} {l1 : Int} (hW : ∀ k j, scr k j → W k j) (hwC : ∀ k j, l0 ≤ k → k ≤ l0 + 3 → W k j)  (hk_l0 : kD l0 = (10, 9)) (hp_l1 : -2147483648 ≤ l1 ∧ l1 ≤ 2147483647) {μ : Mm} (hS : St W μs μ) : wp (X0_takePost l0 l1 μ) (fun r μ' => St W μs μ' ∧ (0 ≤ r ∧ r ≤ 1) ∧ True) := by
  have hb_l0 := kCr' hk_l0
  have hFU := FU_v
  unfold X0_takePost
  refine wp_calls (t_X0_cellAt (l0 := l0) (l1 := l1)  hk_l0 (by omega) hS) (fun v5 hh => ?_)
  obtain ⟨hr6, hp6⟩ := hh
  refine wp_if (fun g9 => ?_) (fun g9 => ?_)
  · refine wp_stv (P := St W μs) (by have na0 : ((aN (l0 + 1) : Nat) : Int) = 60 := (by rw [(bA_0_1 hk_l0 (by omega) 0).2.2]; rfl); omega) (pA_0_1 hk_l0 (by omega) hS (hwC _ _ (by omega) (by omega)) (by omega)) (fun m10 h10 he10 => ?_)
    refine wp_sFv (P := St W μs) (pO_0_6 hk_l0 h10 (hwC _ _ (by omega) (by omega)) (by have := gO_0_6 hk_l0 (by omega) h10; have : m10 l0 6 = μ l0 6 := (by rw [he10, sM_a (by omega)]); have := gO_0_6 hk_l0 (by omega) hS; have := iS_c (m10 l0 6) 1; omega)) (fun m12 h12 he12 => ?_)
    exact ⟨h12, (by omega), trivial⟩
  · exact ⟨hS, (by omega), trivial⟩
set_option maxHeartbeats 4000000 in
set_option maxRecDepth 100000 in
theorem t_X0_putPost {W : Nat → Nat → Prop} {μs : Mm} {l0 : Nat} {l1 : Int} (hW : ∀ k j, scr k j → W k j) (hwC : ∀ k j, l0 ≤ k → k ≤ l0 + 3 → W k j)  (hk_l0 : kD l0 = (10, 9)) (hp_l1 : -2147483648 ≤ l1 ∧ l1 ≤ 2147483647) {μ : Mm} (hS : St W μs μ) : wp (X0_putPost l0 l1 μ) (fun r μ' => St W μs μ' ∧ (0 ≤ r ∧ r ≤ 1) ∧ True) := by
  have hb_l0 := kCr' hk_l0
  have hFU := FU_v
  unfold X0_putPost
  refine wp_calls (t_X0_cellAt (l0 := l0) (l1 := l1)  hk_l0 (by omega) hS) (fun v5 hh => ?_)
  obtain ⟨hr6, hp6⟩ := hh
  refine wp_if (fun g9 => ?_) (fun g9 => ?_)
  · refine wp_stv (P := St W μs) (by have na0 : ((aN (l0 + 1) : Nat) : Int) = 60 := (by rw [(bA_0_1 hk_l0 (by omega) 0).2.2]; rfl); omega) (pA_0_1 hk_l0 (by omega) hS (hwC _ _ (by omega) (by omega)) (by omega)) (fun m10 h10 he10 => ?_)
    refine wp_sFv (P := St W μs) (pO_0_6 hk_l0 h10 (hwC _ _ (by omega) (by omega)) (by have := gO_0_6 hk_l0 (by omega) h10; have : m10 l0 6 = μ l0 6 := (by rw [he10, sM_a (by omega)]); have := gO_0_6 hk_l0 (by omega) hS; have := iA_c (m10 l0 6) 1; omega)) (fun m12 h12 he12 => ?_)
    exact ⟨h12, (by omega), trivial⟩
  · exact ⟨hS, (by omega), trivial⟩
set_option maxHeartbeats 4000000 in
set_option maxRecDepth 100000 in
theorem t_X9_reach {W : Nat → Nat → Prop} {μs : Mm} {l1 : Nat} {l2 : Int} {l3 : Int} (hW : ∀ k j, scr k j → W k j)  (hk_l1 : kD l1 = (10, 9)) (hp_l2 : -2147483648 ≤ l2 ∧ l2 ≤ 2147483647) (hp_l3 : -2147483648 ≤ l3 ∧ l3 ≤ 2147483647) {μ : Mm} (hS : St W μs μ) : wp (X9_reach l1 l2 l3 μ) (fun r μ' => St W μs μ' ∧ (-2147483648 ≤ r ∧ r ≤ 2147483647) ∧ True) := by
  have hb_l1 := kCr' hk_l1
  have hFU := FU_v
  unfold X9_reach
  refine wp_calls (t_X0_isOpen (l0 := l1) (l1 := l2)  hk_l1 (by omega) hS) (fun v7 hh => ?_)
  obtain ⟨hr8, hp8⟩ := hh
  refine wp_if (fun g13 => ?_) (fun g13 => ?_)
  · exact ⟨hS, (by omega), trivial⟩
  · refine wp_ldv (by have na0 : ((aN 46 : Nat) : Int) = 60 := rfl; omega) (fun v14 q15 => ?_)
    have hrv14 := gA_9_1 (rfl : kD 45 = (19, 3)) (by decide) hS (l2).toNat
    replace hrv14 : -2147483648 ≤ v14 ∧ v14 ≤ 2147483647 := by rw [q15]; exact hrv14
    refine wp_if (fun g19 => ?_) (fun g19 => ?_)
    · refine wp_if (fun g20 => ?_) (fun g20 => ?_)
      · exact ⟨hS, (by have := gO_9_2 (rfl : kD 45 = (19, 3)) (by decide) hS; omega), trivial⟩
      · refine wp_stv (P := St W μs) (by have na0 : ((aN 46 : Nat) : Int) = 60 := rfl; have := gO_9_2 (rfl : kD 45 = (19, 3)) (by decide) hS; omega) (pA_9_1 (rfl : kD 45 = (19, 3)) (by decide) hS (hW _ _ (by unfold scr; omega)) (by have := gO_9_2 (rfl : kD 45 = (19, 3)) (by decide) hS; omega)) (fun m21 h21 he21 => ?_)
        refine wp_stv (P := St W μs) (by have := gO_9_2 (rfl : kD 45 = (19, 3)) (by decide) h21; have : m21 45 2 = μ 45 2 := (by rw [he21, sM_a (by decide)]); have := gO_9_2 (rfl : kD 45 = (19, 3)) (by decide) hS; have na3 : ((aN 47 : Nat) : Int) = 60 := rfl; omega) (pA_9_2 (rfl : kD 45 = (19, 3)) (by decide) h21 (hW _ _ (by unfold scr; omega)) (by have := gO_9_2 (rfl : kD 45 = (19, 3)) (by decide) hS; omega)) (fun m24 h24 he24 => ?_)
        refine wp_sFv (P := St W μs) (pO_9_2 (rfl : kD 45 = (19, 3)) h24 (hW _ _ (by unfold scr; omega)) (by have := gO_9_2 (rfl : kD 45 = (19, 3)) (by decide) h24; have : m24 45 2 = m21 45 2 := (by rw [he24, sM_a (by decide)]); have := gO_9_2 (rfl : kD 45 = (19, 3)) (by decide) h21; have : m21 45 2 = μ 45 2 := (by rw [he21, sM_a (by decide)]); have := gO_9_2 (rfl : kD 45 = (19, 3)) (by decide) hS; have := iA_c (m24 45 2) 1; omega)) (fun m26 h26 he26 => ?_)
        exact ⟨h26, (by have := gO_9_2 (rfl : kD 45 = (19, 3)) (by decide) hS; omega), trivial⟩
    · exact ⟨hS, (by omega), trivial⟩
set_option maxHeartbeats 4000000 in
set_option maxRecDepth 100000 in
theorem t_X9_stepsTo {W : Nat → Nat → Prop} {μs : Mm} {l1 : Int}  (hp_l1 : -2147483648 ≤ l1 ∧ l1 ≤ 2147483647) {μ : Mm} (hS : St W μs μ) : wp (X9_stepsTo l1 μ) (fun r μ' => μ' = μ ∧ (-2147483648 ≤ r ∧ r ≤ 2147483647) ∧ True) := by
  have hFU := FU_v
  unfold X9_stepsTo
  refine wp_if (fun g2 => ?_) (fun g2 => ?_)
  · exact ⟨rfl, (by omega), trivial⟩
  · refine wp_if (fun g3 => ?_) (fun g3 => ?_)
    · exact ⟨rfl, (by omega), trivial⟩
    · refine wp_ldv (by have na0 : ((aN 46 : Nat) : Int) = 60 := rfl; omega) (fun v4 q5 => ?_)
      have hrv4 := gA_9_1 (rfl : kD 45 = (19, 3)) (by decide) hS (l1).toNat
      replace hrv4 : -2147483648 ≤ v4 ∧ v4 ≤ 2147483647 := by rw [q5]; exact hrv4
      exact ⟨rfl, (by omega), trivial⟩
set_option maxHeartbeats 4000000 in
set_option maxRecDepth 100000 in
theorem t_X9_measure_L2 {W : Nat → Nat → Prop} {μs : Mm} {l1 : Nat} {l2 : Int} (hW : ∀ k j, scr k j → W k j)  (hk_l1 : kD l1 = (10, 9)) (hp_l2 : -2147483648 ≤ l2 ∧ l2 ≤ 2147483647) {k21 : Mm → Rs} {Q : Int → Mm → Prop} (hk_k21 : ∀ (μ : Mm), St W μs μ → True → wp (k21 μ) Q) : ∀ (n : Nat) {l3 : Int} {μ : Mm}, St W μs μ → (0 ≤ l3 ∧ l3 ≤ 60) → True → 60 - l3 + 1 ≤ ((n : Nat) : Int) → wp (X9_measure_L2 l1 l2 k21 n l3 μ) Q := by
  have hb_l1 := kCr' hk_l1
  have hFU := FU_v
  intro n
  induction n with
  | zero => intro l3 μ hS hv_l3 hi hm; exact absurd hm (by  have : ((0 : Nat) : Int) = 0 := rfl; omega)
  | succ n ih =>
    intro l3 μ hS hv_l3 hi hm
    have hn1 : ((n + 1 : Nat) : Int) = ((n : Nat) : Int) + 1 := rfl
    rw [X9_measure_L2]
    refine wp_if (fun g3 => ?_) (fun g3 => ?_)
    · exact hk_k21  μ hS  trivial
    · refine wp_stv (P := St W μs) (by have na0 : ((aN 46 : Nat) : Int) = 60 := rfl; omega) (pA_9_1 (rfl : kD 45 = (19, 3)) (by decide) hS (hW _ _ (by unfold scr; omega)) (by omega)) (fun m4 h4 he4 => ?_)
      exact ih h4 (by have := iA_c l3 1; omega) trivial (by have := iA_c l3 1; omega)
set_option maxHeartbeats 4000000 in
set_option maxRecDepth 100000 in
theorem t_X9_measure_L35 {W : Nat → Nat → Prop} {μs : Mm} {l1 : Nat} (hW : ∀ k j, scr k j → W k j)  (hk_l1 : kD l1 = (10, 9)) {Q : Int → Mm → Prop} (hQ : ∀ r μ, St W μs μ → (-2147483648 ≤ r ∧ r ≤ 2147483647) → True → Q r μ) : ∀ (n : Nat) {l3 : Int} {μ : Mm}, St W μs μ → (0 ≤ l3 ∧ l3 ≤ 60) → True → 60 - l3 + 1 ≤ ((n : Nat) : Int) → wp (X9_measure_L35 l1 n l3 μ) Q := by
  have hb_l1 := kCr' hk_l1
  have hFU := FU_v
  intro n
  induction n with
  | zero => intro l3 μ hS hv_l3 hi hm; exact absurd hm (by  have : ((0 : Nat) : Int) = 0 := rfl; omega)
  | succ n ih =>
    intro l3 μ hS hv_l3 hi hm
    have hn1 : ((n + 1 : Nat) : Int) = ((n : Nat) : Int) + 1 := rfl
    rw [X9_measure_L35]
    refine wp_if (fun g23 => ?_) (fun g23 => ?_)
    · exact hQ _ _ hS (by have := gO_9_2 (rfl : kD 45 = (19, 3)) (by decide) hS; omega) trivial
    · refine wp_if (fun g24 => ?_) (fun g24 => ?_)
      · exact hQ _ _ hS (by have := gO_9_2 (rfl : kD 45 = (19, 3)) (by decide) hS; omega) trivial
      · refine wp_ldv (by have na0 : ((aN 47 : Nat) : Int) = 60 := rfl; have := gO_9_2 (rfl : kD 45 = (19, 3)) (by decide) hS; omega) (fun v25 q26 => ?_)
        have hrv25 := gA_9_2 (rfl : kD 45 = (19, 3)) (by decide) hS (l3).toNat
        replace hrv25 : 0 ≤ v25 ∧ v25 ≤ 59 := by rw [q26]; exact hrv25
        refine wp_calls (t_X9_stepsTo (l1 := v25)  (by have := gO_9_2 (rfl : kD 45 = (19, 3)) (by decide) hS; omega) hS) (fun v37 hh => ?_)
        obtain ⟨hr38, hp38⟩ := hh
        refine wp_call (t_X9_reach (l1 := l1) (l2 := (iS v25 10)) (l3 := (iA v37 1)) hW hk_l1 (by have := iS_c v25 10; have := gO_9_2 (rfl : kD 45 = (19, 3)) (by decide) hS; omega) (by have := iA_c v37 1; have := gO_9_2 (rfl : kD 45 = (19, 3)) (by decide) hS; omega) hS) (fun v47 m48 hh => ?_)
        obtain ⟨h48, hr48, hp48⟩ := hh
        refine wp_call (t_X9_reach (l1 := l1) (l2 := (iS v25 1)) (l3 := (iA v37 1)) hW hk_l1 (by have := iS_c v25 1; have := gO_9_2 (rfl : kD 45 = (19, 3)) (by decide) hS; omega) (by have := iA_c v37 1; have := gO_9_2 (rfl : kD 45 = (19, 3)) (by decide) hS; omega) h48) (fun v55 m56 hh => ?_)
        obtain ⟨h56, hr56, hp56⟩ := hh
        refine wp_call (t_X9_reach (l1 := l1) (l2 := (iA v25 1)) (l3 := (iA v37 1)) hW hk_l1 (by have := iA_c v25 1; have := gO_9_2 (rfl : kD 45 = (19, 3)) (by decide) hS; omega) (by have := iA_c v37 1; have := gO_9_2 (rfl : kD 45 = (19, 3)) (by decide) hS; omega) h56) (fun v61 m62 hh => ?_)
        obtain ⟨h62, hr62, hp62⟩ := hh
        refine wp_call (t_X9_reach (l1 := l1) (l2 := (iA v25 10)) (l3 := (iA v37 1)) hW hk_l1 (by have := iA_c v25 10; have := gO_9_2 (rfl : kD 45 = (19, 3)) (by decide) hS; omega) (by have := iA_c v37 1; have := gO_9_2 (rfl : kD 45 = (19, 3)) (by decide) hS; omega) h62) (fun v65 m66 hh => ?_)
        obtain ⟨h66, hr66, hp66⟩ := hh
        exact ih h66 (by have := iA_c l3 1; have := gO_9_2 (rfl : kD 45 = (19, 3)) (by decide) hS; omega) trivial (by have := iA_c l3 1; have := gO_9_2 (rfl : kD 45 = (19, 3)) (by decide) hS; omega)
set_option maxHeartbeats 4000000 in
set_option maxRecDepth 100000 in
theorem t_X9_measure {W : Nat → Nat → Prop} {μs : Mm} {l1 : Nat} {l2 : Int} (hW : ∀ k j, scr k j → W k j)  (hk_l1 : kD l1 = (10, 9)) (hp_l2 : -2147483648 ≤ l2 ∧ l2 ≤ 2147483647) {μ : Mm} (hS : St W μs μ) : wp (X9_measure l1 l2 μ) (fun r μ' => St W μs μ' ∧ (-2147483648 ≤ r ∧ r ≤ 2147483647) ∧ True) := by
  have hb_l1 := kCr' hk_l1
  have hFU := FU_v
  unfold X9_measure
  refine t_X9_measure_L2 (l1 := l1) (l2 := l2) (l3 := 0) hW hk_l1 (by omega) (fun m5 h5  hp5 => ?_) FU hS (by omega) trivial (by omega)
  refine wp_sFv (P := St W μs) (pO_9_2 (rfl : kD 45 = (19, 3)) h5 (hW _ _ (by unfold scr; omega)) (by omega)) (fun m9 h9 he9 => ?_)
  refine wp_call (t_X9_reach (l1 := l1) (l2 := l2) (l3 := 0) hW hk_l1 (by omega) (by omega) h9) (fun v12 m13 hh => ?_)
  obtain ⟨h13, hr13, hp13⟩ := hh
  exact t_X9_measure_L35 (l1 := l1) (l3 := 0) hW hk_l1 (fun r_ m_ h_ hr_ hp_ => by exact ⟨h_, (by omega), trivial⟩) FU h13 (by omega) trivial (by omega)
set_option maxHeartbeats 4000000 in
set_option maxRecDepth 100000 in
theorem t_X1_measure_L12 {W : Nat → Nat → Prop} {μs : Mm} {l0 : Nat} {l1 : Nat} {l2 : Int} (hW : ∀ k j, scr k j → W k j)  (hk_l0 : kD l0 = (11, 7)) (hk_l1 : kD l1 = (10, 9)) (hp_l2 : 0 ≤ l2 ∧ l2 ≤ 8) {Q : Int → Mm → Prop} (hQ : ∀ r μ, St W μs μ → (-2147483648 ≤ r ∧ r ≤ 2147483647) → True → Q r μ) : ∀ (n : Nat) {l4 : Int} {μ : Mm}, St W μs μ → (0 ≤ l4 ∧ l4 ≤ 8) → True → 8 - l4 + 1 ≤ ((n : Nat) : Int) → wp (X1_measure_L12 l0 l1 l2 n l4 μ) Q := by
  have hb_l0 := kJr' hk_l0
  have hb_l1 := kCr' hk_l1
  have hFU := FU_v
  intro n
  induction n with
  | zero => intro l4 μ hS hv_l4 hi hm; exact absurd hm (by  have : ((0 : Nat) : Int) = 0 := rfl; omega)
  | succ n ih =>
    intro l4 μ hS hv_l4 hi hm
    have hn1 : ((n + 1 : Nat) : Int) = ((n : Nat) : Int) + 1 := rfl
    rw [X1_measure_L12]
    refine wp_if (fun g13 => ?_) (fun g13 => ?_)
    · exact hQ _ _ hS (by have := gO_1_5 hk_l0 (by omega) hS; omega) trivial
    · refine wp_if (fun g14 => ?_) (fun g14 => ?_)
      · exact hQ _ _ hS (by have := gO_1_5 hk_l0 (by omega) hS; omega) trivial
      · refine wp_ldv (by have na0 : ((aN (l0 + 1) : Nat) : Int) = 8 := (by rw [(bA_1_1 hk_l0 (by omega) 0).2.2]; rfl); have := gO_1_5 hk_l0 (by omega) hS; omega) (fun v15 q16 => ?_)
        have hrv15 := gA_1_1 hk_l0 (by omega) hS (l4).toNat
        rw [← q16] at hrv15
        refine wp_calls (t_X0_placeOf (l0 := l1) (l1 := v15)  hk_l1 (by have := gO_1_5 hk_l0 (by omega) hS; omega) hS) (fun v22 hh => ?_)
        obtain ⟨hr23, hp23⟩ := hh
        refine wp_calls (t_X9_stepsTo (l1 := v22)  (by have := gO_1_5 hk_l0 (by omega) hS; omega) hS) (fun v27 hh => ?_)
        obtain ⟨hr28, hp28⟩ := hh
        refine wp_stv (P := St W μs) (by have := iM_c l2 8; have := iA_c (iM l2 8) l4; have na2 : ((aN (l0 + 4) : Nat) : Int) = 72 := (by rw [(bA_1_4 hk_l0 (by omega) 0).2.2]; rfl); have := gO_1_5 hk_l0 (by omega) hS; omega) (pA_1_4 hk_l0 (by omega) hS (hW _ _ (by unfold scr; omega)) (by have := gO_1_5 hk_l0 (by omega) hS; omega)) (fun m30 h30 he30 => ?_)
        exact ih h30 (by have := iA_c l4 1; have := gO_1_5 hk_l0 (by omega) hS; omega) trivial (by have := iA_c l4 1; have := gO_1_5 hk_l0 (by omega) hS; omega)
set_option maxHeartbeats 4000000 in
set_option maxRecDepth 100000 in
theorem t_X1_measure {W : Nat → Nat → Prop} {μs : Mm} {l0 : Nat} {l1 : Nat} {l2 : Int} {l3 : Int} (hW : ∀ k j, scr k j → W k j)  (hk_l0 : kD l0 = (11, 7)) (hk_l1 : kD l1 = (10, 9)) (hp_l2 : 0 ≤ l2 ∧ l2 ≤ 8) (hp_l3 : -2147483648 ≤ l3 ∧ l3 ≤ 2147483647) {μ : Mm} (hS : St W μs μ) : wp (X1_measure l0 l1 l2 l3 μ) (fun r μ' => St W μs μ' ∧ (-2147483648 ≤ r ∧ r ≤ 2147483647) ∧ True) := by
  have hb_l0 := kJr' hk_l0
  have hb_l1 := kCr' hk_l1
  have hFU := FU_v
  unfold X1_measure
  refine wp_call (t_X9_measure (l1 := l1) (l2 := l3) hW hk_l1 (by omega) hS) (fun v3 m4 hh => ?_)
  obtain ⟨h4, hr4, hp4⟩ := hh
  exact t_X1_measure_L12 (l0 := l0) (l1 := l1) (l2 := l2) (l4 := 0) hW hk_l0 hk_l1 (by omega) (fun r_ m_ h_ hr_ hp_ => by exact ⟨h_, (by omega), trivial⟩) FU h4 (by omega) trivial (by omega)
set_option maxHeartbeats 4000000 in
set_option maxRecDepth 100000 in
theorem t_X1_prepare_L10 {W : Nat → Nat → Prop} {μs : Mm} {l0 : Nat} {l1 : Nat} {l2 : Nat} (hW : ∀ k j, scr k j → W k j)  (hk_l0 : kD l0 = (11, 7)) (hk_l1 : kD l1 = (10, 9)) (hk_l2 : kD l2 = (13, 3)) {k58 : Mm → Rs} {Q : Int → Mm → Prop} (hk_k58 : ∀ (μ : Mm), St W μs μ → True → wp (k58 μ) Q) : ∀ (n : Nat) {l3 : Int} {μ : Mm}, St W μs μ → (0 ≤ l3 ∧ l3 ≤ 8) → True → 8 - l3 + 1 ≤ ((n : Nat) : Int) → wp (X1_prepare_L10 l0 l1 l2 k58 n l3 μ) Q := by
  have hb_l0 := kJr' hk_l0
  have hb_l1 := kCr' hk_l1
  have hb_l2 := kPr' hk_l2
  have hFU := FU_v
  intro n
  induction n with
  | zero => intro l3 μ hS hv_l3 hi hm; exact absurd hm (by  have : ((0 : Nat) : Int) = 0 := rfl; omega)
  | succ n ih =>
    intro l3 μ hS hv_l3 hi hm
    have hn1 : ((n + 1 : Nat) : Int) = ((n : Nat) : Int) + 1 := rfl
    rw [X1_prepare_L10]
    refine wp_if (fun g13 => ?_) (fun g13 => ?_)
    · exact hk_k58  μ hS  trivial
    · refine wp_if (fun g14 => ?_) (fun g14 => ?_)
      · exact hk_k58  μ hS  trivial
      · refine wp_ldv (by have na0 : ((aN (l2 + 1) : Nat) : Int) = 8 := (by rw [(bA_3_1 hk_l2 (by omega) 0).2.2]; rfl); have := gO_1_5 hk_l0 (by omega) hS; omega) (fun v15 q16 => ?_)
        have hrv15 := gA_3_1 hk_l2 (by omega) hS (l3).toNat
        rw [← q16] at hrv15
        refine wp_stv (P := St W μs) (by have na0 : ((aN (l0 + 1) : Nat) : Int) = 8 := (by rw [(bA_1_1 hk_l0 (by omega) 0).2.2]; rfl); have := gO_1_5 hk_l0 (by omega) hS; omega) (pA_1_1 hk_l0 (by omega) hS (hW _ _ (by unfold scr; omega)) (by have := gO_1_5 hk_l0 (by omega) hS; omega)) (fun m22 h22 he22 => ?_)
        refine wp_ldv (by have na0 : ((aN (l0 + 1) : Nat) : Int) = 8 := (by rw [(bA_1_1 hk_l0 (by omega) 0).2.2]; rfl); have := gO_1_5 hk_l0 (by omega) hS; omega) (fun v27 q28 => ?_)
        have hrv27 := gA_1_1 hk_l0 (by omega) h22 (l3).toNat
        rw [← q28] at hrv27
        refine wp_calls (t_X0_windOf (l0 := l1) (l1 := v27)  hk_l1 (by have := gO_1_5 hk_l0 (by omega) hS; omega) h22) (fun v32 hh => ?_)
        obtain ⟨hr33, hp33⟩ := hh
        refine wp_stv (P := St W μs) (by have na0 : ((aN (l0 + 3) : Nat) : Int) = 8 := (by rw [(bA_1_3 hk_l0 (by omega) 0).2.2]; rfl); have := gO_1_5 hk_l0 (by omega) hS; omega) (pA_1_3 hk_l0 (by omega) h22 (hW _ _ (by unfold scr; omega)) (by have := gO_1_5 hk_l0 (by omega) hS; omega)) (fun m35 h35 he35 => ?_)
        exact ih h35 (by have := iA_c l3 1; have := gO_1_5 hk_l0 (by omega) hS; omega) trivial (by have := iA_c l3 1; have := gO_1_5 hk_l0 (by omega) hS; omega)
set_option maxHeartbeats 4000000 in
set_option maxRecDepth 100000 in
theorem t_X1_prepare_L79 {W : Nat → Nat → Prop} {μs : Mm} {l0 : Nat} {l1 : Nat} (hW : ∀ k j, scr k j → W k j)  (hk_l0 : kD l0 = (11, 7)) (hk_l1 : kD l1 = (10, 9)) {Q : Int → Mm → Prop} (hQ : ∀ r μ, St W μs μ → (-2147483648 ≤ r ∧ r ≤ 2147483647) → True → Q r μ) : ∀ (n : Nat) {l3 : Int} {μ : Mm}, St W μs μ → (0 ≤ l3 ∧ l3 ≤ 8) → True → 8 - l3 + 1 ≤ ((n : Nat) : Int) → wp (X1_prepare_L79 l0 l1 n l3 μ) Q := by
  have hb_l0 := kJr' hk_l0
  have hb_l1 := kCr' hk_l1
  have hFU := FU_v
  intro n
  induction n with
  | zero => intro l3 μ hS hv_l3 hi hm; exact absurd hm (by  have : ((0 : Nat) : Int) = 0 := rfl; omega)
  | succ n ih =>
    intro l3 μ hS hv_l3 hi hm
    have hn1 : ((n + 1 : Nat) : Int) = ((n : Nat) : Int) + 1 := rfl
    rw [X1_prepare_L79]
    refine wp_if (fun g11 => ?_) (fun g11 => ?_)
    · exact hQ _ _ hS (by have := gO_1_5 hk_l0 (by omega) hS; omega) trivial
    · refine wp_if (fun g12 => ?_) (fun g12 => ?_)
      · exact hQ _ _ hS (by have := gO_1_5 hk_l0 (by omega) hS; omega) trivial
      · refine wp_ldv (by have na0 : ((aN (l0 + 1) : Nat) : Int) = 8 := (by rw [(bA_1_1 hk_l0 (by omega) 0).2.2]; rfl); have := gO_1_5 hk_l0 (by omega) hS; omega) (fun v13 q14 => ?_)
        have hrv13 := gA_1_1 hk_l0 (by omega) hS (l3).toNat
        rw [← q14] at hrv13
        refine wp_calls (t_X0_placeOf (l0 := l1) (l1 := v13)  hk_l1 (by have := gO_1_5 hk_l0 (by omega) hS; omega) hS) (fun v19 hh => ?_)
        obtain ⟨hr20, hp20⟩ := hh
        refine wp_call (t_X1_measure (l0 := l0) (l1 := l1) (l2 := l3) (l3 := v19) hW hk_l0 hk_l1 (by have := gO_1_5 hk_l0 (by omega) hS; omega) (by have := gO_1_5 hk_l0 (by omega) hS; omega) hS) (fun v23 m24 hh => ?_)
        obtain ⟨h24, hr24, hp24⟩ := hh
        exact ih h24 (by have := iA_c l3 1; have := gO_1_5 hk_l0 (by omega) hS; omega) trivial (by have := iA_c l3 1; have := gO_1_5 hk_l0 (by omega) hS; omega)
set_option maxHeartbeats 4000000 in
set_option maxRecDepth 100000 in
theorem t_X1_prepare {W : Nat → Nat → Prop} {μs : Mm} {l0 : Nat} {l1 : Nat} {l2 : Nat} (hW : ∀ k j, scr k j → W k j)  (hk_l0 : kD l0 = (11, 7)) (hk_l1 : kD l1 = (10, 9)) (hk_l2 : kD l2 = (13, 3)) {μ : Mm} (hS : St W μs μ) : wp (X1_prepare l0 l1 l2 μ) (fun r μ' => St W μs μ' ∧ (-2147483648 ≤ r ∧ r ≤ 2147483647) ∧ True) := by
  have hb_l0 := kJr' hk_l0
  have hb_l1 := kCr' hk_l1
  have hb_l2 := kPr' hk_l2
  have hFU := FU_v
  unfold X1_prepare
  refine wp_sFv (P := St W μs) (pO_1_5 hk_l0 hS (hW _ _ (by unfold scr; omega)) (by have := gO_3_2 hk_l2 (by omega) hS; omega)) (fun m3 h3 he3 => ?_)
  refine t_X1_prepare_L10 (l0 := l0) (l1 := l1) (l2 := l2) (l3 := 0) hW hk_l0 hk_l1 hk_l2 (fun m5 h5  hp5 => ?_) FU h3 (by omega) trivial (by omega)
  unfold X1_prepare_J58
  try dsimp only
  refine wp_sFv (P := St W μs) (pO_1_6 hk_l0 h5 (hW _ _ (by unfold scr; omega)) (by have := gO_0_7 hk_l1 (by omega) h5; omega)) (fun m9 h9 he9 => ?_)
  refine wp_call (t_X1_measure (l0 := l0) (l1 := l1) (l2 := 8) (l3 := (m9 l1 3)) hW hk_l0 hk_l1 (by omega) (by have := gO_0_3 hk_l1 (by omega) h9; have : m9 l1 3 = m5 l1 3 := (by rw [he9, sM_a (by omega)]); have := gO_0_3 hk_l1 (by omega) h5; omega) h9) (fun v12 m13 hh => ?_)
  obtain ⟨h13, hr13, hp13⟩ := hh
  exact t_X1_prepare_L79 (l0 := l0) (l1 := l1) (l3 := 0) hW hk_l0 hk_l1 (fun r_ m_ h_ hr_ hp_ => by exact ⟨h_, (by omega), trivial⟩) FU h13 (by omega) trivial (by omega)
set_option maxHeartbeats 4000000 in
set_option maxRecDepth 100000 in
theorem t_X1_standAt {W : Nat → Nat → Prop} {μs : Mm} {l0 : Nat} {l1 : Nat} {l2 : Int} {l3 : Int} (hW : ∀ k j, scr k j → W k j)  (hk_l0 : kD l0 = (11, 7)) (hk_l1 : kD l1 = (10, 9)) (hp_l2 : -2147483648 ≤ l2 ∧ l2 ≤ 2147483647) (hp_l3 : -2147483648 ≤ l3 ∧ l3 ≤ 2147483647) {μ : Mm} (hS : St W μs μ) : wp (X1_standAt l0 l1 l2 l3 μ) (fun r μ' => St W μs μ' ∧ (-2147483648 ≤ r ∧ r ≤ 2147483647) ∧ True) := by
  have hb_l0 := kJr' hk_l0
  have hb_l1 := kCr' hk_l1
  have hFU := FU_v
  unfold X1_standAt
  refine wp_sFv (P := St W μs) (pO_1_6 hk_l0 hS (hW _ _ (by unfold scr; omega)) (by omega)) (fun m4 h4 he4 => ?_)
  refine wp_call (t_X1_measure (l0 := l0) (l1 := l1) (l2 := 8) (l3 := l2) hW hk_l0 hk_l1 (by omega) (by omega) h4) (fun v7 m8 hh => ?_)
  obtain ⟨h8, hr8, hp8⟩ := hh
  exact ⟨h8, (by omega), trivial⟩
set_option maxHeartbeats 4000000 in
set_option maxRecDepth 100000 in
theorem t_X1_copy {W : Nat → Nat → Prop} {μs : Mm} {l0 : Nat} {l1 : Nat} (hW : ∀ k j, scr k j → W k j)  (hk_l0 : kD l0 = (11, 7)) (hk_l1 : kD l1 = (11, 7)) {μ : Mm} (hS : St W μs μ) : wp (X1_copy l0 l1 μ) (fun r μ' => St W μs μ' ∧ (-2147483648 ≤ r ∧ r ≤ 2147483647) ∧ True) := by
  have hb_l0 := kJr' hk_l0
  have hb_l1 := kJr' hk_l1
  have hFU := FU_v
  unfold X1_copy
  refine wp_cpv (P := St W μs) (by have na0 : ((aN (l1 + 1) : Nat) : Int) = 8 := (by rw [(bA_1_1 hk_l1 (by omega) 0).2.2]; rfl); have na1 : ((aN (l0 + 1) : Nat) : Int) = 8 := (by rw [(bA_1_1 hk_l0 (by omega) 0).2.2]; rfl); omega) (St_cA hS (by omega) (fun j => (hW _ _ (by unfold scr; omega))) (fun j => by rw [show bx (l1 + 1) j = _ from (bA_1_1 hk_l1 (by omega) j).1, show bx (l0 + 1) j = _ from (bA_1_1 hk_l0 (by omega) j).1]) (bA_1_1 hk_l0 (by omega) 0).2.1) (fun m7 h7 => ?_)
  refine wp_cpv (P := St W μs) (by have na0 : ((aN (l1 + 2) : Nat) : Int) = 8 := (by rw [(bA_1_2 hk_l1 (by omega) 0).2.2]; rfl); have na1 : ((aN (l0 + 2) : Nat) : Int) = 8 := (by rw [(bA_1_2 hk_l0 (by omega) 0).2.2]; rfl); omega) (St_cA h7 (by omega) (fun j => (hW _ _ (by unfold scr; omega))) (fun j => by rw [show bx (l1 + 2) j = _ from (bA_1_2 hk_l1 (by omega) j).1, show bx (l0 + 2) j = _ from (bA_1_2 hk_l0 (by omega) j).1]) (bA_1_2 hk_l0 (by omega) 0).2.1) (fun m13 h13 => ?_)
  refine wp_cpv (P := St W μs) (by have na0 : ((aN (l1 + 3) : Nat) : Int) = 8 := (by rw [(bA_1_3 hk_l1 (by omega) 0).2.2]; rfl); have na1 : ((aN (l0 + 3) : Nat) : Int) = 8 := (by rw [(bA_1_3 hk_l0 (by omega) 0).2.2]; rfl); omega) (St_cA h13 (by omega) (fun j => (hW _ _ (by unfold scr; omega))) (fun j => by rw [show bx (l1 + 3) j = _ from (bA_1_3 hk_l1 (by omega) j).1, show bx (l0 + 3) j = _ from (bA_1_3 hk_l0 (by omega) j).1]) (bA_1_3 hk_l0 (by omega) 0).2.1) (fun m18 h18 => ?_)
  refine wp_cpv (P := St W μs) (by have na0 : ((aN (l1 + 4) : Nat) : Int) = 72 := (by rw [(bA_1_4 hk_l1 (by omega) 0).2.2]; rfl); have na1 : ((aN (l0 + 4) : Nat) : Int) = 72 := (by rw [(bA_1_4 hk_l0 (by omega) 0).2.2]; rfl); omega) (St_cA h18 (by omega) (fun j => (hW _ _ (by unfold scr; omega))) (fun j => by rw [show bx (l1 + 4) j = _ from (bA_1_4 hk_l1 (by omega) j).1, show bx (l0 + 4) j = _ from (bA_1_4 hk_l0 (by omega) j).1]) (bA_1_4 hk_l0 (by omega) 0).2.1) (fun m22 h22 => ?_)
  refine wp_sFv (P := St W μs) (pO_1_5 hk_l0 h22 (hW _ _ (by unfold scr; omega)) (by have := gO_1_5 hk_l1 (by omega) h22; omega)) (fun m25 h25 he25 => ?_)
  refine wp_sFv (P := St W μs) (pO_1_6 hk_l0 h25 (hW _ _ (by unfold scr; omega)) (by have := gO_1_6 hk_l1 (by omega) h25; omega)) (fun m27 h27 he27 => ?_)
  exact ⟨h27, (by omega), trivial⟩
set_option maxHeartbeats 4000000 in
set_option maxRecDepth 100000 in
theorem t_X1_allCues {W : Nat → Nat → Prop} {μs : Mm} {l0 : Nat}  (hk_l0 : kD l0 = (11, 7)) {μ : Mm} (hS : St W μs μ) : wp (X1_allCues l0 μ) (fun r μ' => μ' = μ ∧ (0 ≤ r ∧ r ≤ 255) ∧ True) := by
  have hb_l0 := kJr' hk_l0
  have hFU := FU_v
  unfold X1_allCues
  exact ⟨rfl, (by have := gO_1_5 hk_l0 (by omega) hS; have := bL_r 1 (μ l0 5); have := bL_1 (s := (μ l0 5)) (by omega); have := iS_c (bL 1 (μ l0 5)) 1; omega), trivial⟩
set_option maxHeartbeats 4000000 in
set_option maxRecDepth 100000 in
theorem t_X1_stepsBetween {W : Nat → Nat → Prop} {μs : Mm} {l0 : Nat} {l1 : Int} {l2 : Int}  (hk_l0 : kD l0 = (11, 7)) (hp_l1 : -2147483648 ≤ l1 ∧ l1 ≤ 2147483647) (hp_l2 : -2147483648 ≤ l2 ∧ l2 ≤ 2147483647) {μ : Mm} (hS : St W μs μ) : wp (X1_stepsBetween l0 l1 l2 μ) (fun r μ' => μ' = μ ∧ (-2147483648 ≤ r ∧ r ≤ 2147483647) ∧ True) := by
  have hb_l0 := kJr' hk_l0
  have hFU := FU_v
  unfold X1_stepsBetween
  refine wp_ltv (fun v3 q4 => ?_)
  refine wp_if (fun g6 => ?_) (fun g6 => ?_)
  · exact ⟨rfl, (by have := iM_c l1 8; have := iA_c (iM l1 8) l2; omega), trivial⟩
  · refine wp_if (fun g7 => ?_) (fun g7 => ?_)
    · exact ⟨rfl, (by have na0 : ((aN (l0 + 4) : Nat) : Int) = 72 := (by rw [(bA_1_4 hk_l0 (by omega) 0).2.2]; rfl); have := iM_c l1 8; have := iA_c (iM l1 8) l2; omega), trivial⟩
    · refine wp_ldv (by have na0 : ((aN (l0 + 4) : Nat) : Int) = 72 := (by rw [(bA_1_4 hk_l0 (by omega) 0).2.2]; rfl); have := iM_c l1 8; have := iA_c (iM l1 8) l2; omega) (fun v8 q9 => ?_)
      have hrv8 := gA_1_4 hk_l0 (by omega) hS (v3).toNat
      rw [← q9] at hrv8
      exact ⟨rfl, (by have na0 : ((aN (l0 + 4) : Nat) : Int) = 72 := (by rw [(bA_1_4 hk_l0 (by omega) 0).2.2]; rfl); have := iM_c l1 8; have := iA_c (iM l1 8) l2; omega), trivial⟩
set_option maxHeartbeats 4000000 in
set_option maxRecDepth 100000 in
theorem t_X1_canBe_L2 {W : Nat → Nat → Prop} {μs : Mm} {l0 : Nat}  (hk_l0 : kD l0 = (11, 7)) {μ : Mm} (hS : St W μs μ) {Q : Int → Mm → Prop} (hQ : ∀ r, (0 ≤ r ∧ r ≤ 1) → True → Q r μ) : ∀ (n : Nat) {l1 : Int} , (0 ≤ l1 ∧ l1 ≤ 8) → True → 8 - l1 + 1 ≤ ((n : Nat) : Int) → wp (X1_canBe_L2 l0 n l1 μ) Q := by
  have hb_l0 := kJr' hk_l0
  have hFU := FU_v
  intro n
  induction n with
  | zero => intro l1 hv_l1 hi hm; exact absurd hm (by  have : ((0 : Nat) : Int) = 0 := rfl; omega)
  | succ n ih =>
    intro l1 hv_l1 hi hm
    have hn1 : ((n + 1 : Nat) : Int) = ((n : Nat) : Int) + 1 := rfl
    rw [X1_canBe_L2]
    refine wp_if (fun g5 => ?_) (fun g5 => ?_)
    · exact hQ _ (by have := gO_1_5 hk_l0 (by omega) hS; omega) trivial
    · refine wp_calls (t_X1_stepsBetween (l0 := l0) (l1 := 8) (l2 := l1)  hk_l0 (by have := gO_1_5 hk_l0 (by omega) hS; omega) (by have := gO_1_5 hk_l0 (by omega) hS; omega) hS) (fun v6 hh => ?_)
      obtain ⟨hr7, hp7⟩ := hh
      refine wp_if (fun g8 => ?_) (fun g8 => ?_)
      · exact hQ _ (by have := gO_1_5 hk_l0 (by omega) hS; omega) trivial
      · exact ih  (by have := iA_c l1 1; have := gO_1_5 hk_l0 (by omega) hS; omega) trivial (by have := iA_c l1 1; have := gO_1_5 hk_l0 (by omega) hS; omega)
set_option maxHeartbeats 4000000 in
set_option maxRecDepth 100000 in
theorem t_X1_canBe {W : Nat → Nat → Prop} {μs : Mm} {l0 : Nat}  (hk_l0 : kD l0 = (11, 7)) {μ : Mm} (hS : St W μs μ) : wp (X1_canBe l0 μ) (fun r μ' => μ' = μ ∧ (0 ≤ r ∧ r ≤ 1) ∧ True) := by
  have hb_l0 := kJr' hk_l0
  have hFU := FU_v
  unfold X1_canBe
  exact t_X1_canBe_L2 (l0 := l0) (l1 := 0)  hk_l0 hS (fun r_ hr_ hp_ => by exact ⟨rfl, (by omega), trivial⟩) FU  (by omega) trivial (by omega)
set_option maxHeartbeats 4000000 in
set_option maxRecDepth 100000 in
theorem t_X1_comes {W : Nat → Nat → Prop} {μs : Mm} {l0 : Nat} {l1 : Int} {l2 : Int} {l3 : Int}  (hk_l0 : kD l0 = (11, 7)) (hp_l1 : -2147483648 ≤ l1 ∧ l1 ≤ 2147483647) (hp_l2 : -2147483648 ≤ l2 ∧ l2 ≤ 2147483647) (hp_l3 : -2147483648 ≤ l3 ∧ l3 ≤ 2147483647) {μ : Mm} (hS : St W μs μ) : wp (X1_comes l0 l1 l2 l3 μ) (fun r μ' => μ' = μ ∧ (-2147483648 ≤ r ∧ r ≤ 2147483647) ∧ True) := by
  have hb_l0 := kJr' hk_l0
  have hFU := FU_v
  unfold X1_comes
  refine wp_calls (t_X1_stepsBetween (l0 := l0) (l1 := l2) (l2 := l3)  hk_l0 (by omega) (by omega) hS) (fun v3 hh => ?_)
  obtain ⟨hr4, hp4⟩ := hh
  refine wp_if (fun g5 => ?_) (fun g5 => ?_)
  · exact ⟨rfl, (by omega), trivial⟩
  · exact ⟨rfl, (by have := gO_1_6 hk_l0 (by omega) hS; have := iM_r v3 (μ l0 6); have := iA_c l1 (iM v3 (μ l0 6)); omega), trivial⟩
set_option maxHeartbeats 4000000 in
set_option maxRecDepth 100000 in
theorem t_X1_wound {W : Nat → Nat → Prop} {μs : Mm} {l0 : Nat} {l1 : Int} {l2 : Int}  (hk_l0 : kD l0 = (11, 7)) (hp_l1 : -2147483648 ≤ l1 ∧ l1 ≤ 2147483647) (hp_l2 : 0 ≤ l2 ∧ l2 ≤ 7) {μ : Mm} (hS : St W μs μ) : wp (X1_wound l0 l1 l2 μ) (fun r μ' => μ' = μ ∧ (-2147483648 ≤ r ∧ r ≤ 2147483647) ∧ True) := by
  have hb_l0 := kJr' hk_l0
  have hFU := FU_v
  unfold X1_wound
  refine wp_ldv (by have na0 : ((aN (l0 + 3) : Nat) : Int) = 8 := (by rw [(bA_1_3 hk_l0 (by omega) 0).2.2]; rfl); omega) (fun v2 q3 => ?_)
  have hrv2 := gA_1_3 hk_l0 (by omega) hS (l2).toNat
  rw [← q3] at hrv2
  exact ⟨rfl, (by have := iA_c l1 v2; omega), trivial⟩
set_option maxHeartbeats 4000000 in
set_option maxRecDepth 100000 in
theorem t_X1_dones {W : Nat → Nat → Prop} {μs : Mm} {l0 : Nat} {l1 : Int} {l2 : Int}  (hk_l0 : kD l0 = (11, 7)) (hp_l1 : -2147483648 ≤ l1 ∧ l1 ≤ 2147483647) (hp_l2 : 0 ≤ l2 ∧ l2 ≤ 7) {μ : Mm} (hS : St W μs μ) : wp (X1_dones l0 l1 l2 μ) (fun r μ' => μ' = μ ∧ (-2147483648 ≤ r ∧ r ≤ 2147483647) ∧ True) := by
  have hb_l0 := kJr' hk_l0
  have hFU := FU_v
  unfold X1_dones
  refine wp_calls (t_X1_wound (l0 := l0) (l1 := l1) (l2 := l2)  hk_l0 (by omega) (by omega) hS) (fun v4 hh => ?_)
  obtain ⟨hr5, hp5⟩ := hh
  refine wp_ldv (by have na0 : ((aN (l0 + 2) : Nat) : Int) = 8 := (by rw [(bA_1_2 hk_l0 (by omega) 0).2.2]; rfl); omega) (fun v7 q8 => ?_)
  have hrv7 := gA_1_2 hk_l0 (by omega) hS (l2).toNat
  rw [← q8] at hrv7
  exact ⟨rfl, (by have := mX_c v4 v7; omega), trivial⟩
set_option maxHeartbeats 4000000 in
set_option maxRecDepth 100000 in
theorem t_X4_need {W : Nat → Nat → Prop} {μs : Mm} {l1 : Int} (hW : ∀ k j, scr k j → W k j)  (hp_l1 : 1 ≤ l1 ∧ l1 ≤ 255) {μ : Mm} (hS : St W μs μ) : wp (X4_need l1 μ) (fun r μ' => St W μs μ' ∧ (-2147483648 ≤ r ∧ r ≤ 2147483647) ∧ True) := by
  have hFU := FU_v
  unfold X4_need
  refine wp_call (t_X4_peek hW  hS) (fun v6 m7 hh => ?_)
  obtain ⟨h7, hr7, hp7⟩ := hh
  refine wp_if (fun g11 => ?_) (fun g11 => ?_)
  · refine wp_sFv (P := St W μs) (pO_4_1 (rfl : kD 3 = (14, 3)) h7 (hW _ _ (by unfold scr; omega)) (by have := gO_4_1 (rfl : kD 3 = (14, 3)) (by decide) h7; have := iA_c (m7 3 1) 1; omega)) (fun m12 h12 he12 => ?_)
    exact ⟨h12, (by omega), trivial⟩
  · refine wp_call (t_X4_refuseAt (l1 := (m7 3 1)) hW (by have := gO_4_1 (rfl : kD 3 = (14, 3)) (by decide) h7; omega) h7) (fun v13 m14 hh => ?_)
    obtain ⟨h14, hr14, hp14⟩ := hh
    exact ⟨h14, (by omega), trivial⟩
set_option maxHeartbeats 4000000 in
set_option maxRecDepth 100000 in
theorem t_X4_isDigit {W : Nat → Nat → Prop} {μs : Mm} {l0 : Int}  (hp_l0 : -2147483648 ≤ l0 ∧ l0 ≤ 2147483647) {μ : Mm} (hS : St W μs μ) : wp (X4_isDigit l0 μ) (fun r μ' => μ' = μ ∧ (0 ≤ r ∧ r ≤ 1) ∧ (r = 0 ∨ (48 ≤ l0 ∧ l0 ≤ 57))) := by
  have hFU := FU_v
  unfold X4_isDigit
  refine wp_if (fun g1 => ?_) (fun g1 => ?_)
  · exact ⟨rfl, (by omega), (by show (0 = 0 ∨ (48 ≤ l0 ∧ l0 ≤ 57)); exact (by omega))⟩
  · refine wp_if (fun g2 => ?_) (fun g2 => ?_)
    · exact ⟨rfl, (by omega), (by show (0 = 0 ∨ (48 ≤ l0 ∧ l0 ≤ 57)); exact (by omega))⟩
    · exact ⟨rfl, (by omega), (by show (1 = 0 ∨ (48 ≤ l0 ∧ l0 ≤ 57)); exact (by omega))⟩
set_option maxHeartbeats 4000000 in
set_option maxRecDepth 100000 in
theorem t_X4_number_L24 {W : Nat → Nat → Prop} {μs : Mm} {l1 : Int} (hW : ∀ k j, scr k j → W k j)  (hp_l1 : 3 ≤ l1 ∧ l1 ≤ 4) {Q : Int → Mm → Prop} (hQ : ∀ r μ, St W μs μ → (0 ≤ r ∧ r ≤ 9999) → (r ≤ 999 ∨ 3 < l1) → Q r μ) : ∀ (n : Nat) {l2 l3 : Int} {μ : Mm}, St W μs μ → (0 ≤ l2 ∧ l2 ≤ 9999) → (0 ≤ l3 ∧ l3 ≤ 4) → ((l3 = 0 ∧ l2 = 0) ∨ (l3 = 1 ∧ l2 ≤ 9) ∨ (l3 = 2 ∧ l2 ≤ 99) ∨ (l3 = 3 ∧ l2 ≤ 999) ∨ (l3 = 4 ∧ l1 = 4)) → 4 - l3 + 1 ≤ ((n : Nat) : Int) → wp (X4_number_L24 l1 n l2 l3 μ) Q := by
  have hFU := FU_v
  intro n
  induction n with
  | zero => intro l2 l3 μ hS hv_l2 hv_l3 hi hm; exact absurd hm (by  have : ((0 : Nat) : Int) = 0 := rfl; omega)
  | succ n ih =>
    intro l2 l3 μ hS hv_l2 hv_l3 hi hm
    have hn1 : ((n + 1 : Nat) : Int) = ((n : Nat) : Int) + 1 := rfl
    rw [X4_number_L24]
    refine wp_if (fun g19 => ?_) (fun g19 => ?_)
    · exact hQ _ _ hS (by omega) (by show (l2 ≤ 999 ∨ 3 < l1); exact (by omega))
    · refine wp_mRv hS.1.2.1 (fun v20 hkv20 e21 => ?_)
      have hbv20 := kTr' hkv20
      refine wp_if (fun g30 => ?_) (fun g30 => ?_)
      · exact hQ _ _ hS (by have := gO_7_1 hkv20 (by omega) hS; have := gO_4_1 (rfl : kD 3 = (14, 3)) (by decide) hS; omega) (by show (l2 ≤ 999 ∨ 3 < l1); exact (by have := gO_7_1 hkv20 (by omega) hS; have := gO_4_1 (rfl : kD 3 = (14, 3)) (by decide) hS; omega))
      · refine wp_mRe hkv20 e21 ?_
        refine wp_ldv (by have := gO_4_1 (rfl : kD 3 = (14, 3)) (by decide) hS; have na1 : ((aN (v20 + 1) : Nat) : Int) = 160 := (by rw [(bA_7_1 hkv20 (by omega) 0).2.2]; rfl); have := gO_7_1 hkv20 (by omega) hS; omega) (fun v39 q40 => ?_)
        have hrv39 := gA_7_1 hkv20 (by omega) hS ((μ 3 1)).toNat
        rw [← q40] at hrv39
        refine wp_calls (t_X4_isDigit (l0 := v39)  (by have := gO_7_1 hkv20 (by omega) hS; have := gO_4_1 (rfl : kD 3 = (14, 3)) (by decide) hS; omega) hS) (fun v47 hh => ?_)
        obtain ⟨hr48, hp48⟩ := hh
        refine wp_if (fun g53 => ?_) (fun g53 => ?_)
        · exact hQ _ _ hS (by have := gO_7_1 hkv20 (by omega) hS; have := gO_4_1 (rfl : kD 3 = (14, 3)) (by decide) hS; omega) (by show (l2 ≤ 999 ∨ 3 < l1); exact (by have := gO_7_1 hkv20 (by omega) hS; have := gO_4_1 (rfl : kD 3 = (14, 3)) (by decide) hS; omega))
        · refine wp_mRe hkv20 e21 ?_
          refine wp_ldv (by have := gO_4_1 (rfl : kD 3 = (14, 3)) (by decide) hS; have na1 : ((aN (v20 + 1) : Nat) : Int) = 160 := (by rw [(bA_7_1 hkv20 (by omega) 0).2.2]; rfl); have := gO_7_1 hkv20 (by omega) hS; omega) (fun v58 q59 => ?_)
          have hrv58 := gA_7_1 hkv20 (by omega) hS ((μ 3 1)).toNat
          rw [← q59] at hrv58
          refine wp_ltv (fun v62 q63 => ?_)
          refine wp_sFv (P := St W μs) (pO_4_1 (rfl : kD 3 = (14, 3)) hS (hW _ _ (by unfold scr; omega)) (by have := gO_4_1 (rfl : kD 3 = (14, 3)) (by decide) hS; have := iA_c (μ 3 1) 1; have := gO_7_1 hkv20 (by omega) hS; have := iM_c 10 l2; have := iA_c (iM 10 l2) v58; have := iS_c (iA (iM 10 l2) v58) 48; omega)) (fun m65 h65 he65 => ?_)
          exact ih h65 (by have := gO_7_1 hkv20 (by omega) hS; have := gO_4_1 (rfl : kD 3 = (14, 3)) (by decide) hS; have := iM_c 10 l2; have := iA_c (iM 10 l2) v58; have := iS_c (iA (iM 10 l2) v58) 48; omega) (by have := iA_c l3 1; have := gO_7_1 hkv20 (by omega) hS; have := gO_4_1 (rfl : kD 3 = (14, 3)) (by decide) hS; have := iM_c 10 l2; have := iA_c (iM 10 l2) v58; have := iS_c (iA (iM 10 l2) v58) 48; omega) (by have := iA_c l3 1; have := gO_7_1 hkv20 (by omega) hS; have := gO_4_1 (rfl : kD 3 = (14, 3)) (by decide) hS; have := iM_c 10 l2; have := iA_c (iM 10 l2) v58; have := iS_c (iA (iM 10 l2) v58) 48; omega) (by have := iA_c l3 1; have := gO_7_1 hkv20 (by omega) hS; have := gO_4_1 (rfl : kD 3 = (14, 3)) (by decide) hS; have := iM_c 10 l2; have := iA_c (iM 10 l2) v58; have := iS_c (iA (iM 10 l2) v58) 48; omega)
set_option maxHeartbeats 4000000 in
set_option maxRecDepth 100000 in
theorem t_X4_number {W : Nat → Nat → Prop} {μs : Mm} {l1 : Int} (hW : ∀ k j, scr k j → W k j)  (hp_l1 : 3 ≤ l1 ∧ l1 ≤ 4) {μ : Mm} (hS : St W μs μ) : wp (X4_number l1 μ) (fun r μ' => St W μs μ' ∧ (0 ≤ r ∧ r ≤ 9999) ∧ (r ≤ 999 ∨ 3 < l1)) := by
  have hFU := FU_v
  unfold X4_number
  refine wp_call (t_X4_peek hW  hS) (fun v7 m8 hh => ?_)
  obtain ⟨h8, hr8, hp8⟩ := hh
  refine wp_calls (t_X4_isDigit (l0 := v7)  (by omega) h8) (fun v13 hh => ?_)
  obtain ⟨hr14, hp14⟩ := hh
  refine wp_if (fun g17 => ?_) (fun g17 => ?_)
  · refine wp_call (t_X4_refuseAt (l1 := (m8 3 1)) hW (by have := gO_4_1 (rfl : kD 3 = (14, 3)) (by decide) h8; omega) h8) (fun v18 m19 hh => ?_)
    obtain ⟨h19, hr19, hp19⟩ := hh
    exact ⟨h19, (by omega), (by show (0 ≤ 999 ∨ 3 < l1); exact (by omega))⟩
  · exact t_X4_number_L24 (l1 := l1) (l2 := 0) (l3 := 0) hW (by omega) (fun r_ m_ h_ hr_ hp_ => by exact ⟨h_, (by omega), (by show (r_ ≤ 999 ∨ 3 < l1); exact (by omega))⟩) FU h8 (by omega) (by omega) (by omega) (by omega)
set_option maxHeartbeats 4000000 in
set_option maxRecDepth 100000 in
theorem t_X2_letter {W : Nat → Nat → Prop} {μs : Mm} {l1 : Int} (hW : ∀ k j, scr k j → W k j)  (hp_l1 : -2147483648 ≤ l1 ∧ l1 ≤ 2147483647) {μ : Mm} (hS : St W μs μ) : wp (X2_letter l1 μ) (fun r μ' => St W μs μ' ∧ (-2147483648 ≤ r ∧ r ≤ 2147483647) ∧ True) := by
  have hFU := FU_v
  unfold X2_letter
  refine wp_if (fun g13 => ?_) (fun g13 => ?_)
  · refine wp_call (t_X4_pass hW  hS) (fun v14 m15 hh => ?_)
    obtain ⟨h15, hr15, hp15⟩ := hh
    exact ⟨h15, (by have := gO_2_4 (rfl : kD 4 = (12, 6)) (by decide) hS; omega), trivial⟩
  · refine wp_if (fun g16 => ?_) (fun g16 => ?_)
    · refine wp_call (t_X4_pass hW  hS) (fun v17 m18 hh => ?_)
      obtain ⟨h18, hr18, hp18⟩ := hh
      exact ⟨h18, (by have := gO_2_2 (rfl : kD 4 = (12, 6)) (by decide) hS; omega), trivial⟩
    · refine wp_if (fun g19 => ?_) (fun g19 => ?_)
      · refine wp_call (t_X4_pass hW  hS) (fun v20 m21 hh => ?_)
        obtain ⟨h21, hr21, hp21⟩ := hh
        exact ⟨h21, (by have := gO_2_5 (rfl : kD 4 = (12, 6)) (by decide) hS; omega), trivial⟩
      · refine wp_if (fun g22 => ?_) (fun g22 => ?_)
        · refine wp_call (t_X4_pass hW  hS) (fun v23 m24 hh => ?_)
          obtain ⟨h24, hr24, hp24⟩ := hh
          exact ⟨h24, (by have := gO_2_3 (rfl : kD 4 = (12, 6)) (by decide) hS; omega), trivial⟩
        · refine wp_if (fun g25 => ?_) (fun g25 => ?_)
          · refine wp_call (t_X4_pass hW  hS) (fun v26 m27 hh => ?_)
            obtain ⟨h27, hr27, hp27⟩ := hh
            exact ⟨h27, (by have := gO_2_1 (rfl : kD 4 = (12, 6)) (by decide) hS; omega), trivial⟩
          · refine wp_call (t_X4_refuseAt (l1 := (μ 3 1)) hW (by have := gO_4_1 (rfl : kD 3 = (14, 3)) (by decide) hS; omega) hS) (fun v28 m29 hh => ?_)
            obtain ⟨h29, hr29, hp29⟩ := hh
            exact ⟨h29, (by omega), trivial⟩
set_option maxHeartbeats 4000000 in
set_option maxRecDepth 100000 in
theorem t_X2_held {W : Nat → Nat → Prop} {μs : Mm} {l0 : Int}  (hp_l0 : -9223372036854775808 ≤ l0 ∧ l0 ≤ 9223372036854775807) {μ : Mm} (hS : St W μs μ) : wp (X2_held l0 μ) (fun r μ' => μ' = μ ∧ (-1000000 ≤ r ∧ r ≤ 1000000) ∧ True) := by
  have hFU := FU_v
  unfold X2_held
  exact ⟨rfl, (by have := mN_c 1000000 l0; have := mX_c (-1000000) (mN 1000000 l0); omega), trivial⟩
set_option maxHeartbeats 4000000 in
set_option maxRecDepth 100000 in
theorem t_X2_atom_o {W : Nat → Nat → Prop} {μs : Mm} {l1 : Int} (hW : ∀ k j, scr k j → W k j) {N : Int} {rec : Int → Mm → Rs} (hrec : ∀ (l1 : Int) (μ : Mm), St W μs μ → (0 ≤ l1 ∧ l1 ≤ 6) → 7 ≤ l1 + N → wp (rec l1 μ) (fun r μ' => St W μs μ' ∧ (-2147483648 ≤ r ∧ r ≤ 2147483647) ∧ True))  (hp_l1 : 0 ≤ l1 ∧ l1 ≤ 6) {μ : Mm} (hS : St W μs μ) (hl : 6 ≤ l1 + N) : wp (X2_atom_o rec l1 μ) (fun r μ' => St W μs μ' ∧ (-2147483648 ≤ r ∧ r ≤ 2147483647) ∧ True) := by
  have hFU := FU_v
  unfold X2_atom_o
  refine wp_call (t_X4_peek hW  hS) (fun v17 m18 hh => ?_)
  obtain ⟨h18, hr18, hp18⟩ := hh
  refine wp_calls (t_X4_isDigit (l0 := v17)  (by omega) h18) (fun v33 hh => ?_)
  obtain ⟨hr34, hp34⟩ := hh
  refine wp_if (fun g47 => ?_) (fun g47 => ?_)
  · refine wp_if (fun g48 => ?_) (fun g48 => ?_)
    · refine wp_if (fun g49 => ?_) (fun g49 => ?_)
      · refine wp_call (t_X2_letter (l1 := v17) hW (by omega) h18) (fun v50 m51 hh => ?_)
        obtain ⟨h51, hr51, hp51⟩ := hh
        exact ⟨h51, (by omega), trivial⟩
      · refine wp_call (t_X4_pass hW  h18) (fun v52 m53 hh => ?_)
        obtain ⟨h53, hr53, hp53⟩ := hh
        refine wp_call (hrec (iA l1 1) m53 h53 (by have := iA_c l1 1; omega) (by have := iA_c l1 1; omega)) (fun v58 m59 hh => ?_)
        obtain ⟨h59, hr59, hp59⟩ := hh
        refine wp_call (t_X4_need (l1 := 93) hW (by omega) h59) (fun v62 m63 hh => ?_)
        obtain ⟨h63, hr63, hp63⟩ := hh
        exact ⟨h63, (by omega), trivial⟩
    · refine wp_call (t_X2_letter (l1 := v17) hW (by omega) h18) (fun v64 m65 hh => ?_)
      obtain ⟨h65, hr65, hp65⟩ := hh
      exact ⟨h65, (by omega), trivial⟩
  · refine wp_call (t_X4_number (l1 := 4) hW (by omega) h18) (fun v66 m67 hh => ?_)
    obtain ⟨h67, hr67, hp67⟩ := hh
    exact ⟨h67, (by omega), trivial⟩
