/-! TOTALITY of the class, by program (wip/gen/tot.py) -/
set_option maxHeartbeats 4000000 in
set_option maxRecDepth 100000 in
theorem t_X10_exchange {W : Nat → Nat → Prop} {μs : Mm} {l1 : Int} {l2 : Int} {l3 : Int} (hW : ∀ k j, scr k j → W k j)  (hp_l1 : -2147483648 ≤ l1 ∧ l1 ≤ 2147483647) (hp_l2 : -2147483648 ≤ l2 ∧ l2 ≤ 2147483647) (hp_l3 : -2147483648 ≤ l3 ∧ l3 ≤ 2147483647) {μ : Mm} (hS : St W μs μ) : wp (X10_exchange l1 l2 l3 μ) (fun r μ' => St W μs μ' ∧ (-2147483648 ≤ r ∧ r ≤ 2147483647) ∧ True) := by
  have hFU := FU_v
  unfold X10_exchange
  refine wp_calls (t_X10_isHalf (l0 := l3)  (by omega) hS) (fun v14 hh => ?_)
  obtain ⟨hr15, hp15⟩ := hh
  refine wp_if (fun g27 => ?_) (fun g27 => ?_)
  · exact ⟨hS, (by omega), trivial⟩
  · refine wp_if (fun g28 => ?_) (fun g28 => ?_)
    · exact ⟨hS, (by omega), trivial⟩
    · refine wp_call (t_X10_lay (l1 := l1) hW (by omega) hS) (fun v29 m30 hh => ?_)
      obtain ⟨h30, hr30, hp30⟩ := hh
      refine wp_if (fun g40 => ?_) (fun g40 => ?_)
      · exact ⟨h30, (by omega), trivial⟩
      · refine wp_call (t_X10_lay (l1 := l2) hW (by omega) h30) (fun v41 m42 hh => ?_)
        obtain ⟨h42, hr42, hp42⟩ := hh
        refine wp_if (fun g50 => ?_) (fun g50 => ?_)
        · exact ⟨h42, (by omega), trivial⟩
        · refine wp_call (t_X0_copy (l0 := 13) (l1 := 5) hW (fun _ _ _ _ => hW _ _ (by unfold scr; omega)) (rfl : kD 13 = (10, 9)) (rfl : kD 5 = (10, 9)) h42) (fun v51 m52 hh => ?_)
          obtain ⟨h52, hr52, hp52⟩ := hh
          refine wp_call (t_X10_leastTogether (l1 := l1) (l2 := l2) hW (by omega) (by omega) h52) (fun v58 m59 hh => ?_)
          obtain ⟨h59, hr59, hp59⟩ := hh
          refine t_X10_exchange_L55 (l1 := l1) (l2 := l2) (l3 := l3) (l4 := 0) (l5 := v58) (l6 := 0) hW (by omega) (by omega) (by omega) (fun v63 v64 m65 h65 hrv63 hrv64 hp65 => ?_) FU h59 (by omega) (by omega) (by omega) trivial (by omega)
          refine wp_if (fun g66 => ?_) (fun g66 => ?_)
          · exact ⟨h65, (by omega), trivial⟩
          · refine wp_if (fun g67 => ?_) (fun g67 => ?_)
            · exact ⟨h65, (by omega), trivial⟩
            · exact ⟨h65, (by omega), trivial⟩
set_option maxHeartbeats 4000000 in
set_option maxRecDepth 100000 in
theorem t_X10_pillar_L33 {W : Nat → Nat → Prop} {μs : Mm} {l1 : Int} {l2 : Int} (hW : ∀ k j, scr k j → W k j)  (hp_l1 : 0 ≤ l1 ∧ l1 ≤ 4) (hp_l2 : -2147483648 ≤ l2 ∧ l2 ≤ 2147483647) {k117 : Int → Int → Mm → Rs} {Q : Int → Mm → Prop} (hk_k117 : ∀ (a0 a1 : Int) (μ : Mm), St W μs μ → (-2147483648 ≤ a0 ∧ a0 ≤ 2147483647) → (-2147483648 ≤ a1 ∧ a1 ≤ 2147483647) → True → wp (k117 a0 a1 μ) Q) : ∀ (n : Nat) {l3 l4 l5 : Int} {μ : Mm}, St W μs μ → (-2147483648 ≤ l3 ∧ l3 ≤ 2147483647) → (-2147483648 ≤ l4 ∧ l4 ≤ 2147483647) → (0 ≤ l5 ∧ l5 ≤ 60) → True → 60 - l5 + 1 ≤ ((n : Nat) : Int) → wp (X10_pillar_L33 l1 l2 k117 n l3 l4 l5 μ) Q := by
  have hFU := FU_v
  intro n
  induction n with
  | zero => intro l3 l4 l5 μ hS hv_l3 hv_l4 hv_l5 hi hm; exact absurd hm (by  have : ((0 : Nat) : Int) = 0 := rfl; omega)
  | succ n ih =>
    intro l3 l4 l5 μ hS hv_l3 hv_l4 hv_l5 hi hm
    have hn1 : ((n + 1 : Nat) : Int) = ((n : Nat) : Int) + 1 := rfl
    rw [X10_pillar_L33]
    refine wp_if (fun g29 => ?_) (fun g29 => ?_)
    · exact hk_k117 l3 l4 μ hS (by omega) (by omega) trivial
    · refine wp_if (fun g30 => ?_) (fun g30 => ?_)
      · exact hk_k117 l3 l4 μ hS (by omega) (by omega) trivial
      · refine wp_call (t_X0_copy (l0 := 13) (l1 := 5) hW (fun _ _ _ _ => hW _ _ (by unfold scr; omega)) (rfl : kD 13 = (10, 9)) (rfl : kD 5 = (10, 9)) hS) (fun v31 m32 hh => ?_)
        obtain ⟨h32, hr32, hp32⟩ := hh
        refine wp_call (t_X0_putPost (l0 := 13) (l1 := l5) hW (fun _ _ _ _ => hW _ _ (by unfold scr; omega)) (rfl : kD 13 = (10, 9)) (by omega) h32) (fun v45 m46 hh => ?_)
        obtain ⟨h46, hr46, hp46⟩ := hh
        refine wp_if (fun g57 => ?_) (fun g57 => ?_)
        · exact ih h46 (by omega) (by omega) (by have := iA_c l5 1; omega) trivial (by have := iA_c l5 1; omega)
        · refine wp_call (t_X10_leastInTrial (l1 := l1) hW (by omega) h46) (fun v58 m59 hh => ?_)
          obtain ⟨h59, hr59, hp59⟩ := hh
          refine wp_if (fun g68 => ?_) (fun g68 => ?_)
          · unfold X10_pillar_J93
            try dsimp only
            refine wp_if (fun g69 => ?_) (fun g69 => ?_)
            · exact ih h59 (by omega) (by omega) (by have := iA_c l5 1; omega) trivial (by have := iA_c l5 1; omega)
            · exact ih h59 (by omega) (by omega) (by have := iA_c l5 1; omega) trivial (by have := iA_c l5 1; omega)
          · refine wp_if (fun g70 => ?_) (fun g70 => ?_)
            · exact ih h59 (by omega) (by omega) (by have := iA_c l5 1; omega) trivial (by have := iA_c l5 1; omega)
            · unfold X10_pillar_J93
              try dsimp only
              refine wp_if (fun g71 => ?_) (fun g71 => ?_)
              · exact ih h59 (by omega) (by omega) (by have := iA_c l5 1; omega) trivial (by have := iA_c l5 1; omega)
              · exact ih h59 (by omega) (by omega) (by have := iA_c l5 1; omega) trivial (by have := iA_c l5 1; omega)
set_option maxHeartbeats 4000000 in
set_option maxRecDepth 100000 in
theorem t_X10_pillar {W : Nat → Nat → Prop} {μs : Mm} {l1 : Int} {l2 : Int} (hW : ∀ k j, scr k j → W k j)  (hp_l1 : -2147483648 ≤ l1 ∧ l1 ≤ 2147483647) (hp_l2 : -2147483648 ≤ l2 ∧ l2 ≤ 2147483647) {μ : Mm} (hS : St W μs μ) : wp (X10_pillar l1 l2 μ) (fun r μ' => St W μs μ' ∧ (-2147483648 ≤ r ∧ r ≤ 2147483647) ∧ True) := by
  have hFU := FU_v
  unfold X10_pillar
  refine wp_calls (t_X10_isHalf (l0 := l2)  (by omega) hS) (fun v10 hh => ?_)
  obtain ⟨hr11, hp11⟩ := hh
  refine wp_if (fun g19 => ?_) (fun g19 => ?_)
  · exact ⟨hS, (by omega), trivial⟩
  · refine wp_call (t_X10_lay (l1 := l1) hW (by omega) hS) (fun v20 m21 hh => ?_)
    obtain ⟨h21, hr21, hp21⟩ := hh
    refine wp_if (fun g27 => ?_) (fun g27 => ?_)
    · exact ⟨h21, (by omega), trivial⟩
    · refine wp_call (t_X10_leastLates hW  h21) (fun v28 m29 hh => ?_)
      obtain ⟨h29, hr29, hp29⟩ := hh
      refine wp_if (fun g33 => ?_) (fun g33 => ?_)
      · exact ⟨h29, (by omega), trivial⟩
      · refine t_X10_pillar_L33 (l1 := l1) (l2 := l2) (l3 := (-1)) (l4 := (-1)) (l5 := 0) hW (by omega) (by omega) (fun v34 v35 m36 h36 hrv34 hrv35 hp36 => ?_) FU h29 (by omega) (by omega) (by omega) trivial (by omega)
        refine wp_if (fun g37 => ?_) (fun g37 => ?_)
        · exact ⟨h36, (by omega), trivial⟩
        · exact ⟨h36, (by omega), trivial⟩
set_option maxHeartbeats 4000000 in
set_option maxRecDepth 100000 in
theorem t_X10_urgent_L27 {W : Nat → Nat → Prop} {μs : Mm} {l2 : Int} (hW : ∀ k j, scr k j → W k j)  (hp_l2 : -2147483648 ≤ l2 ∧ l2 ≤ 2147483647) {Q : Int → Mm → Prop} (hQ : ∀ r μ, St W μs μ → (-2147483648 ≤ r ∧ r ≤ 2147483647) → True → Q r μ) : ∀ (n : Nat) {l3 l4 : Int} {μ : Mm}, St W μs μ → (-2147483648 ≤ l3 ∧ l3 ≤ 2147483647) → (0 ≤ l4 ∧ l4 ≤ 8) → True → 8 - l4 + 1 ≤ ((n : Nat) : Int) → wp (X10_urgent_L27 l2 n l3 l4 μ) Q := by
  have hFU := FU_v
  intro n
  induction n with
  | zero => intro l3 l4 μ hS hv_l3 hv_l4 hi hm; exact absurd hm (by  have : ((0 : Nat) : Int) = 0 := rfl; omega)
  | succ n ih =>
    intro l3 l4 μ hS hv_l3 hv_l4 hi hm
    have hn1 : ((n + 1 : Nat) : Int) = ((n : Nat) : Int) + 1 := rfl
    rw [X10_urgent_L27]
    refine wp_if (fun g23 => ?_) (fun g23 => ?_)
    · exact hQ _ _ hS (by have := gO_1_5 (rfl : kD 48 = (11, 7)) (by decide) hS; omega) trivial
    · refine wp_ldv (by have na0 : ((aN 50 : Nat) : Int) = 8 := rfl; have := gO_1_5 (rfl : kD 48 = (11, 7)) (by decide) hS; omega) (fun v24 q25 => ?_)
      have hrv24 := gA_1_2 (rfl : kD 48 = (11, 7)) (by decide) hS (l4).toNat
      replace hrv24 : -2147483648 ≤ v24 ∧ v24 ≤ 2147483647 := by rw [q25]; exact hrv24
      refine wp_stv (P := St W μs) (by have na0 : ((aN 50 : Nat) : Int) = 8 := rfl; have := gO_1_5 (rfl : kD 48 = (11, 7)) (by decide) hS; omega) (pA_1_2 (rfl : kD 48 = (11, 7)) (by decide) hS (hW _ _ (by unfold scr; omega)) (by have := iA_c v24 1; have := gO_1_5 (rfl : kD 48 = (11, 7)) (by decide) hS; omega)) (fun m36 h36 he36 => ?_)
      refine wp_call (t_X10_leastLates hW  h36) (fun v46 m47 hh => ?_)
      obtain ⟨h47, hr47, hp47⟩ := hh
      refine wp_if (fun g55 => ?_) (fun g55 => ?_)
      · unfold X10_urgent_J68
        try dsimp only
        refine wp_ldv (by have na0 : ((aN 50 : Nat) : Int) = 8 := rfl; have := gO_1_5 (rfl : kD 48 = (11, 7)) (by decide) hS; omega) (fun v58 q59 => ?_)
        have hrv58 := gA_1_2 (rfl : kD 48 = (11, 7)) (by decide) h47 (l4).toNat
        replace hrv58 : -2147483648 ≤ v58 ∧ v58 ≤ 2147483647 := by rw [q59]; exact hrv58
        refine wp_stv (P := St W μs) (by have na0 : ((aN 50 : Nat) : Int) = 8 := rfl; have := gO_1_5 (rfl : kD 48 = (11, 7)) (by decide) hS; omega) (pA_1_2 (rfl : kD 48 = (11, 7)) (by decide) h47 (hW _ _ (by unfold scr; omega)) (by have := iS_c v58 1; have := gO_1_5 (rfl : kD 48 = (11, 7)) (by decide) hS; omega)) (fun m61 h61 he61 => ?_)
        exact ih h61 (by have := gO_1_5 (rfl : kD 48 = (11, 7)) (by decide) hS; omega) (by have := iA_c l4 1; have := gO_1_5 (rfl : kD 48 = (11, 7)) (by decide) hS; omega) trivial (by have := iA_c l4 1; have := gO_1_5 (rfl : kD 48 = (11, 7)) (by decide) hS; omega)
      · refine wp_ltv (fun v62 q63 => ?_)
        unfold X10_urgent_J68
        try dsimp only
        refine wp_ldv (by have na0 : ((aN 50 : Nat) : Int) = 8 := rfl; have := gO_1_5 (rfl : kD 48 = (11, 7)) (by decide) hS; have := bL_r 1 l4; have := bO_r l3 (bL 1 l4); omega) (fun v69 q70 => ?_)
        have hrv69 := gA_1_2 (rfl : kD 48 = (11, 7)) (by decide) h47 (l4).toNat
        replace hrv69 : -2147483648 ≤ v69 ∧ v69 ≤ 2147483647 := by rw [q70]; exact hrv69
        refine wp_stv (P := St W μs) (by have na0 : ((aN 50 : Nat) : Int) = 8 := rfl; have := gO_1_5 (rfl : kD 48 = (11, 7)) (by decide) hS; have := bL_r 1 l4; have := bO_r l3 (bL 1 l4); omega) (pA_1_2 (rfl : kD 48 = (11, 7)) (by decide) h47 (hW _ _ (by unfold scr; omega)) (by have := iS_c v69 1; have := gO_1_5 (rfl : kD 48 = (11, 7)) (by decide) hS; have := bL_r 1 l4; have := bO_r l3 (bL 1 l4); omega)) (fun m72 h72 he72 => ?_)
        exact ih h72 (by have := gO_1_5 (rfl : kD 48 = (11, 7)) (by decide) hS; have := bL_r 1 l4; have := bO_r l3 (bL 1 l4); omega) (by have := iA_c l4 1; have := gO_1_5 (rfl : kD 48 = (11, 7)) (by decide) hS; have := bL_r 1 l4; have := bO_r l3 (bL 1 l4); omega) trivial (by have := iA_c l4 1; have := gO_1_5 (rfl : kD 48 = (11, 7)) (by decide) hS; have := bL_r 1 l4; have := bO_r l3 (bL 1 l4); omega)
set_option maxHeartbeats 4000000 in
set_option maxRecDepth 100000 in
theorem t_X10_urgent {W : Nat → Nat → Prop} {μs : Mm} {l1 : Int} (hW : ∀ k j, scr k j → W k j)  (hp_l1 : -2147483648 ≤ l1 ∧ l1 ≤ 2147483647) {μ : Mm} (hS : St W μs μ) : wp (X10_urgent l1 μ) (fun r μ' => St W μs μ' ∧ (-2147483648 ≤ r ∧ r ≤ 2147483647) ∧ True) := by
  have hFU := FU_v
  unfold X10_urgent
  refine wp_call (t_X10_lay (l1 := l1) hW (by omega) hS) (fun v5 m6 hh => ?_)
  obtain ⟨h6, hr6, hp6⟩ := hh
  refine wp_if (fun g9 => ?_) (fun g9 => ?_)
  · exact ⟨h6, (by omega), trivial⟩
  · refine wp_call (t_X10_leastLates hW  h6) (fun v10 m11 hh => ?_)
    obtain ⟨h11, hr11, hp11⟩ := hh
    refine wp_if (fun g12 => ?_) (fun g12 => ?_)
    · exact ⟨h11, (by omega), trivial⟩
    · exact t_X10_urgent_L27 (l2 := v10) (l3 := 0) (l4 := 0) hW (by omega) (fun r_ m_ h_ hr_ hp_ => by exact ⟨h_, (by omega), trivial⟩) FU h11 (by omega) (by omega) trivial (by omega)
set_option maxHeartbeats 4000000 in
set_option maxRecDepth 100000 in
theorem t_X10_skip_L65 {W : Nat → Nat → Prop} {μs : Mm} {l3 : Int} {l4 : Int} (hW : ∀ k j, scr k j → W k j)  (hp_l3 : -2147483648 ≤ l3 ∧ l3 ≤ 2147483647) (hp_l4 : -2147483648 ≤ l4 ∧ l4 ≤ 2147483647) {k118 : Int → Mm → Rs} {Q : Int → Mm → Prop} (hk_k118 : ∀ (a0 : Int) (μ : Mm), St W μs μ → (-2147483648 ≤ a0 ∧ a0 ≤ 2147483647) → True → wp (k118 a0 μ) Q) : ∀ (n : Nat) {l5 l6 : Int} {μ : Mm}, St W μs μ → (-2147483648 ≤ l5 ∧ l5 ≤ 2147483647) → (0 ≤ l6 ∧ l6 ≤ 8) → True → 8 - l6 + 1 ≤ ((n : Nat) : Int) → wp (X10_skip_L65 l3 l4 k118 n l5 l6 μ) Q := by
  have hFU := FU_v
  intro n
  induction n with
  | zero => intro l5 l6 μ hS hv_l5 hv_l6 hi hm; exact absurd hm (by  have : ((0 : Nat) : Int) = 0 := rfl; omega)
  | succ n ih =>
    intro l5 l6 μ hS hv_l5 hv_l6 hi hm
    have hn1 : ((n + 1 : Nat) : Int) = ((n : Nat) : Int) + 1 := rfl
    rw [X10_skip_L65]
    refine wp_if (fun g7 => ?_) (fun g7 => ?_)
    · exact hk_k118 l5 μ hS (by have := gO_1_5 (rfl : kD 48 = (11, 7)) (by decide) hS; omega) trivial
    · refine wp_if (fun g8 => ?_) (fun g8 => ?_)
      · refine wp_ldv (by have na0 : ((aN 50 : Nat) : Int) = 8 := rfl; have := gO_1_5 (rfl : kD 48 = (11, 7)) (by decide) hS; omega) (fun v9 q10 => ?_)
        have hrv9 := gA_1_2 (rfl : kD 48 = (11, 7)) (by decide) hS (l6).toNat
        replace hrv9 : -2147483648 ≤ v9 ∧ v9 ≤ 2147483647 := by rw [q10]; exact hrv9
        refine wp_stv (P := St W μs) (by have na0 : ((aN 50 : Nat) : Int) = 8 := rfl; have := gO_1_5 (rfl : kD 48 = (11, 7)) (by decide) hS; omega) (pA_1_2 (rfl : kD 48 = (11, 7)) (by decide) hS (hW _ _ (by unfold scr; omega)) (by have := iS_c v9 l4; have := gO_1_5 (rfl : kD 48 = (11, 7)) (by decide) hS; omega)) (fun m12 h12 he12 => ?_)
        exact ih h12 (by have := gO_1_5 (rfl : kD 48 = (11, 7)) (by decide) hS; omega) (by have := iA_c l6 1; have := gO_1_5 (rfl : kD 48 = (11, 7)) (by decide) hS; omega) trivial (by have := iA_c l6 1; have := gO_1_5 (rfl : kD 48 = (11, 7)) (by decide) hS; omega)
      · refine wp_ltv (fun v13 q14 => ?_)
        exact ih hS (by have := gO_1_5 (rfl : kD 48 = (11, 7)) (by decide) hS; have := bL_r 1 l6; have := bX_r (bL 1 l6) (-1); have := bA_r l5 (bX (bL 1 l6) (-1)); omega) (by have := iA_c l6 1; have := gO_1_5 (rfl : kD 48 = (11, 7)) (by decide) hS; have := bL_r 1 l6; have := bX_r (bL 1 l6) (-1); have := bA_r l5 (bX (bL 1 l6) (-1)); omega) trivial (by have := iA_c l6 1; have := gO_1_5 (rfl : kD 48 = (11, 7)) (by decide) hS; have := bL_r 1 l6; have := bX_r (bL 1 l6) (-1); have := bA_r l5 (bX (bL 1 l6) (-1)); omega)
set_option maxHeartbeats 4000000 in
set_option maxRecDepth 100000 in
theorem t_X10_skip {W : Nat → Nat → Prop} {μs : Mm} {l1 : Int} {l2 : Int} {l3 : Int} (hW : ∀ k j, scr k j → W k j)  (hp_l1 : -2147483648 ≤ l1 ∧ l1 ≤ 2147483647) (hp_l2 : -2147483648 ≤ l2 ∧ l2 ≤ 2147483647) (hp_l3 : -2147483648 ≤ l3 ∧ l3 ≤ 2147483647) {μ : Mm} (hS : St W μs μ) : wp (X10_skip l1 l2 l3 μ) (fun r μ' => St W μs μ' ∧ (-2147483648 ≤ r ∧ r ≤ 2147483647) ∧ True) := by
  have hFU := FU_v
  unfold X10_skip
  refine wp_call (t_X10_lay (l1 := l1) hW (by omega) hS) (fun v11 m12 hh => ?_)
  obtain ⟨h12, hr12, hp12⟩ := hh
  refine wp_if (fun g21 => ?_) (fun g21 => ?_)
  · exact ⟨h12, (by omega), trivial⟩
  · refine wp_if (fun g22 => ?_) (fun g22 => ?_)
    · exact ⟨h12, (by omega), trivial⟩
    · refine wp_if (fun g23 => ?_) (fun g23 => ?_)
      · exact ⟨h12, (by omega), trivial⟩
      · refine wp_if (fun g24 => ?_) (fun g24 => ?_)
        · refine wp_ldv (by have na0 : ((aN 50 : Nat) : Int) = 8 := rfl; have := gO_1_5 (rfl : kD 48 = (11, 7)) (by decide) h12; omega) (fun v25 q26 => ?_)
          have hrv25 := gA_1_2 (rfl : kD 48 = (11, 7)) (by decide) h12 (l3).toNat
          replace hrv25 : -2147483648 ≤ v25 ∧ v25 ≤ 2147483647 := by rw [q26]; exact hrv25
          refine wp_ldv (by have := iS_c l2 1; have na1 : ((aN 50 : Nat) : Int) = 8 := rfl; have := gO_1_5 (rfl : kD 48 = (11, 7)) (by decide) h12; omega) (fun v34 q35 => ?_)
          have hrv34 := gA_1_2 (rfl : kD 48 = (11, 7)) (by decide) h12 ((iS l2 1)).toNat
          replace hrv34 : -2147483648 ≤ v34 ∧ v34 ≤ 2147483647 := by rw [q35]; exact hrv34
          refine wp_calls (t_X1_allCues (l0 := 48)  (rfl : kD 48 = (11, 7)) h12) (fun v42 hh => ?_)
          obtain ⟨hr43, hp43⟩ := hh
          refine t_X10_skip_L65 (l3 := l3) (l4 := (iS v25 v34)) (l5 := v42) (l6 := l2) hW (by have := gO_1_5 (rfl : kD 48 = (11, 7)) (by decide) h12; omega) (by have := iS_c v25 v34; have := gO_1_5 (rfl : kD 48 = (11, 7)) (by decide) h12; omega) (fun v48 m49 h49 hrv48 hp49 => ?_) FU h12 (by have := gO_1_5 (rfl : kD 48 = (11, 7)) (by decide) h12; omega) (by have := gO_1_5 (rfl : kD 48 = (11, 7)) (by decide) h12; omega) trivial (by have := gO_1_5 (rfl : kD 48 = (11, 7)) (by decide) h12; omega)
          refine wp_call (t_X10_latesByBook (l1 := v48) hW (by have := gO_1_5 (rfl : kD 48 = (11, 7)) (by decide) h12; omega) h49) (fun v52 m53 hh => ?_)
          obtain ⟨h53, hr53, hp53⟩ := hh
          exact ⟨h53, (by have := gO_1_5 (rfl : kD 48 = (11, 7)) (by decide) h12; omega), trivial⟩
        · exact ⟨h12, (by have := gO_1_5 (rfl : kD 48 = (11, 7)) (by decide) h12; omega), trivial⟩
set_option maxHeartbeats 4000000 in
set_option maxRecDepth 100000 in
theorem t_X10_nights_L37 {W : Nat → Nat → Prop} {μs : Mm} {l1 : Int} {l2 : Int} {l3 : Int} (hW : ∀ k j, scr k j → W k j)  (hp_l1 : 0 ≤ l1 ∧ l1 ≤ 4) (hp_l2 : 1 ≤ l2 ∧ l2 ≤ 30) (hp_l3 : -2147483648 ≤ l3 ∧ l3 ≤ 2147483647) {k103 : Int → Int → Mm → Rs} {Q : Int → Mm → Prop} (hk_k103 : ∀ (a0 a1 : Int) (μ : Mm), St W μs μ → (-2147483648 ≤ a0 ∧ a0 ≤ 2147483647) → (-2147483648 ≤ a1 ∧ a1 ≤ 2147483647) → True → wp (k103 a0 a1 μ) Q) : ∀ (n : Nat) {l4 l5 l6 : Int} {μ : Mm}, St W μs μ → (-2147483648 ≤ l4 ∧ l4 ≤ 2147483647) → (-2147483648 ≤ l5 ∧ l5 ≤ 2147483647) → (0 ≤ l6 ∧ l6 ≤ 30) → True → 30 - l6 + 1 ≤ ((n : Nat) : Int) → wp (X10_nights_L37 l1 l2 l3 k103 n l4 l5 l6 μ) Q := by
  have hFU := FU_v
  intro n
  induction n with
  | zero => intro l4 l5 l6 μ hS hv_l4 hv_l5 hv_l6 hi hm; exact absurd hm (by  have : ((0 : Nat) : Int) = 0 := rfl; omega)
  | succ n ih =>
    intro l4 l5 l6 μ hS hv_l4 hv_l5 hv_l6 hi hm
    have hn1 : ((n + 1 : Nat) : Int) = ((n : Nat) : Int) + 1 := rfl
    rw [X10_nights_L37]
    refine wp_if (fun g19 => ?_) (fun g19 => ?_)
    · exact hk_k103 l4 l5 μ hS (by omega) (by omega) trivial
    · have hi22 : 0 ≤ l1 ∧ l1 < ((aN 17 : Nat) : Int) := (by show _ ∧ _ < (5 : Int); omega)
      refine wp_aLv hi22 (fun v20 q21 => ?_)
      have hkv20 : kD v20 = (13, 3) := by rw [q21]; exact kA17 hi22
      have hbv20 := kPr' hkv20
      refine wp_calls (t_X10_lawThatHolds   hS) (fun v31 hh => ?_)
      obtain ⟨hr32, hp32⟩ := hh
      refine wp_call (t_X2_fillTimes (l1 := v20) (l2 := v31) (l3 := l6) hW hkv20 hp32 (by omega) hS) (fun v39 m40 hh => ?_)
      obtain ⟨h40, hr40, hp40⟩ := hh
      refine wp_calls (t_X1_allCues (l0 := 48)  (rfl : kD 48 = (11, 7)) h40) (fun v45 hh => ?_)
      obtain ⟨hr46, hp46⟩ := hh
      refine wp_call (t_X10_latesByBook (l1 := v45) hW (by omega) h40) (fun v49 m50 hh => ?_)
      obtain ⟨h50, hr50, hp50⟩ := hh
      refine wp_if (fun g51 => ?_) (fun g51 => ?_)
      · exact ih h50 (by omega) (by omega) (by have := iA_c l6 1; omega) trivial (by have := iA_c l6 1; omega)
      · exact ih h50 (by omega) (by omega) (by have := iA_c l6 1; omega) trivial (by have := iA_c l6 1; omega)
set_option maxHeartbeats 4000000 in
set_option maxRecDepth 100000 in
theorem t_X10_nights {W : Nat → Nat → Prop} {μs : Mm} {l1 : Int} {l2 : Int} {l3 : Int} (hW : ∀ k j, scr k j → W k j)  (hp_l1 : -2147483648 ≤ l1 ∧ l1 ≤ 2147483647) (hp_l2 : -2147483648 ≤ l2 ∧ l2 ≤ 2147483647) (hp_l3 : -2147483648 ≤ l3 ∧ l3 ≤ 2147483647) {μ : Mm} (hS : St W μs μ) : wp (X10_nights l1 l2 l3 μ) (fun r μ' => St W μs μ' ∧ (-2147483648 ≤ r ∧ r ≤ 2147483647) ∧ True) := by
  have hFU := FU_v
  unfold X10_nights
  refine wp_calls (t_X10_isHalf (l0 := l3)  (by omega) hS) (fun v8 hh => ?_)
  obtain ⟨hr9, hp9⟩ := hh
  refine wp_if (fun g15 => ?_) (fun g15 => ?_)
  · exact ⟨hS, (by omega), trivial⟩
  · refine wp_if (fun g16 => ?_) (fun g16 => ?_)
    · exact ⟨hS, (by omega), trivial⟩
    · refine wp_if (fun g17 => ?_) (fun g17 => ?_)
      · exact ⟨hS, (by omega), trivial⟩
      · refine wp_call (t_X10_lay (l1 := l1) hW (by omega) hS) (fun v18 m19 hh => ?_)
        obtain ⟨h19, hr19, hp19⟩ := hh
        refine wp_if (fun g23 => ?_) (fun g23 => ?_)
        · exact ⟨h19, (by omega), trivial⟩
        · refine t_X10_nights_L37 (l1 := l1) (l2 := l2) (l3 := l3) (l4 := (-1)) (l5 := (-1)) (l6 := 0) hW (by omega) (by omega) (by omega) (fun v24 v25 m26 h26 hrv24 hrv25 hp26 => ?_) FU h19 (by omega) (by omega) (by omega) trivial (by omega)
          refine wp_if (fun g27 => ?_) (fun g27 => ?_)
          · exact ⟨h26, (by omega), trivial⟩
          · exact ⟨h26, (by omega), trivial⟩
set_option maxHeartbeats 4000000 in
set_option maxRecDepth 100000 in
theorem t_X10_slack_L50 {W : Nat → Nat → Prop} {μs : Mm} {l2 : Int} {l3 : Int} (hW : ∀ k j, scr k j → W k j)  (hp_l2 : 0 ≤ l2 ∧ l2 ≤ 7) (hp_l3 : -2147483648 ≤ l3 ∧ l3 ≤ 2147483647) {k85 : Int → Mm → Rs} {Q : Int → Mm → Prop} (hk_k85 : ∀ (a0 : Int) (μ : Mm), St W μs μ → (-2147483648 ≤ a0 ∧ a0 ≤ 2147483647) → True → wp (k85 a0 μ) Q) (hQ : ∀ r μ, St W μs μ → (-2147483648 ≤ r ∧ r ≤ 2147483647) → True → Q r μ) : ∀ (n : Nat) {l4 l5 : Int} {μ : Mm}, St W μs μ → (-2147483648 ≤ l4 ∧ l4 ≤ 2147483647) → (1 ≤ l5 ∧ l5 ≤ 31) → True → 31 - l5 + 1 ≤ ((n : Nat) : Int) → wp (X10_slack_L50 l2 l3 k85 n l4 l5 μ) Q := by
  have hFU := FU_v
  intro n
  induction n with
  | zero => intro l4 l5 μ hS hv_l4 hv_l5 hi hm; exact absurd hm (by  have : ((0 : Nat) : Int) = 0 := rfl; omega)
  | succ n ih =>
    intro l4 l5 μ hS hv_l4 hv_l5 hi hm
    have hn1 : ((n + 1 : Nat) : Int) = ((n : Nat) : Int) + 1 := rfl
    rw [X10_slack_L50]
    refine wp_if (fun g13 => ?_) (fun g13 => ?_)
    · exact hQ _ _ hS (by omega) trivial
    · refine wp_ldv (by have na0 : ((aN 51 : Nat) : Int) = 8 := rfl; omega) (fun v14 q15 => ?_)
      have hrv14 := gA_1_3 (rfl : kD 48 = (11, 7)) (by decide) hS (l2).toNat
      replace hrv14 : -2147483648 ≤ v14 ∧ v14 ≤ 2147483647 := by rw [q15]; exact hrv14
      refine wp_stv (P := St W μs) (by have na0 : ((aN 51 : Nat) : Int) = 8 := rfl; omega) (pA_1_3 (rfl : kD 48 = (11, 7)) (by decide) hS (hW _ _ (by unfold scr; omega)) (by have := iA_c v14 1; omega)) (fun m21 h21 he21 => ?_)
      refine wp_calls (t_X1_allCues (l0 := 48)  (rfl : kD 48 = (11, 7)) h21) (fun v26 hh => ?_)
      obtain ⟨hr27, hp27⟩ := hh
      refine wp_call (t_X10_latesByBook (l1 := v26) hW (by omega) h21) (fun v30 m31 hh => ?_)
      obtain ⟨h31, hr31, hp31⟩ := hh
      refine wp_if (fun g32 => ?_) (fun g32 => ?_)
      · exact ih h31 (by omega) (by have := iA_c l5 1; omega) trivial (by have := iA_c l5 1; omega)
      · exact hk_k85 l4 m31 h31 (by omega) trivial
set_option maxHeartbeats 4000000 in
set_option maxRecDepth 100000 in
theorem t_X10_slack {W : Nat → Nat → Prop} {μs : Mm} {l1 : Int} {l2 : Int} (hW : ∀ k j, scr k j → W k j)  (hp_l1 : -2147483648 ≤ l1 ∧ l1 ≤ 2147483647) (hp_l2 : -2147483648 ≤ l2 ∧ l2 ≤ 2147483647) {μ : Mm} (hS : St W μs μ) : wp (X10_slack l1 l2 μ) (fun r μ' => St W μs μ' ∧ (-2147483648 ≤ r ∧ r ≤ 2147483647) ∧ True) := by
  have hFU := FU_v
  unfold X10_slack
  refine wp_call (t_X10_lay (l1 := l1) hW (by omega) hS) (fun v9 m10 hh => ?_)
  obtain ⟨h10, hr10, hp10⟩ := hh
  refine wp_if (fun g17 => ?_) (fun g17 => ?_)
  · exact ⟨h10, (by omega), trivial⟩
  · refine wp_if (fun g18 => ?_) (fun g18 => ?_)
    · exact ⟨h10, (by omega), trivial⟩
    · refine wp_if (fun g19 => ?_) (fun g19 => ?_)
      · refine wp_calls (t_X1_allCues (l0 := 48)  (rfl : kD 48 = (11, 7)) h10) (fun v20 hh => ?_)
        obtain ⟨hr21, hp21⟩ := hh
        refine wp_call (t_X10_latesByBook (l1 := v20) hW (by have := gO_1_5 (rfl : kD 48 = (11, 7)) (by decide) h10; omega) h10) (fun v26 m27 hh => ?_)
        obtain ⟨h27, hr27, hp27⟩ := hh
        refine wp_if (fun g30 => ?_) (fun g30 => ?_)
        · exact ⟨h27, (by have := gO_1_5 (rfl : kD 48 = (11, 7)) (by decide) h10; omega), trivial⟩
        · refine t_X10_slack_L50 (l2 := l2) (l3 := v26) (l4 := 0) (l5 := 1) hW (by have := gO_1_5 (rfl : kD 48 = (11, 7)) (by decide) h10; omega) (by have := gO_1_5 (rfl : kD 48 = (11, 7)) (by decide) h10; omega) (fun v31 m32 h32 hrv31 hp32 => ?_) (fun r_ m_ h_ hr_ hp_ => by exact ⟨h_, (by have := gO_1_5 (rfl : kD 48 = (11, 7)) (by decide) h10; omega), trivial⟩) FU h27 (by have := gO_1_5 (rfl : kD 48 = (11, 7)) (by decide) h10; omega) (by have := gO_1_5 (rfl : kD 48 = (11, 7)) (by decide) h10; omega) trivial (by have := gO_1_5 (rfl : kD 48 = (11, 7)) (by decide) h10; omega)
          exact ⟨h32, (by have := gO_1_5 (rfl : kD 48 = (11, 7)) (by decide) h10; omega), trivial⟩
      · exact ⟨h10, (by have := gO_1_5 (rfl : kD 48 = (11, 7)) (by decide) h10; omega), trivial⟩
set_option maxHeartbeats 4000000 in
set_option maxRecDepth 100000 in
theorem t_X10_thud {W : Nat → Nat → Prop} {μs : Mm} {l1 : Int} {l2 : Int} (hW : ∀ k j, scr k j → W k j) (hA : ∀ k j, k < 70 → W k j)  (hp_l1 : -2147483648 ≤ l1 ∧ l1 ≤ 2147483647) (hp_l2 : -2147483648 ≤ l2 ∧ l2 ≤ 2147483647) {μ : Mm} (hS : St W μs μ) : wp (X10_thud l1 l2 μ) (fun r μ' => St W μs μ' ∧ (-2147483648 ≤ r ∧ r ≤ 2147483647) ∧ True) := by
  have hFU := FU_v
  unfold X10_thud
  refine wp_if (fun g5 => ?_) (fun g5 => ?_)
  · exact ⟨hS, (by omega), trivial⟩
  · refine wp_if (fun g6 => ?_) (fun g6 => ?_)
    · exact ⟨hS, (by omega), trivial⟩
    · refine wp_calls (t_X0_placeOf (l0 := 5) (l1 := l2)  (rfl : kD 5 = (10, 9)) (by omega) hS) (fun v7 hh => ?_)
      obtain ⟨hr8, hp8⟩ := hh
      refine wp_if (fun g11 => ?_) (fun g11 => ?_)
      · exact ⟨hS, (by omega), trivial⟩
      · refine wp_call (t_X8_add (l1 := l1) (l2 := l2) hW hA (by omega) (by omega) hS) (fun v12 m13 hh => ?_)
        obtain ⟨h13, hr13, hp13⟩ := hh
        refine wp_if (fun g14 => ?_) (fun g14 => ?_)
        · exact ⟨h13, (by omega), trivial⟩
        · exact ⟨h13, (by have := gO_8_2 (rfl : kD 67 = (18, 7)) (by decide) h13; omega), trivial⟩
set_option maxHeartbeats 4000000 in
set_option maxRecDepth 100000 in
theorem t_X10_fit {W : Nat → Nat → Prop} {μs : Mm} {l1 : Int} {l2 : Int} (hW : ∀ k j, scr k j → W k j)  (hp_l1 : -2147483648 ≤ l1 ∧ l1 ≤ 2147483647) (hp_l2 : -2147483648 ≤ l2 ∧ l2 ≤ 2147483647) {μ : Mm} (hS : St W μs μ) : wp (X10_fit l1 l2 μ) (fun r μ' => St W μs μ' ∧ (-2147483648 ≤ r ∧ r ≤ 2147483647) ∧ True) := by
  have hFU := FU_v
  unfold X10_fit
  refine wp_if (fun g5 => ?_) (fun g5 => ?_)
  · exact ⟨hS, (by omega), trivial⟩
  · refine wp_call (t_X10_lay (l1 := l1) hW (by omega) hS) (fun v6 m7 hh => ?_)
    obtain ⟨h7, hr7, hp7⟩ := hh
    refine wp_if (fun g10 => ?_) (fun g10 => ?_)
    · exact ⟨h7, (by omega), trivial⟩
    · refine wp_call (t_X8_fitting (l1 := 48) (l2 := l2) hW (rfl : kD 48 = (11, 7)) (by omega) h7) (fun v11 m12 hh => ?_)
      obtain ⟨h12, hr12, hp12⟩ := hh
      exact ⟨h12, (by omega), trivial⟩
set_option maxHeartbeats 4000000 in
set_option maxRecDepth 100000 in
theorem t_X10_boy {W : Nat → Nat → Prop} {μs : Mm} {l1 : Int} {l2 : Int} {l3 : Int} {l4 : Int} (hW : ∀ k j, scr k j → W k j)  (hp_l1 : -2147483648 ≤ l1 ∧ l1 ≤ 2147483647) (hp_l2 : -2147483648 ≤ l2 ∧ l2 ≤ 2147483647) (hp_l3 : -2147483648 ≤ l3 ∧ l3 ≤ 2147483647) (hp_l4 : -2147483648 ≤ l4 ∧ l4 ≤ 2147483647) {μ : Mm} (hS : St W μs μ) : wp (X10_boy l1 l2 l3 l4 μ) (fun r μ' => St W μs μ' ∧ (-2147483648 ≤ r ∧ r ≤ 2147483647) ∧ True) := by
  have hFU := FU_v
  unfold X10_boy
  refine wp_calls (t_X10_isHalf (l0 := l4)  (by omega) hS) (fun v13 hh => ?_)
  obtain ⟨hr14, hp14⟩ := hh
  refine wp_if (fun g25 => ?_) (fun g25 => ?_)
  · exact ⟨hS, (by omega), trivial⟩
  · refine wp_if (fun g26 => ?_) (fun g26 => ?_)
    · exact ⟨hS, (by omega), trivial⟩
    · refine wp_if (fun g27 => ?_) (fun g27 => ?_)
      · exact ⟨hS, (by omega), trivial⟩
      · refine wp_calls (t_X0_isOpen (l0 := 5) (l1 := l2)  (rfl : kD 5 = (10, 9)) (by omega) hS) (fun v28 hh => ?_)
        obtain ⟨hr29, hp29⟩ := hh
        refine wp_if (fun g38 => ?_) (fun g38 => ?_)
        · exact ⟨hS, (by omega), trivial⟩
        · refine wp_call (t_X10_lay (l1 := l1) hW (by omega) hS) (fun v39 m40 hh => ?_)
          obtain ⟨h40, hr40, hp40⟩ := hh
          refine wp_if (fun g47 => ?_) (fun g47 => ?_)
          · exact ⟨h40, (by omega), trivial⟩
          · refine wp_call (t_X1_copy (l0 := 53) (l1 := 48) hW (rfl : kD 53 = (11, 7)) (rfl : kD 48 = (11, 7)) h40) (fun v48 m49 hh => ?_)
            obtain ⟨h49, hr49, hp49⟩ := hh
            refine wp_call (t_X1_standAt (l0 := 53) (l1 := 5) (l2 := l2) (l3 := l3) hW (rfl : kD 53 = (11, 7)) (rfl : kD 5 = (10, 9)) (by omega) (by omega) h49) (fun v54 m55 hh => ?_)
            obtain ⟨h55, hr55, hp55⟩ := hh
            refine wp_call (t_X6_share (l1 := 48) (l2 := 53) hW (rfl : kD 48 = (11, 7)) (rfl : kD 53 = (11, 7)) h55) (fun v58 m59 hh => ?_)
            obtain ⟨h59, hr59, hp59⟩ := hh
            refine wp_if (fun g60 => ?_) (fun g60 => ?_)
            · exact ⟨h59, (by omega), trivial⟩
            · refine wp_if (fun g61 => ?_) (fun g61 => ?_)
              · exact ⟨h59, (by omega), trivial⟩
              · exact ⟨h59, (by have := gO_6_7 (rfl : kD 62 = (16, 9)) (by decide) h59; omega), trivial⟩
