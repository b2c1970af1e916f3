/-! TOTALITY of the class, by program (wip/gen/tot.py) -/
set_option maxHeartbeats 4000000 in
set_option maxRecDepth 100000 in
theorem t_X5_takeOrder {W : Nat → Nat → Prop} {μs : Mm} {l1 : Int} {l2 : Int} (hW : ∀ k j, scr k j → W k j)  (hp_l1 : -2147483648 ≤ l1 ∧ l1 ≤ 2147483647) (hp_l2 : 0 ≤ l2 ∧ l2 ≤ 8) {μ : Mm} (hS : St W μs μ) : wp (X5_takeOrder l1 l2 μ) (fun r μ' => St W μs μ' ∧ (0 ≤ r ∧ r ≤ 1) ∧ True) := by
  have hFU := FU_v
  unfold X5_takeOrder
  refine wp_sFv (P := St W μs) (pO_5_3 (rfl : kD 58 = (15, 10)) hS (hW _ _ (by unfold scr; omega)) (by omega)) (fun m4 h4 he4 => ?_)
  refine t_X5_takeOrder_L15 (l2 := l2) (l3 := l1) (l4 := 0) (l5 := (iS l2 1)) hW (by omega) (fun v7 m8 h8 hrv7 hp8 => ?_) (fun r_ m_ h_ hr_ hp_ => by exact ⟨h_, (by omega), trivial⟩) FU h4 (by omega) (by omega) (by have := iS_c l2 1; omega) trivial (by have := iS_c l2 1; omega)
  refine wp_if (fun g9 => ?_) (fun g9 => ?_)
  · exact ⟨h8, (by omega), trivial⟩
  · exact ⟨h8, (by omega), trivial⟩
set_option maxHeartbeats 4000000 in
set_option maxRecDepth 100000 in
theorem t_X5_takeBook_L7 {W : Nat → Nat → Prop} {μs : Mm} {l1 : Int} {l2 : Int} (hW : ∀ k j, scr k j → W k j)  (hp_l1 : -2147483648 ≤ l1 ∧ l1 ≤ 2147483647) (hp_l2 : 0 ≤ l2 ∧ l2 ≤ 8) {Q : Int → Mm → Prop} (hQ : ∀ r μ, St W μs μ → (-2147483648 ≤ r ∧ r ≤ 2147483647) → True → Q r μ) : ∀ (n : Nat) {l3 : Int} {μ : Mm}, St W μs μ → (0 ≤ l3 ∧ l3 ≤ 8) → True → 8 - l3 + 1 ≤ ((n : Nat) : Int) → wp (X5_takeBook_L7 l1 l2 n l3 μ) Q := by
  have hFU := FU_v
  intro n
  induction n with
  | zero => intro l3 μ hS hv_l3 hi hm; exact absurd hm (by  have : ((0 : Nat) : Int) = 0 := rfl; omega)
  | succ n ih =>
    intro l3 μ hS hv_l3 hi hm
    have hn1 : ((n + 1 : Nat) : Int) = ((n : Nat) : Int) + 1 := rfl
    rw [X5_takeBook_L7]
    refine wp_if (fun g5 => ?_) (fun g5 => ?_)
    · exact hQ _ _ hS (by omega) trivial
    · refine wp_if (fun g6 => ?_) (fun g6 => ?_)
      · exact hQ _ _ hS (by omega) trivial
      · refine wp_if (fun g7 => ?_) (fun g7 => ?_)
        · refine wp_if (fun g8 => ?_) (fun g8 => ?_)
          · exact ih hS (by have := iA_c l3 1; have := gO_5_3 (rfl : kD 58 = (15, 10)) (by decide) hS; have := bR_r l1 l3; have := bA_r (bR l1 l3) 1; omega) trivial (by have := iA_c l3 1; have := gO_5_3 (rfl : kD 58 = (15, 10)) (by decide) hS; have := bR_r l1 l3; have := bA_r (bR l1 l3) 1; omega)
          · refine wp_stv (P := St W μs) (by have := gO_5_3 (rfl : kD 58 = (15, 10)) (by decide) hS; have na1 : ((aN 59 : Nat) : Int) = 8 := rfl; have := bR_r l1 l3; have := bA_r (bR l1 l3) 1; omega) (pA_5_1 (rfl : kD 58 = (15, 10)) (by decide) hS (hW _ _ (by unfold scr; omega)) (by have := gO_5_3 (rfl : kD 58 = (15, 10)) (by decide) hS; have := bR_r l1 l3; have := bA_r (bR l1 l3) 1; omega)) (fun m9 h9 he9 => ?_)
            refine wp_sFv (P := St W μs) (pO_5_3 (rfl : kD 58 = (15, 10)) h9 (hW _ _ (by unfold scr; omega)) (by have := gO_5_3 (rfl : kD 58 = (15, 10)) (by decide) h9; have : m9 58 3 = μ 58 3 := (by rw [he9, sM_a (by decide)]); have := gO_5_3 (rfl : kD 58 = (15, 10)) (by decide) hS; have := iA_c (m9 58 3) 1; have := bR_r l1 l3; have := bA_r (bR l1 l3) 1; omega)) (fun m11 h11 he11 => ?_)
            exact ih h11 (by have := iA_c l3 1; have := gO_5_3 (rfl : kD 58 = (15, 10)) (by decide) hS; have := bR_r l1 l3; have := bA_r (bR l1 l3) 1; omega) trivial (by have := iA_c l3 1; have := gO_5_3 (rfl : kD 58 = (15, 10)) (by decide) hS; have := bR_r l1 l3; have := bA_r (bR l1 l3) 1; omega)
        · exact ih hS (by have := iA_c l3 1; have := bR_r l1 l3; have := bA_r (bR l1 l3) 1; omega) trivial (by have := iA_c l3 1; have := bR_r l1 l3; have := bA_r (bR l1 l3) 1; omega)
set_option maxHeartbeats 4000000 in
set_option maxRecDepth 100000 in
theorem t_X5_takeBook {W : Nat → Nat → Prop} {μs : Mm} {l1 : Int} {l2 : Int} (hW : ∀ k j, scr k j → W k j)  (hp_l1 : -2147483648 ≤ l1 ∧ l1 ≤ 2147483647) (hp_l2 : 0 ≤ l2 ∧ l2 ≤ 8) {μ : Mm} (hS : St W μs μ) : wp (X5_takeBook l1 l2 μ) (fun r μ' => St W μs μ' ∧ (-2147483648 ≤ r ∧ r ≤ 2147483647) ∧ True) := by
  have hFU := FU_v
  unfold X5_takeBook
  refine wp_sFv (P := St W μs) (pO_5_3 (rfl : kD 58 = (15, 10)) hS (hW _ _ (by unfold scr; omega)) (by omega)) (fun m2 h2 he2 => ?_)
  exact t_X5_takeBook_L7 (l1 := l1) (l2 := l2) (l3 := 0) hW (by omega) (by omega) (fun r_ m_ h_ hr_ hp_ => by exact ⟨h_, (by omega), trivial⟩) FU h2 (by omega) trivial (by omega)
set_option maxHeartbeats 4000000 in
set_option maxRecDepth 100000 in
theorem t_X5_addLate {W : Nat → Nat → Prop} {μs : Mm} {l1 : Int} (hW : ∀ k j, scr k j → W k j)  (hp_l1 : -2147483648 ≤ l1 ∧ l1 ≤ 2147483647) {μ : Mm} (hS : St W μs μ) : wp (X5_addLate l1 μ) (fun r μ' => St W μs μ' ∧ (-2147483648 ≤ r ∧ r ≤ 2147483647) ∧ True) := by
  have hFU := FU_v
  unfold X5_addLate
  refine wp_sFv (P := St W μs) (pO_5_4 (rfl : kD 58 = (15, 10)) hS (hW _ _ (by unfold scr; omega)) (by have := gO_5_4 (rfl : kD 58 = (15, 10)) (by decide) hS; have := iA_c (μ 58 4) l1; omega)) (fun m4 h4 he4 => ?_)
  refine wp_sFv (P := St W μs) (pO_5_5 (rfl : kD 58 = (15, 10)) h4 (hW _ _ (by unfold scr; omega)) (by have := gO_5_5 (rfl : kD 58 = (15, 10)) (by decide) h4; have : m4 58 5 = μ 58 5 := (by rw [he4, sM_j (by decide)]); have := gO_5_5 (rfl : kD 58 = (15, 10)) (by decide) hS; have := mX_c (m4 58 5) l1; omega)) (fun m7 h7 he7 => ?_)
  refine wp_if (fun g9 => ?_) (fun g9 => ?_)
  · exact ⟨h7, (by omega), trivial⟩
  · refine wp_sFv (P := St W μs) (pO_5_6 (rfl : kD 58 = (15, 10)) h7 (hW _ _ (by unfold scr; omega)) (by have := gO_5_6 (rfl : kD 58 = (15, 10)) (by decide) h7; have : m7 58 6 = m4 58 6 := (by rw [he7, sM_j (by decide)]); have := gO_5_6 (rfl : kD 58 = (15, 10)) (by decide) h4; have : m4 58 6 = μ 58 6 := (by rw [he4, sM_j (by decide)]); have := gO_5_6 (rfl : kD 58 = (15, 10)) (by decide) hS; have := iA_c (m7 58 6) 1; omega)) (fun m10 h10 he10 => ?_)
    exact ⟨h10, (by omega), trivial⟩
set_option maxHeartbeats 4000000 in
set_option maxRecDepth 100000 in
theorem t_X5_go_L35 {W : Nat → Nat → Prop} {μs : Mm} {l1 : Nat} (hW : ∀ k j, scr k j → W k j)  (hk_l1 : kD l1 = (11, 7)) {Q : Int → Mm → Prop} (hQ : ∀ r μ, St W μs μ → (0 ≤ r ∧ r ≤ 1) → True → Q r μ) : ∀ (n : Nat) {l2 l3 : Int} {μ : Mm}, St W μs μ → (0 ≤ l2 ∧ l2 ≤ 8) → (0 ≤ l3 ∧ l3 ≤ 8) → True → 8 - l3 + 1 ≤ ((n : Nat) : Int) → wp (X5_go_L35 l1 n l2 l3 μ) Q := by
  have hb_l1 := kJr' hk_l1
  have hFU := FU_v
  intro n
  induction n with
  | zero => intro l2 l3 μ hS hv_l2 hv_l3 hi hm; exact absurd hm (by  have : ((0 : Nat) : Int) = 0 := rfl; omega)
  | succ n ih =>
    intro l2 l3 μ hS hv_l2 hv_l3 hi hm
    have hn1 : ((n + 1 : Nat) : Int) = ((n : Nat) : Int) + 1 := rfl
    rw [X5_go_L35]
    refine wp_if (fun g35 => ?_) (fun g35 => ?_)
    · exact hQ _ _ hS (by have := gO_5_3 (rfl : kD 58 = (15, 10)) (by decide) hS; omega) trivial
    · refine wp_if (fun g36 => ?_) (fun g36 => ?_)
      · exact hQ _ _ hS (by have := gO_5_3 (rfl : kD 58 = (15, 10)) (by decide) hS; omega) trivial
      · refine wp_ldv (by have na0 : ((aN 59 : Nat) : Int) = 8 := rfl; have := gO_5_3 (rfl : kD 58 = (15, 10)) (by decide) hS; omega) (fun v37 q38 => ?_)
        have hrv37 := gA_5_1 (rfl : kD 58 = (15, 10)) (by decide) hS (l3).toNat
        replace hrv37 : 0 ≤ v37 ∧ v37 ≤ 7 := by rw [q38]; exact hrv37
        refine wp_calls (t_X1_comes (l0 := l1) (l1 := (μ 58 7)) (l2 := l2) (l3 := v37)  hk_l1 (by have := gO_5_7 (rfl : kD 58 = (15, 10)) (by decide) hS; have := gO_5_3 (rfl : kD 58 = (15, 10)) (by decide) hS; omega) (by have := gO_5_3 (rfl : kD 58 = (15, 10)) (by decide) hS; omega) (by have := gO_5_3 (rfl : kD 58 = (15, 10)) (by decide) hS; omega) hS) (fun v55 hh => ?_)
        obtain ⟨hr56, hp56⟩ := hh
        refine wp_if (fun g71 => ?_) (fun g71 => ?_)
        · exact hQ _ _ hS (by have := gO_5_3 (rfl : kD 58 = (15, 10)) (by decide) hS; omega) trivial
        · refine wp_calls (t_X1_stepsBetween (l0 := l1) (l1 := l2) (l2 := v37)  hk_l1 (by have := gO_5_3 (rfl : kD 58 = (15, 10)) (by decide) hS; omega) (by have := gO_5_3 (rfl : kD 58 = (15, 10)) (by decide) hS; omega) hS) (fun v72 hh => ?_)
          obtain ⟨hr73, hp73⟩ := hh
          refine wp_sFv (P := St W μs) (pO_5_8 (rfl : kD 58 = (15, 10)) hS (hW _ _ (by unfold scr; omega)) (by have := gO_5_8 (rfl : kD 58 = (15, 10)) (by decide) hS; have := iA_c (μ 58 8) v72; have := gO_5_3 (rfl : kD 58 = (15, 10)) (by decide) hS; omega)) (fun m86 h86 he86 => ?_)
          refine wp_calls (t_X1_dones (l0 := l1) (l1 := v55) (l2 := v37)  hk_l1 (by have := gO_5_3 (rfl : kD 58 = (15, 10)) (by decide) hS; omega) (by have := gO_5_3 (rfl : kD 58 = (15, 10)) (by decide) hS; omega) h86) (fun v98 hh => ?_)
          obtain ⟨hr99, hp99⟩ := hh
          refine wp_sFv (P := St W μs) (pO_5_7 (rfl : kD 58 = (15, 10)) h86 (hW _ _ (by unfold scr; omega)) (by have := gO_5_3 (rfl : kD 58 = (15, 10)) (by decide) hS; omega)) (fun m109 h109 he109 => ?_)
          refine wp_calls (t_X1_wound (l0 := l1) (l1 := v55) (l2 := v37)  hk_l1 (by have := gO_5_3 (rfl : kD 58 = (15, 10)) (by decide) hS; omega) (by have := gO_5_3 (rfl : kD 58 = (15, 10)) (by decide) hS; omega) h109) (fun v118 hh => ?_)
          obtain ⟨hr119, hp119⟩ := hh
          refine wp_sFv (P := St W μs) (pO_5_9 (rfl : kD 58 = (15, 10)) h109 (hW _ _ (by unfold scr; omega)) (by have := gO_5_9 (rfl : kD 58 = (15, 10)) (by decide) h109; have : m109 58 9 = m86 58 9 := (by rw [he109, sM_j (by decide)]); have := gO_5_9 (rfl : kD 58 = (15, 10)) (by decide) h86; have : m86 58 9 = μ 58 9 := (by rw [he86, sM_j (by decide)]); have := gO_5_9 (rfl : kD 58 = (15, 10)) (by decide) hS; have := gO_5_7 (rfl : kD 58 = (15, 10)) (by decide) h109; have : m109 58 7 = v98 := (by rw [he109, sM_s]); have := iS_c (m109 58 7) v118; have := iA_c (m109 58 9) (iS (m109 58 7) v118); have := gO_5_3 (rfl : kD 58 = (15, 10)) (by decide) hS; omega)) (fun m126 h126 he126 => ?_)
          refine wp_stv (P := St W μs) (by have na0 : ((aN 60 : Nat) : Int) = 8 := rfl; have := gO_5_3 (rfl : kD 58 = (15, 10)) (by decide) hS; omega) (pA_5_2 (rfl : kD 58 = (15, 10)) (by decide) h126 (hW _ _ (by unfold scr; omega)) (by have := gO_5_3 (rfl : kD 58 = (15, 10)) (by decide) hS; omega)) (fun m132 h132 he132 => ?_)
          refine wp_stv (P := St W μs) (by have na0 : ((aN 61 : Nat) : Int) = 8 := rfl; have := gO_5_3 (rfl : kD 58 = (15, 10)) (by decide) hS; omega) (pA_5_3 (rfl : kD 58 = (15, 10)) (by decide) h132 (hW _ _ (by unfold scr; omega)) (by have := gO_5_7 (rfl : kD 58 = (15, 10)) (by decide) h132; have : m132 58 7 = m126 58 7 := (by rw [he132, sM_a (by decide)]); have := gO_5_7 (rfl : kD 58 = (15, 10)) (by decide) h126; have : m126 58 7 = m109 58 7 := (by rw [he126, sM_j (by decide)]); have := gO_5_7 (rfl : kD 58 = (15, 10)) (by decide) h109; have : m109 58 7 = v98 := (by rw [he109, sM_s]); have := gO_5_3 (rfl : kD 58 = (15, 10)) (by decide) hS; omega)) (fun m137 h137 he137 => ?_)
          refine wp_ldv (by have na0 : ((aN (l1 + 2) : Nat) : Int) = 8 := (by rw [(bA_1_2 hk_l1 (by omega) 0).2.2]; rfl); have := gO_5_3 (rfl : kD 58 = (15, 10)) (by decide) hS; omega) (fun v141 q142 => ?_)
          have hrv141 := gA_1_2 hk_l1 (by omega) h137 (v37).toNat
          rw [← q142] at hrv141
          refine wp_call (t_X5_addLate (l1 := (iS (m137 58 7) v141)) hW (by have := gO_5_7 (rfl : kD 58 = (15, 10)) (by decide) h137; have : m137 58 7 = m132 58 7 := (by rw [he137, sM_a (by decide)]); have := gO_5_7 (rfl : kD 58 = (15, 10)) (by decide) h132; have : m132 58 7 = m126 58 7 := (by rw [he132, sM_a (by decide)]); have := gO_5_7 (rfl : kD 58 = (15, 10)) (by decide) h126; have : m126 58 7 = m109 58 7 := (by rw [he126, sM_j (by decide)]); have := gO_5_7 (rfl : kD 58 = (15, 10)) (by decide) h109; have : m109 58 7 = v98 := (by rw [he109, sM_s]); have := iS_c (m137 58 7) v141; have := gO_5_3 (rfl : kD 58 = (15, 10)) (by decide) hS; omega) h137) (fun v145 m146 hh => ?_)
          obtain ⟨h146, hr146, hp146⟩ := hh
          exact ih h146 (by have := gO_5_3 (rfl : kD 58 = (15, 10)) (by decide) hS; omega) (by have := iA_c l3 1; have := gO_5_3 (rfl : kD 58 = (15, 10)) (by decide) hS; omega) trivial (by have := iA_c l3 1; have := gO_5_3 (rfl : kD 58 = (15, 10)) (by decide) hS; omega)
set_option maxHeartbeats 4000000 in
set_option maxRecDepth 100000 in
theorem t_X5_go {W : Nat → Nat → Prop} {μs : Mm} {l1 : Nat} (hW : ∀ k j, scr k j → W k j)  (hk_l1 : kD l1 = (11, 7)) {μ : Mm} (hS : St W μs μ) : wp (X5_go l1 μ) (fun r μ' => St W μs μ' ∧ (0 ≤ r ∧ r ≤ 1) ∧ True) := by
  have hb_l1 := kJr' hk_l1
  have hFU := FU_v
  unfold X5_go
  refine wp_sFv (P := St W μs) (pO_5_4 (rfl : kD 58 = (15, 10)) hS (hW _ _ (by unfold scr; omega)) (by omega)) (fun m7 h7 he7 => ?_)
  refine wp_sFv (P := St W μs) (pO_5_5 (rfl : kD 58 = (15, 10)) h7 (hW _ _ (by unfold scr; omega)) (by omega)) (fun m13 h13 he13 => ?_)
  refine wp_sFv (P := St W μs) (pO_5_6 (rfl : kD 58 = (15, 10)) h13 (hW _ _ (by unfold scr; omega)) (by omega)) (fun m18 h18 he18 => ?_)
  refine wp_sFv (P := St W μs) (pO_5_7 (rfl : kD 58 = (15, 10)) h18 (hW _ _ (by unfold scr; omega)) (by omega)) (fun m22 h22 he22 => ?_)
  refine wp_sFv (P := St W μs) (pO_5_8 (rfl : kD 58 = (15, 10)) h22 (hW _ _ (by unfold scr; omega)) (by omega)) (fun m25 h25 he25 => ?_)
  refine wp_sFv (P := St W μs) (pO_5_9 (rfl : kD 58 = (15, 10)) h25 (hW _ _ (by unfold scr; omega)) (by omega)) (fun m27 h27 he27 => ?_)
  exact t_X5_go_L35 (l1 := l1) (l2 := 8) (l3 := 0) hW hk_l1 (fun r_ m_ h_ hr_ hp_ => by exact ⟨h_, (by omega), trivial⟩) FU h27 (by omega) (by omega) trivial (by omega)
set_option maxHeartbeats 4000000 in
set_option maxRecDepth 100000 in
theorem t_X5_crankAt_L2 {W : Nat → Nat → Prop} {μs : Mm} {l1 : Nat} {l2 : Int}  (hk_l1 : kD l1 = (11, 7)) (hp_l2 : -2147483648 ≤ l2 ∧ l2 ≤ 2147483647) {μ : Mm} (hS : St W μs μ) {k60 : Mm → Rs} {Q : Int → Mm → Prop} (hk_k60 : True → wp (k60 μ) Q) (hQ : ∀ r, (0 ≤ r ∧ r ≤ 9) → True → Q r μ) : ∀ (n : Nat) {l3 : Int} , (0 ≤ l3 ∧ l3 ≤ 8) → True → 8 - l3 + 1 ≤ ((n : Nat) : Int) → wp (X5_crankAt_L2 l1 l2 k60 n l3 μ) Q := by
  have hb_l1 := kJr' hk_l1
  have hFU := FU_v
  intro n
  induction n with
  | zero => intro l3 hv_l3 hi hm; exact absurd hm (by  have : ((0 : Nat) : Int) = 0 := rfl; omega)
  | succ n ih =>
    intro l3 hv_l3 hi hm
    have hn1 : ((n + 1 : Nat) : Int) = ((n : Nat) : Int) + 1 := rfl
    rw [X5_crankAt_L2]
    refine wp_if (fun g9 => ?_) (fun g9 => ?_)
    · exact hk_k60    trivial
    · refine wp_if (fun g10 => ?_) (fun g10 => ?_)
      · exact hk_k60    trivial
      · refine wp_ldv (by have na0 : ((aN 59 : Nat) : Int) = 8 := rfl; have := gO_5_3 (rfl : kD 58 = (15, 10)) (by decide) hS; omega) (fun v11 q12 => ?_)
        have hrv11 := gA_5_1 (rfl : kD 58 = (15, 10)) (by decide) hS (l3).toNat
        replace hrv11 : 0 ≤ v11 ∧ v11 ≤ 7 := by rw [q12]; exact hrv11
        refine wp_ldv (by have na0 : ((aN 60 : Nat) : Int) = 8 := rfl; have := gO_5_3 (rfl : kD 58 = (15, 10)) (by decide) hS; omega) (fun v16 q17 => ?_)
        have hrv16 := gA_5_2 (rfl : kD 58 = (15, 10)) (by decide) hS (v11).toNat
        replace hrv16 : -2147483648 ≤ v16 ∧ v16 ≤ 2147483647 := by rw [q17]; exact hrv16
        refine wp_if (fun g20 => ?_) (fun g20 => ?_)
        · exact ih  (by have := iA_c l3 1; have := gO_5_3 (rfl : kD 58 = (15, 10)) (by decide) hS; omega) trivial (by have := iA_c l3 1; have := gO_5_3 (rfl : kD 58 = (15, 10)) (by decide) hS; omega)
        · refine wp_ldv (by have na0 : ((aN 61 : Nat) : Int) = 8 := rfl; have := gO_5_3 (rfl : kD 58 = (15, 10)) (by decide) hS; omega) (fun v21 q22 => ?_)
          have hrv21 := gA_5_3 (rfl : kD 58 = (15, 10)) (by decide) hS (v11).toNat
          replace hrv21 : -2147483648 ≤ v21 ∧ v21 ≤ 2147483647 := by rw [q22]; exact hrv21
          refine wp_if (fun g24 => ?_) (fun g24 => ?_)
          · exact ih  (by have := iA_c l3 1; have := gO_5_3 (rfl : kD 58 = (15, 10)) (by decide) hS; omega) trivial (by have := iA_c l3 1; have := gO_5_3 (rfl : kD 58 = (15, 10)) (by decide) hS; omega)
          · refine wp_ldv (by have na0 : ((aN (l1 + 1) : Nat) : Int) = 8 := (by rw [(bA_1_1 hk_l1 (by omega) 0).2.2]; rfl); have := gO_5_3 (rfl : kD 58 = (15, 10)) (by decide) hS; omega) (fun v25 q26 => ?_)
            have hrv25 := gA_1_1 hk_l1 (by omega) hS (v11).toNat
            rw [← q26] at hrv25
            exact hQ _ (by have := gO_5_3 (rfl : kD 58 = (15, 10)) (by decide) hS; omega) trivial
set_option maxHeartbeats 4000000 in
set_option maxRecDepth 100000 in
theorem t_X5_crankAt {W : Nat → Nat → Prop} {μs : Mm} {l1 : Nat} {l2 : Int}  (hk_l1 : kD l1 = (11, 7)) (hp_l2 : -2147483648 ≤ l2 ∧ l2 ≤ 2147483647) {μ : Mm} (hS : St W μs μ) : wp (X5_crankAt l1 l2 μ) (fun r μ' => μ' = μ ∧ (0 ≤ r ∧ r ≤ 9) ∧ True) := by
  have hb_l1 := kJr' hk_l1
  have hFU := FU_v
  unfold X5_crankAt
  refine t_X5_crankAt_L2 (l1 := l1) (l2 := l2) (l3 := 0)  hk_l1 (by omega) hS (fun hp2 => ?_) (fun r_ hr_ hp_ => by exact ⟨rfl, (by omega), trivial⟩) FU  (by omega) trivial (by omega)
  refine wp_if (fun g3 => ?_) (fun g3 => ?_)
  · exact ⟨rfl, (by have := gO_5_7 (rfl : kD 58 = (15, 10)) (by decide) hS; omega), trivial⟩
  · exact ⟨rfl, (by have := gO_5_7 (rfl : kD 58 = (15, 10)) (by decide) hS; omega), trivial⟩
set_option maxHeartbeats 4000000 in
set_option maxRecDepth 100000 in
theorem t_X6_forget_L15 {W : Nat → Nat → Prop} {μs : Mm} {l1 : Int} (hW : ∀ k j, scr k j → W k j)  (hp_l1 : -2147483648 ≤ l1 ∧ l1 ≤ 2147483647) {Q : Int → Mm → Prop} (hQ : ∀ r μ, St W μs μ → (-2147483648 ≤ r ∧ r ≤ 2147483647) → True → Q r μ) : ∀ (n : Nat) {l2 : Int} {μ : Mm}, St W μs μ → (0 ≤ l2 ∧ l2 ≤ 2048) → True → 2048 - l2 + 1 ≤ ((n : Nat) : Int) → wp (X6_forget_L15 l1 n l2 μ) Q := by
  have hFU := FU_v
  intro n
  induction n with
  | zero => intro l2 μ hS hv_l2 hi hm; exact absurd hm (by  have : ((0 : Nat) : Int) = 0 := rfl; omega)
  | succ n ih =>
    intro l2 μ hS hv_l2 hi hm
    have hn1 : ((n + 1 : Nat) : Int) = ((n : Nat) : Int) + 1 := rfl
    rw [X6_forget_L15]
    refine wp_if (fun g5 => ?_) (fun g5 => ?_)
    · exact hQ _ _ hS (by omega) trivial
    · refine wp_if (fun g6 => ?_) (fun g6 => ?_)
      · exact hQ _ _ hS (by have na0 : ((aN 63 : Nat) : Int) = 2048 := rfl; omega) trivial
      · refine wp_stv (P := St W μs) (by have na0 : ((aN 63 : Nat) : Int) = 2048 := rfl; omega) (pA_6_1 (rfl : kD 62 = (16, 9)) (by decide) hS (hW _ _ (by unfold scr; omega)) (by have na0 : ((aN 63 : Nat) : Int) = 2048 := rfl; omega)) (fun m7 h7 he7 => ?_)
        refine wp_stv (P := St W μs) (by have na0 : ((aN 64 : Nat) : Int) = 2048 := rfl; have na1 : ((aN 63 : Nat) : Int) = 2048 := rfl; omega) (pA_6_2 (rfl : kD 62 = (16, 9)) (by decide) h7 (hW _ _ (by unfold scr; omega)) (by have na0 : ((aN 63 : Nat) : Int) = 2048 := rfl; omega)) (fun m9 h9 he9 => ?_)
        exact ih h9 (by have := iA_c l2 1; have na1 : ((aN 63 : Nat) : Int) = 2048 := rfl; omega) trivial (by have := iA_c l2 1; have na1 : ((aN 63 : Nat) : Int) = 2048 := rfl; omega)
set_option maxHeartbeats 4000000 in
set_option maxRecDepth 100000 in
theorem t_X6_forget {W : Nat → Nat → Prop} {μs : Mm}  (hW : ∀ k j, scr k j → W k j)   {μ : Mm} (hS : St W μs μ) : wp (X6_forget μ) (fun r μ' => St W μs μ' ∧ (-2147483648 ≤ r ∧ r ≤ 2147483647) ∧ True) := by
  have hFU := FU_v
  unfold X6_forget
  refine wp_mRv hS.1.2.2.1 (fun v4 hkv4 e5 => ?_)
  have hbv4 := kJr' hkv4
  refine wp_calls (t_X1_allCues (l0 := v4)  hkv4 hS) (fun v8 hh => ?_)
  obtain ⟨hr9, hp9⟩ := hh
  exact t_X6_forget_L15 (l1 := (iM (iA v8 1) 8)) (l2 := 0) hW (by have := iA_c v8 1; have := iM_c (iA v8 1) 8; omega) (fun r_ m_ h_ hr_ hp_ => by exact ⟨h_, (by omega), trivial⟩) FU hS (by omega) trivial (by omega)
set_option maxHeartbeats 4000000 in
set_option maxRecDepth 100000 in
theorem t_X6_withLate {W : Nat → Nat → Prop} {μs : Mm} {l1 : Int} {l2 : Int}  (hp_l1 : -2147483648 ≤ l1 ∧ l1 ≤ 2147483647) (hp_l2 : -2147483648 ≤ l2 ∧ l2 ≤ 2147483647) {μ : Mm} (hS : St W μs μ) : wp (X6_withLate l1 l2 μ) (fun r μ' => μ' = μ ∧ (-2147483648 ≤ r ∧ r ≤ 2147483647) ∧ True) := by
  have hFU := FU_v
  unfold X6_withLate
  refine wp_if (fun g1 => ?_) (fun g1 => ?_)
  · exact ⟨rfl, (by have := iA_c l1 l2; have := gO_6_5 (rfl : kD 62 = (16, 9)) (by decide) hS; omega), trivial⟩
  · refine wp_if (fun g2 => ?_) (fun g2 => ?_)
    · exact ⟨rfl, (by have := mX_c l1 l2; have := gO_6_5 (rfl : kD 62 = (16, 9)) (by decide) hS; omega), trivial⟩
    · refine wp_if (fun g3 => ?_) (fun g3 => ?_)
      · exact ⟨rfl, (by have := gO_6_5 (rfl : kD 62 = (16, 9)) (by decide) hS; omega), trivial⟩
      · exact ⟨rfl, (by have := iA_c l1 1; have := gO_6_5 (rfl : kD 62 = (16, 9)) (by decide) hS; omega), trivial⟩
set_option maxHeartbeats 4000000 in
set_option maxRecDepth 100000 in
theorem t_X6_isNew {W : Nat → Nat → Prop} {μs : Mm} {l1 : Int} {l2 : Int} {l3 : Int} {l4 : Int} (hW : ∀ k j, scr k j → W k j)  (hp_l1 : -2147483648 ≤ l1 ∧ l1 ≤ 2147483647) (hp_l2 : -2147483648 ≤ l2 ∧ l2 ≤ 2147483647) (hp_l3 : -2147483648 ≤ l3 ∧ l3 ≤ 2147483647) (hp_l4 : -2147483648 ≤ l4 ∧ l4 ≤ 2147483647) {μ : Mm} (hS : St W μs μ) : wp (X6_isNew l1 l2 l3 l4 μ) (fun r μ' => St W μs μ' ∧ (0 ≤ r ∧ r ≤ 1) ∧ True) := by
  have hFU := FU_v
  unfold X6_isNew
  refine wp_ltv (fun v4 q5 => ?_)
  refine wp_if (fun g8 => ?_) (fun g8 => ?_)
  · exact ⟨hS, (by have := iM_c l1 8; have := iA_c (iM l1 8) l2; omega), trivial⟩
  · refine wp_if (fun g9 => ?_) (fun g9 => ?_)
    · refine wp_ldv (by have na0 : ((aN 63 : Nat) : Int) = 2048 := rfl; have := iM_c l1 8; have := iA_c (iM l1 8) l2; omega) (fun v10 q11 => ?_)
      have hrv10 := gA_6_1 (rfl : kD 62 = (16, 9)) (by decide) hS (v4).toNat
      replace hrv10 : -2147483648 ≤ v10 ∧ v10 ≤ 2147483647 := by rw [q11]; exact hrv10
      refine wp_if (fun g13 => ?_) (fun g13 => ?_)
      · unfold X6_isNew_J50
        try dsimp only
        refine wp_stv (P := St W μs) (by have na0 : ((aN 63 : Nat) : Int) = 2048 := rfl; have := iM_c l1 8; have := iA_c (iM l1 8) l2; omega) (pA_6_1 (rfl : kD 62 = (16, 9)) (by decide) hS (hW _ _ (by unfold scr; omega)) (by have na0 : ((aN 63 : Nat) : Int) = 2048 := rfl; have := iM_c l1 8; have := iA_c (iM l1 8) l2; omega)) (fun m16 h16 he16 => ?_)
        refine wp_stv (P := St W μs) (by have na0 : ((aN 64 : Nat) : Int) = 2048 := rfl; have na1 : ((aN 63 : Nat) : Int) = 2048 := rfl; have := iM_c l1 8; have := iA_c (iM l1 8) l2; omega) (pA_6_2 (rfl : kD 62 = (16, 9)) (by decide) h16 (hW _ _ (by unfold scr; omega)) (by have na0 : ((aN 63 : Nat) : Int) = 2048 := rfl; have := iM_c l1 8; have := iA_c (iM l1 8) l2; omega)) (fun m18 h18 he18 => ?_)
        exact ⟨h18, (by have na0 : ((aN 63 : Nat) : Int) = 2048 := rfl; have := iM_c l1 8; have := iA_c (iM l1 8) l2; omega), trivial⟩
      · refine wp_ldv (by have na0 : ((aN 64 : Nat) : Int) = 2048 := rfl; have na1 : ((aN 63 : Nat) : Int) = 2048 := rfl; have := iM_c l1 8; have := iA_c (iM l1 8) l2; omega) (fun v19 q20 => ?_)
        have hrv19 := gA_6_2 (rfl : kD 62 = (16, 9)) (by decide) hS (v4).toNat
        replace hrv19 : -2147483648 ≤ v19 ∧ v19 ≤ 2147483647 := by rw [q20]; exact hrv19
        refine wp_if (fun g21 => ?_) (fun g21 => ?_)
        · unfold X6_isNew_J50
          try dsimp only
          refine wp_stv (P := St W μs) (by have na0 : ((aN 63 : Nat) : Int) = 2048 := rfl; have := iM_c l1 8; have := iA_c (iM l1 8) l2; omega) (pA_6_1 (rfl : kD 62 = (16, 9)) (by decide) hS (hW _ _ (by unfold scr; omega)) (by have na0 : ((aN 63 : Nat) : Int) = 2048 := rfl; have := iM_c l1 8; have := iA_c (iM l1 8) l2; omega)) (fun m24 h24 he24 => ?_)
          refine wp_stv (P := St W μs) (by have na0 : ((aN 64 : Nat) : Int) = 2048 := rfl; have na1 : ((aN 63 : Nat) : Int) = 2048 := rfl; have := iM_c l1 8; have := iA_c (iM l1 8) l2; omega) (pA_6_2 (rfl : kD 62 = (16, 9)) (by decide) h24 (hW _ _ (by unfold scr; omega)) (by have na0 : ((aN 63 : Nat) : Int) = 2048 := rfl; have := iM_c l1 8; have := iA_c (iM l1 8) l2; omega)) (fun m26 h26 he26 => ?_)
          exact ⟨h26, (by have na0 : ((aN 63 : Nat) : Int) = 2048 := rfl; have := iM_c l1 8; have := iA_c (iM l1 8) l2; omega), trivial⟩
        · exact ⟨hS, (by have na0 : ((aN 63 : Nat) : Int) = 2048 := rfl; have := iM_c l1 8; have := iA_c (iM l1 8) l2; omega), trivial⟩
    · exact ⟨hS, (by have na0 : ((aN 63 : Nat) : Int) = 2048 := rfl; have := iM_c l1 8; have := iA_c (iM l1 8) l2; omega), trivial⟩
set_option maxHeartbeats 4000000 in
set_option maxRecDepth 100000 in
theorem t_X6_follow_o {W : Nat → Nat → Prop} {μs : Mm} {l1 : Int} {l2 : Int} {l3 : Int} {l4 : Int} {l5 : Int} {l6 : Int} (hW : ∀ k j, scr k j → W k j) {N : Int} {rec : Int → Int → Int → Int → Int → Int → Mm → Rs} (hrec : ∀ (l1 : Int) (l2 : Int) (l3 : Int) (l4 : Int) (l5 : Int) (l6 : Int) (μ : Mm), St W μs μ → (0 ≤ l1 ∧ l1 ≤ 8) → (-2147483648 ≤ l2 ∧ l2 ≤ 2147483647) → (0 ≤ l3 ∧ l3 ≤ 8) → (-2147483648 ≤ l4 ∧ l4 ≤ 2147483647) → (-2147483648 ≤ l5 ∧ l5 ≤ 2147483647) → (-2147483648 ≤ l6 ∧ l6 ≤ 2147483647) → 9 ≤ l1 + N → wp (rec l1 l2 l3 l4 l5 l6 μ) (fun r μ' => St W μs μ' ∧ (-2147483648 ≤ r ∧ r ≤ 2147483647) ∧ True))  (hp_l1 : 0 ≤ l1 ∧ l1 ≤ 7) (hp_l2 : -2147483648 ≤ l2 ∧ l2 ≤ 2147483647) (hp_l3 : 0 ≤ l3 ∧ l3 ≤ 7) (hp_l4 : -2147483648 ≤ l4 ∧ l4 ≤ 2147483647) (hp_l5 : -2147483648 ≤ l5 ∧ l5 ≤ 2147483647) (hp_l6 : -2147483648 ≤ l6 ∧ l6 ≤ 2147483647) {μ : Mm} (hS : St W μs μ) (hl : 8 ≤ l1 + N) : wp (X6_follow_o rec l1 l2 l3 l4 l5 l6 μ) (fun r μ' => St W μs μ' ∧ (-2147483648 ≤ r ∧ r ≤ 2147483647) ∧ True) := by
  have hFU := FU_v
  unfold X6_follow_o
  refine wp_mRv hS.1.2.2.1 (fun v12 hkv12 e13 => ?_)
  have hbv12 := kJr' hkv12
  refine wp_calls (t_X1_dones (l0 := v12) (l1 := l4) (l2 := l3)  hkv12 (by omega) (by omega) hS) (fun v24 hh => ?_)
  obtain ⟨hr25, hp25⟩ := hh
  refine wp_mRe hkv12 e13 ?_
  refine wp_ldv (by have na0 : ((aN (v12 + 2) : Nat) : Int) = 8 := (by rw [(bA_1_2 hkv12 (by omega) 0).2.2]; rfl); omega) (fun v42 q43 => ?_)
  have hrv42 := gA_1_2 hkv12 (by omega) hS (l3).toNat
  rw [← q43] at hrv42
  refine wp_calls (t_X6_withLate (l1 := l5) (l2 := (iS v24 v42))  (by omega) (by have := iS_c v24 v42; omega) hS) (fun v50 hh => ?_)
  obtain ⟨hr51, hp51⟩ := hh
  refine wp_if (fun g56 => ?_) (fun g56 => ?_)
  · exact ⟨hS, (by have := gO_6_7 (rfl : kD 62 = (16, 9)) (by decide) hS; omega), trivial⟩
  · refine wp_call (t_X6_isNew (l1 := l2) (l2 := l3) (l3 := v24) (l4 := v50) hW (by have := gO_6_7 (rfl : kD 62 = (16, 9)) (by decide) hS; omega) (by have := gO_6_7 (rfl : kD 62 = (16, 9)) (by decide) hS; omega) (by have := gO_6_7 (rfl : kD 62 = (16, 9)) (by decide) hS; omega) (by have := gO_6_7 (rfl : kD 62 = (16, 9)) (by decide) hS; omega) hS) (fun v57 m58 hh => ?_)
    obtain ⟨h58, hr58, hp58⟩ := hh
    refine wp_if (fun g61 => ?_) (fun g61 => ?_)
    · exact ⟨h58, (by have := gO_6_7 (rfl : kD 62 = (16, 9)) (by decide) hS; omega), trivial⟩
    · refine wp_call (hrec (iA l1 1) l2 l3 v24 v50 l6 m58 h58 (by have := iA_c l1 1; have := gO_6_7 (rfl : kD 62 = (16, 9)) (by decide) hS; omega) (by have := gO_6_7 (rfl : kD 62 = (16, 9)) (by decide) hS; omega) (by have := gO_6_7 (rfl : kD 62 = (16, 9)) (by decide) hS; omega) (by have := gO_6_7 (rfl : kD 62 = (16, 9)) (by decide) hS; omega) (by have := gO_6_7 (rfl : kD 62 = (16, 9)) (by decide) hS; omega) (by have := gO_6_7 (rfl : kD 62 = (16, 9)) (by decide) hS; omega) (by have := iA_c l1 1; have := gO_6_7 (rfl : kD 62 = (16, 9)) (by decide) hS; omega)) (fun v62 m63 hh => ?_)
      obtain ⟨h63, hr63, hp63⟩ := hh
      exact ⟨h63, (by have := gO_6_7 (rfl : kD 62 = (16, 9)) (by decide) hS; omega), trivial⟩
set_option maxHeartbeats 4000000 in
set_option maxRecDepth 100000 in
theorem t_X6_visit_L66 {W : Nat → Nat → Prop} {μs : Mm} {l1 : Int} {l2 : Int} {l3 : Int} {l4 : Int} {l5 : Int} {l6 : Int} {l8 : Int} (hW : ∀ k j, scr k j → W k j) {N : Int} {rec : Int → Int → Int → Int → Int → Int → Mm → Rs} (hrec : ∀ (l1 : Int) (l2 : Int) (l3 : Int) (l4 : Int) (l5 : Int) (l6 : Int) (μ : Mm), St W μs μ → (0 ≤ l1 ∧ l1 ≤ 8) → (-2147483648 ≤ l2 ∧ l2 ≤ 2147483647) → (0 ≤ l3 ∧ l3 ≤ 8) → (-2147483648 ≤ l4 ∧ l4 ≤ 2147483647) → (-2147483648 ≤ l5 ∧ l5 ≤ 2147483647) → (-2147483648 ≤ l6 ∧ l6 ≤ 2147483647) → 9 ≤ l1 + N → wp (rec l1 l2 l3 l4 l5 l6 μ) (fun r μ' => St W μs μ' ∧ (-2147483648 ≤ r ∧ r ≤ 2147483647) ∧ True))  (hp_l1 : 0 ≤ l1 ∧ l1 ≤ 7) (hp_l2 : -2147483648 ≤ l2 ∧ l2 ≤ 2147483647) (hp_l3 : 0 ≤ l3 ∧ l3 ≤ 8) (hp_l4 : -2147483648 ≤ l4 ∧ l4 ≤ 2147483647) (hp_l5 : -2147483648 ≤ l5 ∧ l5 ≤ 2147483647) (hp_l6 : -2147483648 ≤ l6 ∧ l6 ≤ 2147483647) (hp_l8 : 0 ≤ l8 ∧ l8 ≤ 8) (hl : 8 ≤ l1 + N) {Q : Int → Mm → Prop} (hQ : ∀ r μ, St W μs μ → (-2147483648 ≤ r ∧ r ≤ 2147483647) → True → Q r μ) : ∀ (n : Nat) {l9 : Int} {μ : Mm}, St W μs μ → (0 ≤ l9 ∧ l9 ≤ 8) → True → 8 - l9 + 1 ≤ ((n : Nat) : Int) → wp (X6_visit_L66 rec l1 l2 l3 l4 l5 l6 l8 n l9 μ) Q := by
  have hFU := FU_v
  intro n
  induction n with
  | zero => intro l9 μ hS hv_l9 hi hm; exact absurd hm (by  have : ((0 : Nat) : Int) = 0 := rfl; omega)
  | succ n ih =>
    intro l9 μ hS hv_l9 hi hm
    have hn1 : ((n + 1 : Nat) : Int) = ((n : Nat) : Int) + 1 := rfl
    rw [X6_visit_L66]
    refine wp_if (fun g15 => ?_) (fun g15 => ?_)
    · exact hQ _ _ hS (by omega) trivial
    · refine wp_if (fun g16 => ?_) (fun g16 => ?_)
      · unfold X6_visit_J99
        try dsimp only
        refine wp_if (fun g19 => ?_) (fun g19 => ?_)
        · exact ih hS (by have := iA_c l9 1; have := bR_r l2 l9; have := bA_r (bR l2 l9) 1; omega) trivial (by have := iA_c l9 1; have := bR_r l2 l9; have := bA_r (bR l2 l9) 1; omega)
        · refine wp_call (t_X6_follow_o (l1 := l1) (l2 := (bO l2 (bL 1 l9))) (l3 := l9) (l4 := (-1)) (l5 := l5) (l6 := (iA (iM 10 l6) l9)) hW hrec (by have := bR_r l2 l9; have := bA_r (bR l2 l9) 1; omega) (by have := bL_r 1 l9; have := bO_r l2 (bL 1 l9); have := bR_r l2 l9; have := bA_r (bR l2 l9) 1; omega) (by have := bR_r l2 l9; have := bA_r (bR l2 l9) 1; omega) (by have := bR_r l2 l9; have := bA_r (bR l2 l9) 1; omega) (by have := bR_r l2 l9; have := bA_r (bR l2 l9) 1; omega) (by have := iM_c 10 l6; have := iA_c (iM 10 l6) l9; have := bR_r l2 l9; have := bA_r (bR l2 l9) 1; omega) hS (by have := bL_r 1 l9; have := bO_r l2 (bL 1 l9); have := iM_c 10 l6; have := iA_c (iM 10 l6) l9; have := bR_r l2 l9; have := bA_r (bR l2 l9) 1; omega)) (fun v20 m21 hh => ?_)
          obtain ⟨h21, hr21, hp21⟩ := hh
          exact ih h21 (by have := iA_c l9 1; have := bR_r l2 l9; have := bA_r (bR l2 l9) 1; omega) trivial (by have := iA_c l9 1; have := bR_r l2 l9; have := bA_r (bR l2 l9) 1; omega)
      · refine wp_mRv hS.1.2.2.1 (fun v22 hkv22 e23 => ?_)
        have hbv22 := kJr' hkv22
        refine wp_calls (t_X1_comes (l0 := v22) (l1 := l4) (l2 := l3) (l3 := l9)  hkv22 (by have := bR_r l2 l9; have := bA_r (bR l2 l9) 1; omega) (by have := bR_r l2 l9; have := bA_r (bR l2 l9) 1; omega) (by have := bR_r l2 l9; have := bA_r (bR l2 l9) 1; omega) hS) (fun v28 hh => ?_)
        obtain ⟨hr29, hp29⟩ := hh
        unfold X6_visit_J99
        try dsimp only
        refine wp_if (fun g34 => ?_) (fun g34 => ?_)
        · exact ih hS (by have := iA_c l9 1; have := bR_r l2 l9; have := bA_r (bR l2 l9) 1; omega) trivial (by have := iA_c l9 1; have := bR_r l2 l9; have := bA_r (bR l2 l9) 1; omega)
        · refine wp_call (t_X6_follow_o (l1 := l1) (l2 := (bO l2 (bL 1 l9))) (l3 := l9) (l4 := v28) (l5 := l5) (l6 := (iA (iM 10 l6) l9)) hW hrec (by have := bR_r l2 l9; have := bA_r (bR l2 l9) 1; omega) (by have := bL_r 1 l9; have := bO_r l2 (bL 1 l9); have := bR_r l2 l9; have := bA_r (bR l2 l9) 1; omega) (by have := bR_r l2 l9; have := bA_r (bR l2 l9) 1; omega) (by have := bR_r l2 l9; have := bA_r (bR l2 l9) 1; omega) (by have := bR_r l2 l9; have := bA_r (bR l2 l9) 1; omega) (by have := iM_c 10 l6; have := iA_c (iM 10 l6) l9; have := bR_r l2 l9; have := bA_r (bR l2 l9) 1; omega) hS (by have := bL_r 1 l9; have := bO_r l2 (bL 1 l9); have := iM_c 10 l6; have := iA_c (iM 10 l6) l9; have := bR_r l2 l9; have := bA_r (bR l2 l9) 1; omega)) (fun v35 m36 hh => ?_)
          obtain ⟨h36, hr36, hp36⟩ := hh
          exact ih h36 (by have := iA_c l9 1; have := bR_r l2 l9; have := bA_r (bR l2 l9) 1; omega) trivial (by have := iA_c l9 1; have := bR_r l2 l9; have := bA_r (bR l2 l9) 1; omega)
set_option maxHeartbeats 4000000 in
set_option maxRecDepth 100000 in
theorem t_X6_visit {W : Nat → Nat → Prop} {μs : Mm} (hW : ∀ k j, scr k j → W k j) : ∀ (n : Nat) {l1 l2 l3 l4 l5 l6 : Int} {μ : Mm}, St W μs μ → (0 ≤ l1 ∧ l1 ≤ 8) → (-2147483648 ≤ l2 ∧ l2 ≤ 2147483647) → (0 ≤ l3 ∧ l3 ≤ 8) → (-2147483648 ≤ l4 ∧ l4 ≤ 2147483647) → (-2147483648 ≤ l5 ∧ l5 ≤ 2147483647) → (-2147483648 ≤ l6 ∧ l6 ≤ 2147483647) → 9 ≤ l1 + ((n : Nat) : Int) → wp (X6_visit n l1 l2 l3 l4 l5 l6 μ) (fun r μ' => St W μs μ' ∧ (-2147483648 ≤ r ∧ r ≤ 2147483647) ∧ True) := by
  have hFU := FU_v
  intro n
  induction n with
  | zero => intro l1 l2 l3 l4 l5 l6 μ hS hv_l1 hv_l2 hv_l3 hv_l4 hv_l5 hv_l6 hl; exact absurd hl (by have : ((0 : Nat) : Int) = 0 := rfl; omega)
  | succ n ih =>
    intro l1 l2 l3 l4 l5 l6 μ hS hv_l1 hv_l2 hv_l3 hv_l4 hv_l5 hv_l6 hl
    have hn1 : ((n + 1 : Nat) : Int) = ((n : Nat) : Int) + 1 := rfl
    have hrec : ∀ (l1 : Int) (l2 : Int) (l3 : Int) (l4 : Int) (l5 : Int) (l6 : Int) (μ : Mm), St W μs μ → (0 ≤ l1 ∧ l1 ≤ 8) → (-2147483648 ≤ l2 ∧ l2 ≤ 2147483647) → (0 ≤ l3 ∧ l3 ≤ 8) → (-2147483648 ≤ l4 ∧ l4 ≤ 2147483647) → (-2147483648 ≤ l5 ∧ l5 ≤ 2147483647) → (-2147483648 ≤ l6 ∧ l6 ≤ 2147483647) → 9 ≤ l1 + ((n : Nat) : Int) → wp (X6_visit n l1 l2 l3 l4 l5 l6 μ) (fun r μ' => St W μs μ' ∧ (-2147483648 ≤ r ∧ r ≤ 2147483647) ∧ True) := fun l1 l2 l3 l4 l5 l6 μ hS hv_l1 hv_l2 hv_l3 hv_l4 hv_l5 hv_l6 hl => ih hS hv_l1 hv_l2 hv_l3 hv_l4 hv_l5 hv_l6 (by omega)
    rw [X6_visit]
    refine wp_mRv hS.1.2.2.1 (fun v18 hkv18 e19 => ?_)
    have hbv18 := kJr' hkv18
    refine wp_if (fun g36 => ?_) (fun g36 => ?_)
    · refine wp_if (fun g37 => ?_) (fun g37 => ?_)
      · unfold X6_visit_J37
        try dsimp only
        refine wp_if (fun g39 => ?_) (fun g39 => ?_)
        · refine wp_mRe hkv18 e19 ?_
          unfold X6_visit_J60
          try dsimp only
          exact t_X6_visit_L66 (l1 := l1) (l2 := l2) (l3 := l3) (l4 := l4) (l5 := l5) (l6 := l6) (l8 := (μ v18 5)) (l9 := 0) hW hrec (by have := gO_1_5 hkv18 (by omega) hS; have := gO_6_6 (rfl : kD 62 = (16, 9)) (by decide) hS; omega) (by have := gO_1_5 hkv18 (by omega) hS; have := gO_6_6 (rfl : kD 62 = (16, 9)) (by decide) hS; omega) (by have := gO_1_5 hkv18 (by omega) hS; have := gO_6_6 (rfl : kD 62 = (16, 9)) (by decide) hS; omega) (by have := gO_1_5 hkv18 (by omega) hS; have := gO_6_6 (rfl : kD 62 = (16, 9)) (by decide) hS; omega) (by have := gO_1_5 hkv18 (by omega) hS; have := gO_6_6 (rfl : kD 62 = (16, 9)) (by decide) hS; omega) (by have := gO_1_5 hkv18 (by omega) hS; have := gO_6_6 (rfl : kD 62 = (16, 9)) (by decide) hS; omega) (by have := gO_1_5 hkv18 (by omega) hS; have := gO_6_6 (rfl : kD 62 = (16, 9)) (by decide) hS; omega) (by have := gO_1_5 hkv18 (by omega) hS; have := gO_6_6 (rfl : kD 62 = (16, 9)) (by decide) hS; omega) (fun r_ m_ h_ hr_ hp_ => by exact ⟨h_, (by have := gO_1_5 hkv18 (by omega) hS; have := gO_6_6 (rfl : kD 62 = (16, 9)) (by decide) hS; omega), trivial⟩) FU hS (by have := gO_1_5 hkv18 (by omega) hS; have := gO_6_6 (rfl : kD 62 = (16, 9)) (by decide) hS; omega) trivial (by have := gO_1_5 hkv18 (by omega) hS; have := gO_6_6 (rfl : kD 62 = (16, 9)) (by decide) hS; omega)
        · unfold X6_visit_J60
          try dsimp only
          exact t_X6_visit_L66 (l1 := l1) (l2 := l2) (l3 := l3) (l4 := l4) (l5 := l5) (l6 := l6) (l8 := (iA l1 1)) (l9 := 0) hW hrec (by have := gO_1_5 hkv18 (by omega) hS; have := gO_6_6 (rfl : kD 62 = (16, 9)) (by decide) hS; omega) (by have := gO_1_5 hkv18 (by omega) hS; have := gO_6_6 (rfl : kD 62 = (16, 9)) (by decide) hS; omega) (by have := gO_1_5 hkv18 (by omega) hS; have := gO_6_6 (rfl : kD 62 = (16, 9)) (by decide) hS; omega) (by have := gO_1_5 hkv18 (by omega) hS; have := gO_6_6 (rfl : kD 62 = (16, 9)) (by decide) hS; omega) (by have := gO_1_5 hkv18 (by omega) hS; have := gO_6_6 (rfl : kD 62 = (16, 9)) (by decide) hS; omega) (by have := gO_1_5 hkv18 (by omega) hS; have := gO_6_6 (rfl : kD 62 = (16, 9)) (by decide) hS; omega) (by have := iA_c l1 1; have := gO_1_5 hkv18 (by omega) hS; have := gO_6_6 (rfl : kD 62 = (16, 9)) (by decide) hS; omega) (by have := iA_c l1 1; have := gO_1_5 hkv18 (by omega) hS; have := gO_6_6 (rfl : kD 62 = (16, 9)) (by decide) hS; omega) (fun r_ m_ h_ hr_ hp_ => by exact ⟨h_, (by have := gO_1_5 hkv18 (by omega) hS; have := gO_6_6 (rfl : kD 62 = (16, 9)) (by decide) hS; omega), trivial⟩) FU hS (by have := gO_1_5 hkv18 (by omega) hS; have := gO_6_6 (rfl : kD 62 = (16, 9)) (by decide) hS; omega) trivial (by have := gO_1_5 hkv18 (by omega) hS; have := gO_6_6 (rfl : kD 62 = (16, 9)) (by decide) hS; omega)
      · unfold X6_visit_J37
        try dsimp only
        refine wp_if (fun g49 => ?_) (fun g49 => ?_)
        · refine wp_mRe hkv18 e19 ?_
          unfold X6_visit_J60
          try dsimp only
          exact t_X6_visit_L66 (l1 := l1) (l2 := l2) (l3 := l3) (l4 := l4) (l5 := l5) (l6 := l6) (l8 := (μ v18 5)) (l9 := l1) hW hrec (by have := gO_1_5 hkv18 (by omega) hS; have := gO_6_6 (rfl : kD 62 = (16, 9)) (by decide) hS; omega) (by have := gO_1_5 hkv18 (by omega) hS; have := gO_6_6 (rfl : kD 62 = (16, 9)) (by decide) hS; omega) (by have := gO_1_5 hkv18 (by omega) hS; have := gO_6_6 (rfl : kD 62 = (16, 9)) (by decide) hS; omega) (by have := gO_1_5 hkv18 (by omega) hS; have := gO_6_6 (rfl : kD 62 = (16, 9)) (by decide) hS; omega) (by have := gO_1_5 hkv18 (by omega) hS; have := gO_6_6 (rfl : kD 62 = (16, 9)) (by decide) hS; omega) (by have := gO_1_5 hkv18 (by omega) hS; have := gO_6_6 (rfl : kD 62 = (16, 9)) (by decide) hS; omega) (by have := gO_1_5 hkv18 (by omega) hS; have := gO_6_6 (rfl : kD 62 = (16, 9)) (by decide) hS; omega) (by have := gO_1_5 hkv18 (by omega) hS; have := gO_6_6 (rfl : kD 62 = (16, 9)) (by decide) hS; omega) (fun r_ m_ h_ hr_ hp_ => by exact ⟨h_, (by have := gO_1_5 hkv18 (by omega) hS; have := gO_6_6 (rfl : kD 62 = (16, 9)) (by decide) hS; omega), trivial⟩) FU hS (by have := gO_1_5 hkv18 (by omega) hS; have := gO_6_6 (rfl : kD 62 = (16, 9)) (by decide) hS; omega) trivial (by have := gO_1_5 hkv18 (by omega) hS; have := gO_6_6 (rfl : kD 62 = (16, 9)) (by decide) hS; omega)
        · unfold X6_visit_J60
          try dsimp only
          exact t_X6_visit_L66 (l1 := l1) (l2 := l2) (l3 := l3) (l4 := l4) (l5 := l5) (l6 := l6) (l8 := (iA l1 1)) (l9 := l1) hW hrec (by have := gO_1_5 hkv18 (by omega) hS; have := gO_6_6 (rfl : kD 62 = (16, 9)) (by decide) hS; omega) (by have := gO_1_5 hkv18 (by omega) hS; have := gO_6_6 (rfl : kD 62 = (16, 9)) (by decide) hS; omega) (by have := gO_1_5 hkv18 (by omega) hS; have := gO_6_6 (rfl : kD 62 = (16, 9)) (by decide) hS; omega) (by have := gO_1_5 hkv18 (by omega) hS; have := gO_6_6 (rfl : kD 62 = (16, 9)) (by decide) hS; omega) (by have := gO_1_5 hkv18 (by omega) hS; have := gO_6_6 (rfl : kD 62 = (16, 9)) (by decide) hS; omega) (by have := gO_1_5 hkv18 (by omega) hS; have := gO_6_6 (rfl : kD 62 = (16, 9)) (by decide) hS; omega) (by have := iA_c l1 1; have := gO_1_5 hkv18 (by omega) hS; have := gO_6_6 (rfl : kD 62 = (16, 9)) (by decide) hS; omega) (by have := iA_c l1 1; have := gO_1_5 hkv18 (by omega) hS; have := gO_6_6 (rfl : kD 62 = (16, 9)) (by decide) hS; omega) (fun r_ m_ h_ hr_ hp_ => by exact ⟨h_, (by have := gO_1_5 hkv18 (by omega) hS; have := gO_6_6 (rfl : kD 62 = (16, 9)) (by decide) hS; omega), trivial⟩) FU hS (by have := gO_1_5 hkv18 (by omega) hS; have := gO_6_6 (rfl : kD 62 = (16, 9)) (by decide) hS; omega) trivial (by have := gO_1_5 hkv18 (by omega) hS; have := gO_6_6 (rfl : kD 62 = (16, 9)) (by decide) hS; omega)
    · refine wp_sFv (P := St W μs) (pO_6_7 (rfl : kD 62 = (16, 9)) hS (hW _ _ (by unfold scr; omega)) (by have := gO_1_5 hkv18 (by omega) hS; omega)) (fun m58 h58 he58 => ?_)
      refine wp_sFv (P := St W μs) (pO_6_8 (rfl : kD 62 = (16, 9)) h58 (hW _ _ (by unfold scr; omega)) (by have := gO_1_5 hkv18 (by omega) hS; omega)) (fun m60 h60 he60 => ?_)
      exact ⟨h60, (by have := gO_1_5 hkv18 (by omega) hS; omega), trivial⟩
set_option maxHeartbeats 4000000 in
set_option maxRecDepth 100000 in
theorem t_X6_seek {W : Nat → Nat → Prop} {μs : Mm} {l1 : Nat} {l2 : Int} {l3 : Int} (hW : ∀ k j, scr k j → W k j)  (hk_l1 : kD l1 = (11, 7)) (hp_l2 : -2147483648 ≤ l2 ∧ l2 ≤ 2147483647) (hp_l3 : -2147483648 ≤ l3 ∧ l3 ≤ 2147483647) {μ : Mm} (hS : St W μs μ) : wp (X6_seek l1 l2 l3 μ) (fun r μ' => St W μs μ' ∧ (0 ≤ r ∧ r ≤ 1) ∧ True) := by
  have hb_l1 := kJr' hk_l1
  have hFU := FU_v
  unfold X6_seek
  refine wp_sFv (P := St W μs) (pM_6 hS (hW _ _ (by unfold scr; omega)) (show kD (((l1 : Nat) : Int)).toNat = _ by rw [Int.toNat_natCast]; exact hk_l1)) (fun m13 h13 he13 => ?_)
  refine wp_sFv (P := St W μs) (pO_6_5 (rfl : kD 62 = (16, 9)) h13 (hW _ _ (by unfold scr; omega)) (by omega)) (fun m25 h25 he25 => ?_)
  refine wp_sFv (P := St W μs) (pO_6_6 (rfl : kD 62 = (16, 9)) h25 (hW _ _ (by unfold scr; omega)) (by omega)) (fun m36 h36 he36 => ?_)
  refine wp_sFv (P := St W μs) (pO_6_7 (rfl : kD 62 = (16, 9)) h36 (hW _ _ (by unfold scr; omega)) (by omega)) (fun m46 h46 he46 => ?_)
  refine wp_sFv (P := St W μs) (pO_6_8 (rfl : kD 62 = (16, 9)) h46 (hW _ _ (by unfold scr; omega)) (by omega)) (fun m55 h55 he55 => ?_)
  refine wp_mRv h55.1.2.2.1 (fun v63 hkv63 e64 => ?_)
  have hbv63 := kJr' hkv63
  refine wp_calls (t_X1_canBe (l0 := v63)  hkv63 h55) (fun v71 hh => ?_)
  obtain ⟨hr72, hp72⟩ := hh
  refine wp_if (fun g77 => ?_) (fun g77 => ?_)
  · exact ⟨h55, (by omega), trivial⟩
  · refine wp_call (t_X6_forget hW  h55) (fun v78 m79 hh => ?_)
    obtain ⟨h79, hr79, hp79⟩ := hh
    refine wp_call (t_X6_visit hW RD h79 (by omega) (by omega) (by omega) (by omega) (by omega) (by omega) (by rw [RD_v]; omega)) (fun v82 m83 hh => ?_)
    obtain ⟨h83, hr83, hp83⟩ := hh
    refine wp_if (fun g84 => ?_) (fun g84 => ?_)
    · exact ⟨h83, (by have := gO_6_7 (rfl : kD 62 = (16, 9)) (by decide) h83; omega), trivial⟩
    · exact ⟨h83, (by have := gO_6_7 (rfl : kD 62 = (16, 9)) (by decide) h83; omega), trivial⟩
set_option maxHeartbeats 4000000 in
set_option maxRecDepth 100000 in
theorem t_X6_gatherBehind_o_65 {W : Nat → Nat → Prop} {μs : Mm} {l1 : Int} {l2 : Int} {l3 : Int} {l4 : Int} {l5 : Int} (hW : ∀ k j, scr k j → W k j) {N : Int} {rec : Int → Int → Int → Int → Int → Nat → Mm → Rs} (hrec : ∀ (l1 : Int) (l2 : Int) (l3 : Int) (l4 : Int) (l5 : Int) (μ : Mm), St W μs μ → (0 ≤ l1 ∧ l1 ≤ 9) → (-2147483648 ≤ l2 ∧ l2 ≤ 2147483647) → (0 ≤ l3 ∧ l3 ≤ 8) → (-2147483648 ≤ l4 ∧ l4 ≤ 2147483647) → (-2147483648 ≤ l5 ∧ l5 ≤ 2147483647) → 10 ≤ l1 + N → wp (rec l1 l2 l3 l4 l5 65 μ) (fun r μ' => St W μs μ' ∧ (-2147483648 ≤ r ∧ r ≤ 2147483647) ∧ True))  (hp_l1 : 0 ≤ l1 ∧ l1 ≤ 8) (hp_l2 : -2147483648 ≤ l2 ∧ l2 ≤ 2147483647) (hp_l3 : 0 ≤ l3 ∧ l3 ≤ 7) (hp_l4 : -2147483648 ≤ l4 ∧ l4 ≤ 2147483647) (hp_l5 : -2147483648 ≤ l5 ∧ l5 ≤ 2147483647) {μ : Mm} (hS : St W μs μ) (hl : 9 ≤ l1 + N) : wp (X6_gatherBehind_o rec l1 l2 l3 l4 l5 65 μ) (fun r μ' => St W μs μ' ∧ (-2147483648 ≤ r ∧ r ≤ 2147483647) ∧ True) := by
  have hFU := FU_v
  unfold X6_gatherBehind_o
  refine wp_mRv hS.1.2.2.1 (fun v11 hkv11 e12 => ?_)
  have hbv11 := kJr' hkv11
  refine wp_calls (t_X1_dones (l0 := v11) (l1 := l4) (l2 := l3)  hkv11 (by omega) (by omega) hS) (fun v22 hh => ?_)
  obtain ⟨hr23, hp23⟩ := hh
  refine wp_mRe hkv11 e12 ?_
  refine wp_ldv (by have na0 : ((aN (v11 + 2) : Nat) : Int) = 8 := (by rw [(bA_1_2 hkv11 (by omega) 0).2.2]; rfl); omega) (fun v38 q39 => ?_)
  have hrv38 := gA_1_2 hkv11 (by omega) hS (l3).toNat
  rw [← q39] at hrv38
  refine wp_ltv (fun v45 q46 => ?_)
  refine wp_call (t_X6_isNew (l1 := l2) (l2 := l3) (l3 := v22) (l4 := v45) hW (by have := iA_c l5 v22; have := iS_c (iA l5 v22) v38; omega) (by have := iA_c l5 v22; have := iS_c (iA l5 v22) v38; omega) (by have := iA_c l5 v22; have := iS_c (iA l5 v22) v38; omega) (by have := iA_c l5 v22; have := iS_c (iA l5 v22) v38; omega) hS) (fun v51 m52 hh => ?_)
  obtain ⟨h52, hr52, hp52⟩ := hh
  refine wp_if (fun g55 => ?_) (fun g55 => ?_)
  · exact ⟨h52, (by have := iA_c l5 v22; have := iS_c (iA l5 v22) v38; omega), trivial⟩
  · refine wp_call (hrec (iA l1 1) l2 l3 v22 v45 m52 h52 (by have := iA_c l1 1; have := iA_c l5 v22; have := iS_c (iA l5 v22) v38; omega) (by have := iA_c l5 v22; have := iS_c (iA l5 v22) v38; omega) (by have := iA_c l5 v22; have := iS_c (iA l5 v22) v38; omega) (by have := iA_c l5 v22; have := iS_c (iA l5 v22) v38; omega) (by have := iA_c l5 v22; have := iS_c (iA l5 v22) v38; omega) (by have := iA_c l1 1; have := iA_c l5 v22; have := iS_c (iA l5 v22) v38; omega)) (fun v56 m57 hh => ?_)
    obtain ⟨h57, hr57, hp57⟩ := hh
    exact ⟨h57, (by have := iA_c l5 v22; have := iS_c (iA l5 v22) v38; omega), trivial⟩
set_option maxHeartbeats 4000000 in
set_option maxRecDepth 100000 in
theorem t_X6_gatherBehind_o_66 {W : Nat → Nat → Prop} {μs : Mm} {l1 : Int} {l2 : Int} {l3 : Int} {l4 : Int} {l5 : Int} (hW : ∀ k j, scr k j → W k j) {N : Int} {rec : Int → Int → Int → Int → Int → Nat → Mm → Rs} (hrec : ∀ (l1 : Int) (l2 : Int) (l3 : Int) (l4 : Int) (l5 : Int) (μ : Mm), St W μs μ → (0 ≤ l1 ∧ l1 ≤ 9) → (-2147483648 ≤ l2 ∧ l2 ≤ 2147483647) → (0 ≤ l3 ∧ l3 ≤ 8) → (-2147483648 ≤ l4 ∧ l4 ≤ 2147483647) → (-2147483648 ≤ l5 ∧ l5 ≤ 2147483647) → 10 ≤ l1 + N → wp (rec l1 l2 l3 l4 l5 66 μ) (fun r μ' => St W μs μ' ∧ (-2147483648 ≤ r ∧ r ≤ 2147483647) ∧ True))  (hp_l1 : 0 ≤ l1 ∧ l1 ≤ 8) (hp_l2 : -2147483648 ≤ l2 ∧ l2 ≤ 2147483647) (hp_l3 : 0 ≤ l3 ∧ l3 ≤ 7) (hp_l4 : -2147483648 ≤ l4 ∧ l4 ≤ 2147483647) (hp_l5 : -2147483648 ≤ l5 ∧ l5 ≤ 2147483647) {μ : Mm} (hS : St W μs μ) (hl : 9 ≤ l1 + N) : wp (X6_gatherBehind_o rec l1 l2 l3 l4 l5 66 μ) (fun r μ' => St W μs μ' ∧ (-2147483648 ≤ r ∧ r ≤ 2147483647) ∧ True) := by
  have hFU := FU_v
  unfold X6_gatherBehind_o
  refine wp_mRv hS.1.2.2.1 (fun v11 hkv11 e12 => ?_)
  have hbv11 := kJr' hkv11
  refine wp_calls (t_X1_dones (l0 := v11) (l1 := l4) (l2 := l3)  hkv11 (by omega) (by omega) hS) (fun v22 hh => ?_)
  obtain ⟨hr23, hp23⟩ := hh
  refine wp_mRe hkv11 e12 ?_
  refine wp_ldv (by have na0 : ((aN (v11 + 2) : Nat) : Int) = 8 := (by rw [(bA_1_2 hkv11 (by omega) 0).2.2]; rfl); omega) (fun v38 q39 => ?_)
  have hrv38 := gA_1_2 hkv11 (by omega) hS (l3).toNat
  rw [← q39] at hrv38
  refine wp_ltv (fun v45 q46 => ?_)
  refine wp_call (t_X6_isNew (l1 := l2) (l2 := l3) (l3 := v22) (l4 := v45) hW (by have := iA_c l5 v22; have := iS_c (iA l5 v22) v38; omega) (by have := iA_c l5 v22; have := iS_c (iA l5 v22) v38; omega) (by have := iA_c l5 v22; have := iS_c (iA l5 v22) v38; omega) (by have := iA_c l5 v22; have := iS_c (iA l5 v22) v38; omega) hS) (fun v51 m52 hh => ?_)
  obtain ⟨h52, hr52, hp52⟩ := hh
  refine wp_if (fun g55 => ?_) (fun g55 => ?_)
  · exact ⟨h52, (by have := iA_c l5 v22; have := iS_c (iA l5 v22) v38; omega), trivial⟩
  · refine wp_call (hrec (iA l1 1) l2 l3 v22 v45 m52 h52 (by have := iA_c l1 1; have := iA_c l5 v22; have := iS_c (iA l5 v22) v38; omega) (by have := iA_c l5 v22; have := iS_c (iA l5 v22) v38; omega) (by have := iA_c l5 v22; have := iS_c (iA l5 v22) v38; omega) (by have := iA_c l5 v22; have := iS_c (iA l5 v22) v38; omega) (by have := iA_c l5 v22; have := iS_c (iA l5 v22) v38; omega) (by have := iA_c l1 1; have := iA_c l5 v22; have := iS_c (iA l5 v22) v38; omega)) (fun v56 m57 hh => ?_)
    obtain ⟨h57, hr57, hp57⟩ := hh
    exact ⟨h57, (by have := iA_c l5 v22; have := iS_c (iA l5 v22) v38; omega), trivial⟩
