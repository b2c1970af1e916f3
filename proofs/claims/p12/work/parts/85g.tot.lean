/-! TOTALITY of the class, by program (wip/gen/tot.py) -/
set_option maxHeartbeats 4000000 in
set_option maxRecDepth 100000 in
theorem t_X10_runs {W : Nat → Nat → Prop} {μs : Mm} {l1 : Int} {l2 : Int} (hW : ∀ k j, scr k j → W k j)  (hp_l1 : -2147483648 ≤ l1 ∧ l1 ≤ 2147483647) (hp_l2 : -2147483648 ≤ l2 ∧ l2 ≤ 2147483647) {μ : Mm} (hS : St W μs μ) : wp (X10_runs l1 l2 μ) (fun r μ' => St W μs μ' ∧ (0 ≤ r ∧ r ≤ 1) ∧ True) := by
  have hFU := FU_v
  unfold X10_runs
  refine wp_call (t_X10_lay (l1 := l1) hW (by omega) hS) (fun v7 m8 hh => ?_)
  obtain ⟨h8, hr8, hp8⟩ := hh
  refine wp_if (fun g13 => ?_) (fun g13 => ?_)
  · exact ⟨h8, (by omega), trivial⟩
  · refine wp_call (t_X5_takeOrder (l1 := l2) (l2 := (m8 48 5)) hW (by omega) (by have := gO_1_5 (rfl : kD 48 = (11, 7)) (by decide) h8; omega) h8) (fun v14 m15 hh => ?_)
    obtain ⟨h15, hr15, hp15⟩ := hh
    refine wp_if (fun g18 => ?_) (fun g18 => ?_)
    · exact ⟨h15, (by omega), trivial⟩
    · refine wp_call (t_X5_go (l1 := 48) hW (rfl : kD 48 = (11, 7)) h15) (fun v19 m20 hh => ?_)
      obtain ⟨h20, hr20, hp20⟩ := hh
      refine wp_if (fun g21 => ?_) (fun g21 => ?_)
      · exact ⟨h20, (by omega), trivial⟩
      · exact ⟨h20, (by omega), trivial⟩
set_option maxHeartbeats 4000000 in
set_option maxRecDepth 100000 in
theorem t_X10_order {W : Nat → Nat → Prop} {μs : Mm} {l1 : Int} {l2 : Int} {l3 : Int} (hW : ∀ k j, scr k j → W k j)  (hp_l1 : -2147483648 ≤ l1 ∧ l1 ≤ 2147483647) (hp_l2 : -2147483648 ≤ l2 ∧ l2 ≤ 2147483647) (hp_l3 : -2147483648 ≤ l3 ∧ l3 ≤ 2147483647) {μ : Mm} (hS : St W μs μ) : wp (X10_order l1 l2 l3 μ) (fun r μ' => St W μs μ' ∧ (-2147483648 ≤ r ∧ r ≤ 2147483647) ∧ True) := by
  have hFU := FU_v
  unfold X10_order
  refine wp_if (fun g3 => ?_) (fun g3 => ?_)
  · exact ⟨hS, (by omega), trivial⟩
  · refine wp_if (fun g4 => ?_) (fun g4 => ?_)
    · exact ⟨hS, (by omega), trivial⟩
    · refine wp_call (t_X10_runs (l1 := l1) (l2 := l2) hW (by omega) (by omega) hS) (fun v5 m6 hh => ?_)
      obtain ⟨h6, hr6, hp6⟩ := hh
      refine wp_if (fun g7 => ?_) (fun g7 => ?_)
      · exact ⟨h6, (by omega), trivial⟩
      · refine wp_if (fun g8 => ?_) (fun g8 => ?_)
        · exact ⟨h6, (by have := gO_5_4 (rfl : kD 58 = (15, 10)) (by decide) h6; omega), trivial⟩
        · refine wp_if (fun g9 => ?_) (fun g9 => ?_)
          · exact ⟨h6, (by have := gO_5_5 (rfl : kD 58 = (15, 10)) (by decide) h6; omega), trivial⟩
          · refine wp_if (fun g10 => ?_) (fun g10 => ?_)
            · exact ⟨h6, (by have := gO_5_6 (rfl : kD 58 = (15, 10)) (by decide) h6; omega), trivial⟩
            · exact ⟨h6, (by have := gO_5_7 (rfl : kD 58 = (15, 10)) (by decide) h6; omega), trivial⟩
set_option maxHeartbeats 4000000 in
set_option maxRecDepth 100000 in
theorem t_X10_done {W : Nat → Nat → Prop} {μs : Mm} {l1 : Int} {l2 : Int} {l3 : Int} {l4 : Int} (hW : ∀ k j, scr k j → W k j)  (hp_l1 : -2147483648 ≤ l1 ∧ l1 ≤ 2147483647) (hp_l2 : -2147483648 ≤ l2 ∧ l2 ≤ 2147483647) (hp_l3 : -2147483648 ≤ l3 ∧ l3 ≤ 2147483647) (hp_l4 : -2147483648 ≤ l4 ∧ l4 ≤ 2147483647) {μ : Mm} (hS : St W μs μ) : wp (X10_done l1 l2 l3 l4 μ) (fun r μ' => St W μs μ' ∧ (-2147483648 ≤ r ∧ r ≤ 2147483647) ∧ True) := by
  have hFU := FU_v
  unfold X10_done
  refine wp_if (fun g7 => ?_) (fun g7 => ?_)
  · exact ⟨hS, (by omega), trivial⟩
  · refine wp_if (fun g8 => ?_) (fun g8 => ?_)
    · exact ⟨hS, (by omega), trivial⟩
    · refine wp_call (t_X10_runs (l1 := l1) (l2 := l2) hW (by omega) (by omega) hS) (fun v9 m10 hh => ?_)
      obtain ⟨h10, hr10, hp10⟩ := hh
      refine wp_if (fun g15 => ?_) (fun g15 => ?_)
      · exact ⟨h10, (by omega), trivial⟩
      · refine wp_if (fun g16 => ?_) (fun g16 => ?_)
        · exact ⟨h10, (by omega), trivial⟩
        · refine wp_if (fun g17 => ?_) (fun g17 => ?_)
          · refine wp_if (fun g18 => ?_) (fun g18 => ?_)
            · refine wp_ldv (by have na0 : ((aN 60 : Nat) : Int) = 8 := rfl; have := gO_1_5 (rfl : kD 48 = (11, 7)) (by decide) h10; omega) (fun v19 q20 => ?_)
              have hrv19 := gA_5_2 (rfl : kD 58 = (15, 10)) (by decide) h10 (l3).toNat
              replace hrv19 : -2147483648 ≤ v19 ∧ v19 ≤ 2147483647 := by rw [q20]; exact hrv19
              exact ⟨h10, (by have := gO_1_5 (rfl : kD 48 = (11, 7)) (by decide) h10; omega), trivial⟩
            · refine wp_if (fun g21 => ?_) (fun g21 => ?_)
              · refine wp_ldv (by have na0 : ((aN 61 : Nat) : Int) = 8 := rfl; have := gO_1_5 (rfl : kD 48 = (11, 7)) (by decide) h10; omega) (fun v22 q23 => ?_)
                have hrv22 := gA_5_3 (rfl : kD 58 = (15, 10)) (by decide) h10 (l3).toNat
                replace hrv22 : -2147483648 ≤ v22 ∧ v22 ≤ 2147483647 := by rw [q23]; exact hrv22
                exact ⟨h10, (by have := gO_1_5 (rfl : kD 48 = (11, 7)) (by decide) h10; omega), trivial⟩
              · refine wp_ldv (by have na0 : ((aN 61 : Nat) : Int) = 8 := rfl; have := gO_1_5 (rfl : kD 48 = (11, 7)) (by decide) h10; omega) (fun v24 q25 => ?_)
                have hrv24 := gA_5_3 (rfl : kD 58 = (15, 10)) (by decide) h10 (l3).toNat
                replace hrv24 : -2147483648 ≤ v24 ∧ v24 ≤ 2147483647 := by rw [q25]; exact hrv24
                refine wp_ldv (by have na0 : ((aN 50 : Nat) : Int) = 8 := rfl; have := gO_1_5 (rfl : kD 48 = (11, 7)) (by decide) h10; omega) (fun v27 q28 => ?_)
                have hrv27 := gA_1_2 (rfl : kD 48 = (11, 7)) (by decide) h10 (l3).toNat
                replace hrv27 : -2147483648 ≤ v27 ∧ v27 ≤ 2147483647 := by rw [q28]; exact hrv27
                exact ⟨h10, (by have := iS_c v24 v27; have := gO_1_5 (rfl : kD 48 = (11, 7)) (by decide) h10; omega), trivial⟩
          · exact ⟨h10, (by have := gO_1_5 (rfl : kD 48 = (11, 7)) (by decide) h10; omega), trivial⟩
set_option maxHeartbeats 4000000 in
set_option maxRecDepth 100000 in
theorem t_X10_where {W : Nat → Nat → Prop} {μs : Mm} {l1 : Int} {l2 : Int} {l3 : Int} (hW : ∀ k j, scr k j → W k j)  (hp_l1 : -2147483648 ≤ l1 ∧ l1 ≤ 2147483647) (hp_l2 : -2147483648 ≤ l2 ∧ l2 ≤ 2147483647) (hp_l3 : -2147483648 ≤ l3 ∧ l3 ≤ 2147483647) {μ : Mm} (hS : St W μs μ) : wp (X10_where l1 l2 l3 μ) (fun r μ' => St W μs μ' ∧ (-2147483648 ≤ r ∧ r ≤ 2147483647) ∧ True) := by
  have hFU := FU_v
  unfold X10_where
  refine wp_if (fun g5 => ?_) (fun g5 => ?_)
  · exact ⟨hS, (by omega), trivial⟩
  · refine wp_call (t_X10_runs (l1 := l1) (l2 := l2) hW (by omega) (by omega) hS) (fun v6 m7 hh => ?_)
    obtain ⟨h7, hr7, hp7⟩ := hh
    refine wp_if (fun g10 => ?_) (fun g10 => ?_)
    · exact ⟨h7, (by omega), trivial⟩
    · refine wp_calls (t_X5_crankAt (l1 := 48) (l2 := l3)  (rfl : kD 48 = (11, 7)) (by omega) h7) (fun v11 hh => ?_)
      obtain ⟨hr12, hp12⟩ := hh
      exact ⟨h7, (by omega), trivial⟩
set_option maxHeartbeats 4000000 in
set_option maxRecDepth 100000 in
theorem t_X10_isHalf {W : Nat → Nat → Prop} {μs : Mm} {l0 : Int}  (hp_l0 : -2147483648 ≤ l0 ∧ l0 ≤ 2147483647) {μ : Mm} (hS : St W μs μ) : wp (X10_isHalf l0 μ) (fun r μ' => μ' = μ ∧ (0 ≤ r ∧ r ≤ 1) ∧ True) := by
  have hFU := FU_v
  unfold X10_isHalf
  refine wp_if (fun g1 => ?_) (fun g1 => ?_)
  · exact ⟨rfl, (by omega), trivial⟩
  · refine wp_if (fun g2 => ?_) (fun g2 => ?_)
    · exact ⟨rfl, (by omega), trivial⟩
    · exact ⟨rfl, (by omega), trivial⟩
set_option maxHeartbeats 4000000 in
set_option maxRecDepth 100000 in
theorem t_X10_walk {W : Nat → Nat → Prop} {μs : Mm} {l1 : Int} {l2 : Int} {l3 : Int} (hW : ∀ k j, scr k j → W k j)  (hp_l1 : -2147483648 ≤ l1 ∧ l1 ≤ 2147483647) (hp_l2 : -2147483648 ≤ l2 ∧ l2 ≤ 2147483647) (hp_l3 : -2147483648 ≤ l3 ∧ l3 ≤ 2147483647) {μ : Mm} (hS : St W μs μ) : wp (X10_walk l1 l2 l3 μ) (fun r μ' => St W μs μ' ∧ (-2147483648 ≤ r ∧ r ≤ 2147483647) ∧ True) := by
  have hFU := FU_v
  unfold X10_walk
  refine wp_calls (t_X10_isHalf (l0 := l3)  (by omega) hS) (fun v5 hh => ?_)
  obtain ⟨hr6, hp6⟩ := hh
  refine wp_if (fun g9 => ?_) (fun g9 => ?_)
  · exact ⟨hS, (by omega), trivial⟩
  · refine wp_call (t_X10_runs (l1 := l1) (l2 := l2) hW (by omega) (by omega) hS) (fun v10 m11 hh => ?_)
    obtain ⟨h11, hr11, hp11⟩ := hh
    refine wp_if (fun g12 => ?_) (fun g12 => ?_)
    · exact ⟨h11, (by omega), trivial⟩
    · refine wp_if (fun g13 => ?_) (fun g13 => ?_)
      · exact ⟨h11, (by have := gO_5_8 (rfl : kD 58 = (15, 10)) (by decide) h11; omega), trivial⟩
      · exact ⟨h11, (by have := gO_5_9 (rfl : kD 58 = (15, 10)) (by decide) h11; omega), trivial⟩
set_option maxHeartbeats 4000000 in
set_option maxRecDepth 100000 in
theorem t_X10_latesByBook {W : Nat → Nat → Prop} {μs : Mm} {l1 : Int} (hW : ∀ k j, scr k j → W k j)  (hp_l1 : -2147483648 ≤ l1 ∧ l1 ≤ 2147483647) {μ : Mm} (hS : St W μs μ) : wp (X10_latesByBook l1 μ) (fun r μ' => St W μs μ' ∧ (-2147483648 ≤ r ∧ r ≤ 2147483647) ∧ True) := by
  have hFU := FU_v
  unfold X10_latesByBook
  refine wp_call (t_X5_takeBook (l1 := l1) (l2 := (μ 48 5)) hW (by omega) (by have := gO_1_5 (rfl : kD 48 = (11, 7)) (by decide) hS; omega) hS) (fun v5 m6 hh => ?_)
  obtain ⟨h6, hr6, hp6⟩ := hh
  refine wp_call (t_X5_go (l1 := 48) hW (rfl : kD 48 = (11, 7)) h6) (fun v9 m10 hh => ?_)
  obtain ⟨h10, hr10, hp10⟩ := hh
  refine wp_if (fun g11 => ?_) (fun g11 => ?_)
  · exact ⟨h10, (by omega), trivial⟩
  · exact ⟨h10, (by have := gO_5_4 (rfl : kD 58 = (15, 10)) (by decide) h10; omega), trivial⟩
set_option maxHeartbeats 4000000 in
set_option maxRecDepth 100000 in
theorem t_X10_told {W : Nat → Nat → Prop} {μs : Mm} {l1 : Int} {l2 : Int} {l3 : Int} (hW : ∀ k j, scr k j → W k j)  (hp_l1 : -2147483648 ≤ l1 ∧ l1 ≤ 2147483647) (hp_l2 : -2147483648 ≤ l2 ∧ l2 ≤ 2147483647) (hp_l3 : -2147483648 ≤ l3 ∧ l3 ≤ 2147483647) {μ : Mm} (hS : St W μs μ) : wp (X10_told l1 l2 l3 μ) (fun r μ' => St W μs μ' ∧ (-2147483648 ≤ r ∧ r ≤ 2147483647) ∧ True) := by
  have hFU := FU_v
  unfold X10_told
  refine wp_call (t_X6_seek (l1 := 48) (l2 := l1) (l3 := l2) hW (rfl : kD 48 = (11, 7)) (by omega) (by omega) hS) (fun v3 m4 hh => ?_)
  obtain ⟨h4, hr4, hp4⟩ := hh
  refine wp_if (fun g5 => ?_) (fun g5 => ?_)
  · exact ⟨h4, (by omega), trivial⟩
  · refine wp_if (fun g6 => ?_) (fun g6 => ?_)
    · exact ⟨h4, (by have := gO_6_8 (rfl : kD 62 = (16, 9)) (by decide) h4; omega), trivial⟩
    · exact ⟨h4, (by have := gO_6_7 (rfl : kD 62 = (16, 9)) (by decide) h4; omega), trivial⟩
set_option maxHeartbeats 4000000 in
set_option maxRecDepth 100000 in
theorem t_X10_best {W : Nat → Nat → Prop} {μs : Mm} {l1 : Int} {l2 : Int} {l3 : Int} (hW : ∀ k j, scr k j → W k j)  (hp_l1 : -2147483648 ≤ l1 ∧ l1 ≤ 2147483647) (hp_l2 : -2147483648 ≤ l2 ∧ l2 ≤ 2147483647) (hp_l3 : -2147483648 ≤ l3 ∧ l3 ≤ 2147483647) {μ : Mm} (hS : St W μs μ) : wp (X10_best l1 l2 l3 μ) (fun r μ' => St W μs μ' ∧ (-2147483648 ≤ r ∧ r ≤ 2147483647) ∧ True) := by
  have hFU := FU_v
  unfold X10_best
  refine wp_if (fun g7 => ?_) (fun g7 => ?_)
  · exact ⟨hS, (by omega), trivial⟩
  · refine wp_if (fun g8 => ?_) (fun g8 => ?_)
    · exact ⟨hS, (by omega), trivial⟩
    · refine wp_calls (t_X10_isHalf (l0 := l3)  (by omega) hS) (fun v9 hh => ?_)
      obtain ⟨hr10, hp10⟩ := hh
      refine wp_if (fun g15 => ?_) (fun g15 => ?_)
      · exact ⟨hS, (by omega), trivial⟩
      · refine wp_call (t_X10_lay (l1 := l1) hW (by omega) hS) (fun v16 m17 hh => ?_)
        obtain ⟨h17, hr17, hp17⟩ := hh
        refine wp_if (fun g20 => ?_) (fun g20 => ?_)
        · exact ⟨h17, (by omega), trivial⟩
        · refine wp_call (t_X10_told (l1 := l2) (l2 := 0) (l3 := l3) hW (by omega) (by omega) (by omega) h17) (fun v21 m22 hh => ?_)
          obtain ⟨h22, hr22, hp22⟩ := hh
          exact ⟨h22, (by omega), trivial⟩
set_option maxHeartbeats 4000000 in
set_option maxRecDepth 100000 in
theorem t_X10_mend {W : Nat → Nat → Prop} {μs : Mm} {l1 : Int} {l2 : Int} {l3 : Int} (hW : ∀ k j, scr k j → W k j)  (hp_l1 : -2147483648 ≤ l1 ∧ l1 ≤ 2147483647) (hp_l2 : -2147483648 ≤ l2 ∧ l2 ≤ 2147483647) (hp_l3 : -2147483648 ≤ l3 ∧ l3 ≤ 2147483647) {μ : Mm} (hS : St W μs μ) : wp (X10_mend l1 l2 l3 μ) (fun r μ' => St W μs μ' ∧ (-2147483648 ≤ r ∧ r ≤ 2147483647) ∧ True) := by
  have hFU := FU_v
  unfold X10_mend
  refine wp_calls (t_X10_isHalf (l0 := l3)  (by omega) hS) (fun v7 hh => ?_)
  obtain ⟨hr8, hp8⟩ := hh
  refine wp_if (fun g13 => ?_) (fun g13 => ?_)
  · exact ⟨hS, (by omega), trivial⟩
  · refine wp_call (t_X10_lay (l1 := l1) hW (by omega) hS) (fun v14 m15 hh => ?_)
    obtain ⟨h15, hr15, hp15⟩ := hh
    refine wp_if (fun g18 => ?_) (fun g18 => ?_)
    · exact ⟨h15, (by omega), trivial⟩
    · refine wp_if (fun g19 => ?_) (fun g19 => ?_)
      · exact ⟨h15, (by omega), trivial⟩
      · refine wp_if (fun g20 => ?_) (fun g20 => ?_)
        · refine wp_call (t_X10_told (l1 := 0) (l2 := l2) (l3 := l3) hW (by have := gO_1_5 (rfl : kD 48 = (11, 7)) (by decide) h15; omega) (by have := gO_1_5 (rfl : kD 48 = (11, 7)) (by decide) h15; omega) (by have := gO_1_5 (rfl : kD 48 = (11, 7)) (by decide) h15; omega) h15) (fun v21 m22 hh => ?_)
          obtain ⟨h22, hr22, hp22⟩ := hh
          exact ⟨h22, (by have := gO_1_5 (rfl : kD 48 = (11, 7)) (by decide) h15; omega), trivial⟩
        · exact ⟨h15, (by have := gO_1_5 (rfl : kD 48 = (11, 7)) (by decide) h15; omega), trivial⟩
set_option maxHeartbeats 4000000 in
set_option maxRecDepth 100000 in
theorem t_X10_leastLates {W : Nat → Nat → Prop} {μs : Mm}  (hW : ∀ k j, scr k j → W k j)   {μ : Mm} (hS : St W μs μ) : wp (X10_leastLates μ) (fun r μ' => St W μs μ' ∧ (-2147483648 ≤ r ∧ r ≤ 2147483647) ∧ True) := by
  have hFU := FU_v
  unfold X10_leastLates
  refine wp_call (t_X10_told (l1 := 0) (l2 := 0) (l3 := 1) hW (by omega) (by omega) (by omega) hS) (fun v3 m4 hh => ?_)
  obtain ⟨h4, hr4, hp4⟩ := hh
  exact ⟨h4, (by omega), trivial⟩
set_option maxHeartbeats 4000000 in
set_option maxRecDepth 100000 in
theorem t_X10_isMet {W : Nat → Nat → Prop} {μs : Mm} {l1 : Int} (hW : ∀ k j, scr k j → W k j)  (hp_l1 : -2147483648 ≤ l1 ∧ l1 ≤ 2147483647) {μ : Mm} (hS : St W μs μ) : wp (X10_isMet l1 μ) (fun r μ' => St W μs μ' ∧ (0 ≤ r ∧ r ≤ 1) ∧ True) := by
  have hFU := FU_v
  unfold X10_isMet
  refine wp_call (t_X10_latesByBook (l1 := l1) hW (by omega) hS) (fun v3 m4 hh => ?_)
  obtain ⟨h4, hr4, hp4⟩ := hh
  refine wp_if (fun g5 => ?_) (fun g5 => ?_)
  · exact ⟨h4, (by omega), trivial⟩
  · exact ⟨h4, (by omega), trivial⟩
set_option maxHeartbeats 4000000 in
set_option maxRecDepth 100000 in
theorem t_X10_met {W : Nat → Nat → Prop} {μs : Mm} {l1 : Int} {l2 : Int} (hW : ∀ k j, scr k j → W k j)  (hp_l1 : -2147483648 ≤ l1 ∧ l1 ≤ 2147483647) (hp_l2 : -2147483648 ≤ l2 ∧ l2 ≤ 2147483647) {μ : Mm} (hS : St W μs μ) : wp (X10_met l1 l2 μ) (fun r μ' => St W μs μ' ∧ (-2147483648 ≤ r ∧ r ≤ 2147483647) ∧ True) := by
  have hFU := FU_v
  unfold X10_met
  refine wp_call (t_X10_lay (l1 := l1) hW (by omega) hS) (fun v7 m8 hh => ?_)
  obtain ⟨h8, hr8, hp8⟩ := hh
  refine wp_if (fun g13 => ?_) (fun g13 => ?_)
  · exact ⟨h8, (by omega), trivial⟩
  · refine wp_if (fun g14 => ?_) (fun g14 => ?_)
    · exact ⟨h8, (by omega), trivial⟩
    · refine wp_calls (t_X1_allCues (l0 := 48)  (rfl : kD 48 = (11, 7)) h8) (fun v15 hh => ?_)
      obtain ⟨hr16, hp16⟩ := hh
      refine wp_if (fun g19 => ?_) (fun g19 => ?_)
      · refine wp_call (t_X10_isMet (l1 := l2) hW (by omega) h8) (fun v20 m21 hh => ?_)
        obtain ⟨h21, hr21, hp21⟩ := hh
        refine wp_if (fun g22 => ?_) (fun g22 => ?_)
        · exact ⟨h21, (by omega), trivial⟩
        · exact ⟨h21, (by omega), trivial⟩
      · exact ⟨h8, (by omega), trivial⟩
set_option maxHeartbeats 4000000 in
set_option maxRecDepth 100000 in
theorem t_J6_bitCount_0f7a4 {W : Nat → Nat → Prop} {μs : Mm} {l0 : Int}  (hp_l0 : -2147483648 ≤ l0 ∧ l0 ≤ 2147483647) {μ : Mm} (hS : St W μs μ) : wp (J6_bitCount_0f7a4 l0 μ) (fun r μ' => μ' = μ ∧ (-2147483648 ≤ r ∧ r ≤ 2147483647) ∧ True) := by
  have hFU := FU_v
  unfold J6_bitCount_0f7a4
  refine wp_ltv (fun v6 q7 => ?_)
  refine wp_ltv (fun v12 q13 => ?_)
  refine wp_ltv (fun v17 q18 => ?_)
  refine wp_ltv (fun v21 q22 => ?_)
  refine wp_ltv (fun v24 q25 => ?_)
  exact ⟨rfl, (by have := bA_r v24 63; have := bU_r l0 1; have := bA_r (bU l0 1) 1431655765; have := iS_c l0 (bA (bU l0 1) 1431655765); have := bA_r v6 858993459; have := bU_r v6 2; have := bA_r (bU v6 2) 858993459; have := iA_c (bA v6 858993459) (bA (bU v6 2) 858993459); have := bU_r v12 4; have := iA_c v12 (bU v12 4); have := bA_r (iA v12 (bU v12 4)) 252645135; have := bU_r v17 8; have := iA_c v17 (bU v17 8); have := bU_r v21 16; have := iA_c v21 (bU v21 16); omega), trivial⟩
set_option maxHeartbeats 4000000 in
set_option maxRecDepth 100000 in
theorem t_X10_knot_L18 {W : Nat → Nat → Prop} {μs : Mm}  (hW : ∀ k j, scr k j → W k j)   {Q : Int → Mm → Prop} (hQ : ∀ r μ, St W μs μ → (-2147483648 ≤ r ∧ r ≤ 2147483647) → True → Q r μ) : ∀ (n : Nat) {l2 l3 l4 : Int} {μ : Mm}, St W μs μ → (-2147483648 ≤ l2 ∧ l2 ≤ 2147483647) → (-2147483648 ≤ l3 ∧ l3 ≤ 2147483647) → (1 ≤ l4 ∧ l4 ≤ 256) → True → 256 - l4 + 1 ≤ ((n : Nat) : Int) → wp (X10_knot_L18 n l2 l3 l4 μ) Q := by
  have hFU := FU_v
  intro n
  induction n with
  | zero => intro l2 l3 l4 μ hS hv_l2 hv_l3 hv_l4 hi hm; exact absurd hm (by  have : ((0 : Nat) : Int) = 0 := rfl; omega)
  | succ n ih =>
    intro l2 l3 l4 μ hS hv_l2 hv_l3 hv_l4 hi hm
    have hn1 : ((n + 1 : Nat) : Int) = ((n : Nat) : Int) + 1 := rfl
    rw [X10_knot_L18]
    refine wp_calls (t_X1_allCues (l0 := 48)  (rfl : kD 48 = (11, 7)) hS) (fun v13 hh => ?_)
    obtain ⟨hr14, hp14⟩ := hh
    refine wp_if (fun g19 => ?_) (fun g19 => ?_)
    · exact hQ _ _ hS (by omega) trivial
    · refine wp_calls (t_J6_bitCount_0f7a4 (l0 := l4)  (by omega) hS) (fun v20 hh => ?_)
      obtain ⟨hr21, hp21⟩ := hh
      refine wp_if (fun g24 => ?_) (fun g24 => ?_)
      · exact ih hS (by omega) (by omega) (by have := iA_c l4 1; omega) trivial (by have := iA_c l4 1; omega)
      · refine wp_call (t_X10_isMet (l1 := l4) hW (by omega) hS) (fun v25 m26 hh => ?_)
        obtain ⟨h26, hr26, hp26⟩ := hh
        refine wp_if (fun g27 => ?_) (fun g27 => ?_)
        · exact ih h26 (by omega) (by omega) (by have := iA_c l4 1; omega) trivial (by have := iA_c l4 1; omega)
        · exact ih h26 (by omega) (by omega) (by have := iA_c l4 1; omega) trivial (by have := iA_c l4 1; omega)
set_option maxHeartbeats 4000000 in
set_option maxRecDepth 100000 in
theorem t_X10_knot {W : Nat → Nat → Prop} {μs : Mm} {l1 : Int} (hW : ∀ k j, scr k j → W k j)  (hp_l1 : -2147483648 ≤ l1 ∧ l1 ≤ 2147483647) {μ : Mm} (hS : St W μs μ) : wp (X10_knot l1 μ) (fun r μ' => St W μs μ' ∧ (-2147483648 ≤ r ∧ r ≤ 2147483647) ∧ True) := by
  have hFU := FU_v
  unfold X10_knot
  refine wp_call (t_X10_lay (l1 := l1) hW (by omega) hS) (fun v3 m4 hh => ?_)
  obtain ⟨h4, hr4, hp4⟩ := hh
  refine wp_if (fun g5 => ?_) (fun g5 => ?_)
  · exact ⟨h4, (by omega), trivial⟩
  · exact t_X10_knot_L18 (l2 := (-1)) (l3 := 9) (l4 := 1) hW  (fun r_ m_ h_ hr_ hp_ => by exact ⟨h_, (by omega), trivial⟩) FU h4 (by omega) (by omega) (by omega) trivial (by omega)
set_option maxHeartbeats 4000000 in
set_option maxRecDepth 100000 in
theorem t_X10_ageOfJob_L3 {W : Nat → Nat → Prop} {μs : Mm}  (hW : ∀ k j, scr k j → W k j)   {Q : Int → Mm → Prop} (hQ : ∀ r μ, St W μs μ → (-2147483648 ≤ r ∧ r ≤ 2147483647) → True → Q r μ) : ∀ (n : Nat) {l1 : Int} {μ : Mm}, St W μs μ → (0 ≤ l1 ∧ l1 ≤ 9) → True → l1 + 1 ≤ ((n : Nat) : Int) → wp (X10_ageOfJob_L3 n l1 μ) Q := by
  have hFU := FU_v
  intro n
  induction n with
  | zero => intro l1 μ hS hv_l1 hi hm; exact absurd hm (by  have : ((0 : Nat) : Int) = 0 := rfl; omega)
  | succ n ih =>
    intro l1 μ hS hv_l1 hi hm
    have hn1 : ((n + 1 : Nat) : Int) = ((n : Nat) : Int) + 1 := rfl
    rw [X10_ageOfJob_L3]
    refine wp_if (fun g11 => ?_) (fun g11 => ?_)
    · exact hQ _ _ hS (by omega) trivial
    · refine wp_sFv (P := St W μs) (pO_1_6 (rfl : kD 48 = (11, 7)) hS (hW _ _ (by unfold scr; omega)) (by omega)) (fun m12 h12 he12 => ?_)
      refine wp_calls (t_X1_allCues (l0 := 48)  (rfl : kD 48 = (11, 7)) h12) (fun v17 hh => ?_)
      obtain ⟨hr18, hp18⟩ := hh
      refine wp_call (t_X10_isMet (l1 := v17) hW (by omega) h12) (fun v21 m22 hh => ?_)
      obtain ⟨h22, hr22, hp22⟩ := hh
      refine wp_if (fun g23 => ?_) (fun g23 => ?_)
      · exact ih h22 (by have := iA_c l1 (-1); omega) trivial (by have := iA_c l1 (-1); omega)
      · exact hQ _ _ h22 (by omega) trivial
set_option maxHeartbeats 4000000 in
set_option maxRecDepth 100000 in
theorem t_X10_ageOfJob {W : Nat → Nat → Prop} {μs : Mm}  (hW : ∀ k j, scr k j → W k j)   {μ : Mm} (hS : St W μs μ) : wp (X10_ageOfJob μ) (fun r μ' => St W μs μ' ∧ (-2147483648 ≤ r ∧ r ≤ 2147483647) ∧ True) := by
  have hFU := FU_v
  unfold X10_ageOfJob
  exact t_X10_ageOfJob_L3 (l1 := 9) hW  (fun r_ m_ h_ hr_ hp_ => by exact ⟨h_, (by omega), trivial⟩) FU hS (by omega) trivial (by omega)
set_option maxHeartbeats 4000000 in
set_option maxRecDepth 100000 in
theorem t_X10_age {W : Nat → Nat → Prop} {μs : Mm} {l1 : Int} (hW : ∀ k j, scr k j → W k j)  (hp_l1 : -2147483648 ≤ l1 ∧ l1 ≤ 2147483647) {μ : Mm} (hS : St W μs μ) : wp (X10_age l1 μ) (fun r μ' => St W μs μ' ∧ (-2147483648 ≤ r ∧ r ≤ 2147483647) ∧ True) := by
  have hFU := FU_v
  unfold X10_age
  refine wp_call (t_X10_lay (l1 := l1) hW (by omega) hS) (fun v5 m6 hh => ?_)
  obtain ⟨h6, hr6, hp6⟩ := hh
  refine wp_if (fun g9 => ?_) (fun g9 => ?_)
  · exact ⟨h6, (by omega), trivial⟩
  · refine wp_call (t_X10_ageOfJob hW  h6) (fun v10 m11 hh => ?_)
    obtain ⟨h11, hr11, hp11⟩ := hh
    exact ⟨h11, (by omega), trivial⟩
set_option maxHeartbeats 4000000 in
set_option maxRecDepth 100000 in
theorem t_X10_first_L7 {W : Nat → Nat → Prop} {μs : Mm}  (hW : ∀ k j, scr k j → W k j)   {Q : Int → Mm → Prop} (hQ : ∀ r μ, St W μs μ → (-2147483648 ≤ r ∧ r ≤ 2147483647) → True → Q r μ) : ∀ (n : Nat) {l1 l2 l3 : Int} {μ : Mm}, St W μs μ → (-2147483648 ≤ l1 ∧ l1 ≤ 2147483647) → (-2147483648 ≤ l2 ∧ l2 ≤ 2147483647) → (0 ≤ l3 ∧ l3 ≤ 5) → True → 5 - l3 + 1 ≤ ((n : Nat) : Int) → wp (X10_first_L7 n l1 l2 l3 μ) Q := by
  have hFU := FU_v
  intro n
  induction n with
  | zero => intro l1 l2 l3 μ hS hv_l1 hv_l2 hv_l3 hi hm; exact absurd hm (by  have : ((0 : Nat) : Int) = 0 := rfl; omega)
  | succ n ih =>
    intro l1 l2 l3 μ hS hv_l1 hv_l2 hv_l3 hi hm
    have hn1 : ((n + 1 : Nat) : Int) = ((n : Nat) : Int) + 1 := rfl
    rw [X10_first_L7]
    refine wp_if (fun g25 => ?_) (fun g25 => ?_)
    · exact hQ _ _ hS (by have := gO_10_15 (rfl : kD 0 = (20, 18)) (by decide) hS; omega) trivial
    · refine wp_call (t_X10_lay (l1 := l3) hW (by have := gO_10_15 (rfl : kD 0 = (20, 18)) (by decide) hS; omega) hS) (fun v26 m27 hh => ?_)
      obtain ⟨h27, hr27, hp27⟩ := hh
      refine wp_if (fun g38 => ?_) (fun g38 => ?_)
      · unfold X10_first_J31
        try dsimp only
        refine wp_if (fun g39 => ?_) (fun g39 => ?_)
        · exact ih h27 (by have := gO_10_15 (rfl : kD 0 = (20, 18)) (by decide) hS; omega) (by have := gO_10_15 (rfl : kD 0 = (20, 18)) (by decide) hS; omega) (by have := iA_c l3 1; have := gO_10_15 (rfl : kD 0 = (20, 18)) (by decide) hS; omega) trivial (by have := iA_c l3 1; have := gO_10_15 (rfl : kD 0 = (20, 18)) (by decide) hS; omega)
        · refine wp_if (fun g40 => ?_) (fun g40 => ?_)
          · exact ih h27 (by have := gO_10_15 (rfl : kD 0 = (20, 18)) (by decide) hS; omega) (by have := gO_10_15 (rfl : kD 0 = (20, 18)) (by decide) hS; omega) (by have := iA_c l3 1; have := gO_10_15 (rfl : kD 0 = (20, 18)) (by decide) hS; omega) trivial (by have := iA_c l3 1; have := gO_10_15 (rfl : kD 0 = (20, 18)) (by decide) hS; omega)
          · exact ih h27 (by have := gO_10_15 (rfl : kD 0 = (20, 18)) (by decide) hS; omega) (by have := gO_10_15 (rfl : kD 0 = (20, 18)) (by decide) hS; omega) (by have := iA_c l3 1; have := gO_10_15 (rfl : kD 0 = (20, 18)) (by decide) hS; omega) trivial (by have := iA_c l3 1; have := gO_10_15 (rfl : kD 0 = (20, 18)) (by decide) hS; omega)
      · refine wp_call (t_X10_ageOfJob hW  h27) (fun v41 m42 hh => ?_)
        obtain ⟨h42, hr42, hp42⟩ := hh
        unfold X10_first_J31
        try dsimp only
        refine wp_if (fun g47 => ?_) (fun g47 => ?_)
        · exact ih h42 (by have := gO_10_15 (rfl : kD 0 = (20, 18)) (by decide) hS; omega) (by have := gO_10_15 (rfl : kD 0 = (20, 18)) (by decide) hS; omega) (by have := iA_c l3 1; have := gO_10_15 (rfl : kD 0 = (20, 18)) (by decide) hS; omega) trivial (by have := iA_c l3 1; have := gO_10_15 (rfl : kD 0 = (20, 18)) (by decide) hS; omega)
        · refine wp_if (fun g48 => ?_) (fun g48 => ?_)
          · exact ih h42 (by have := gO_10_15 (rfl : kD 0 = (20, 18)) (by decide) hS; omega) (by have := gO_10_15 (rfl : kD 0 = (20, 18)) (by decide) hS; omega) (by have := iA_c l3 1; have := gO_10_15 (rfl : kD 0 = (20, 18)) (by decide) hS; omega) trivial (by have := iA_c l3 1; have := gO_10_15 (rfl : kD 0 = (20, 18)) (by decide) hS; omega)
          · exact ih h42 (by have := gO_10_15 (rfl : kD 0 = (20, 18)) (by decide) hS; omega) (by have := gO_10_15 (rfl : kD 0 = (20, 18)) (by decide) hS; omega) (by have := iA_c l3 1; have := gO_10_15 (rfl : kD 0 = (20, 18)) (by decide) hS; omega) trivial (by have := iA_c l3 1; have := gO_10_15 (rfl : kD 0 = (20, 18)) (by decide) hS; omega)
set_option maxHeartbeats 4000000 in
set_option maxRecDepth 100000 in
theorem t_X10_first {W : Nat → Nat → Prop} {μs : Mm}  (hW : ∀ k j, scr k j → W k j)   {μ : Mm} (hS : St W μs μ) : wp (X10_first μ) (fun r μ' => St W μs μ' ∧ (-2147483648 ≤ r ∧ r ≤ 2147483647) ∧ True) := by
  have hFU := FU_v
  unfold X10_first
  exact t_X10_first_L7 (l1 := (-1)) (l2 := 10) (l3 := 0) hW  (fun r_ m_ h_ hr_ hp_ => by exact ⟨h_, (by omega), trivial⟩) FU hS (by omega) (by omega) (by omega) trivial (by omega)
set_option maxHeartbeats 4000000 in
set_option maxRecDepth 100000 in
theorem t_X10_leastInTrial {W : Nat → Nat → Prop} {μs : Mm} {l1 : Int} (hW : ∀ k j, scr k j → W k j)  (hp_l1 : 0 ≤ l1 ∧ l1 ≤ 4) {μ : Mm} (hS : St W μs μ) : wp (X10_leastInTrial l1 μ) (fun r μ' => St W μs μ' ∧ (-2147483648 ≤ r ∧ r ≤ 2147483647) ∧ True) := by
  have hFU := FU_v
  unfold X10_leastInTrial
  have hi8 : 0 ≤ l1 ∧ l1 < ((aN 17 : Nat) : Int) := (by show _ ∧ _ < (5 : Int); omega)
  refine wp_aLv hi8 (fun v6 q7 => ?_)
  have hkv6 : kD v6 = (13, 3) := by rw [q7]; exact kA17 hi8
  have hbv6 := kPr' hkv6
  refine wp_call (t_X1_prepare (l0 := 48) (l1 := 13) (l2 := v6) hW (rfl : kD 48 = (11, 7)) (rfl : kD 13 = (10, 9)) hkv6 hS) (fun v13 m14 hh => ?_)
  obtain ⟨h14, hr14, hp14⟩ := hh
  refine wp_call (t_X10_leastLates hW  h14) (fun v17 m18 hh => ?_)
  obtain ⟨h18, hr18, hp18⟩ := hh
  exact ⟨h18, (by omega), trivial⟩
set_option maxHeartbeats 4000000 in
set_option maxRecDepth 100000 in
theorem t_X10_post_L25 {W : Nat → Nat → Prop} {μs : Mm} {l1 : Int} {l2 : Int} (hW : ∀ k j, scr k j → W k j)  (hp_l1 : 0 ≤ l1 ∧ l1 ≤ 4) (hp_l2 : -2147483648 ≤ l2 ∧ l2 ≤ 2147483647) {k98 : Int → Int → Mm → Rs} {Q : Int → Mm → Prop} (hk_k98 : ∀ (a0 a1 : Int) (μ : Mm), St W μs μ → (-2147483648 ≤ a0 ∧ a0 ≤ 2147483647) → (-2147483648 ≤ a1 ∧ a1 ≤ 2147483647) → True → wp (k98 a0 a1 μ) Q) : ∀ (n : Nat) {l3 l4 l5 : Int} {μ : Mm}, St W μs μ → (-2147483648 ≤ l3 ∧ l3 ≤ 2147483647) → (-2147483648 ≤ l4 ∧ l4 ≤ 2147483647) → (0 ≤ l5 ∧ l5 ≤ 60) → True → 60 - l5 + 1 ≤ ((n : Nat) : Int) → wp (X10_post_L25 l1 l2 k98 n l3 l4 l5 μ) Q := by
  have hFU := FU_v
  intro n
  induction n with
  | zero => intro l3 l4 l5 μ hS hv_l3 hv_l4 hv_l5 hi hm; exact absurd hm (by  have : ((0 : Nat) : Int) = 0 := rfl; omega)
  | succ n ih =>
    intro l3 l4 l5 μ hS hv_l3 hv_l4 hv_l5 hi hm
    have hn1 : ((n + 1 : Nat) : Int) = ((n : Nat) : Int) + 1 := rfl
    rw [X10_post_L25]
    refine wp_if (fun g29 => ?_) (fun g29 => ?_)
    · exact hk_k98 l3 l4 μ hS (by omega) (by omega) trivial
    · refine wp_call (t_X0_copy (l0 := 13) (l1 := 5) hW (fun _ _ _ _ => hW _ _ (by unfold scr; omega)) (rfl : kD 13 = (10, 9)) (rfl : kD 5 = (10, 9)) hS) (fun v30 m31 hh => ?_)
      obtain ⟨h31, hr31, hp31⟩ := hh
      refine wp_call (t_X0_takePost (l0 := 13) (l1 := l5) hW (fun _ _ _ _ => hW _ _ (by unfold scr; omega)) (rfl : kD 13 = (10, 9)) (by omega) h31) (fun v44 m45 hh => ?_)
      obtain ⟨h45, hr45, hp45⟩ := hh
      refine wp_if (fun g56 => ?_) (fun g56 => ?_)
      · unfold X10_post_J64
        try dsimp only
        refine wp_if (fun g57 => ?_) (fun g57 => ?_)
        · exact ih h45 (by omega) (by omega) (by have := iA_c l5 1; omega) trivial (by have := iA_c l5 1; omega)
        · refine wp_if (fun g58 => ?_) (fun g58 => ?_)
          · exact ih h45 (by omega) (by omega) (by have := iA_c l5 1; omega) trivial (by have := iA_c l5 1; omega)
          · refine wp_if (fun g59 => ?_) (fun g59 => ?_)
            · exact ih h45 (by omega) (by omega) (by have := iA_c l5 1; omega) trivial (by have := iA_c l5 1; omega)
            · exact ih h45 (by omega) (by omega) (by have := iA_c l5 1; omega) trivial (by have := iA_c l5 1; omega)
      · refine wp_call (t_X10_leastInTrial (l1 := l1) hW (by omega) h45) (fun v60 m61 hh => ?_)
        obtain ⟨h61, hr61, hp61⟩ := hh
        unfold X10_post_J64
        try dsimp only
        refine wp_if (fun g66 => ?_) (fun g66 => ?_)
        · exact ih h61 (by omega) (by omega) (by have := iA_c l5 1; omega) trivial (by have := iA_c l5 1; omega)
        · refine wp_if (fun g67 => ?_) (fun g67 => ?_)
          · exact ih h61 (by omega) (by omega) (by have := iA_c l5 1; omega) trivial (by have := iA_c l5 1; omega)
          · refine wp_if (fun g68 => ?_) (fun g68 => ?_)
            · exact ih h61 (by omega) (by omega) (by have := iA_c l5 1; omega) trivial (by have := iA_c l5 1; omega)
            · exact ih h61 (by omega) (by omega) (by have := iA_c l5 1; omega) trivial (by have := iA_c l5 1; omega)
set_option maxHeartbeats 4000000 in
set_option maxRecDepth 100000 in
theorem t_X10_post {W : Nat → Nat → Prop} {μs : Mm} {l1 : Int} {l2 : Int} (hW : ∀ k j, scr k j → W k j)  (hp_l1 : -2147483648 ≤ l1 ∧ l1 ≤ 2147483647) (hp_l2 : -2147483648 ≤ l2 ∧ l2 ≤ 2147483647) {μ : Mm} (hS : St W μs μ) : wp (X10_post l1 l2 μ) (fun r μ' => St W μs μ' ∧ (-2147483648 ≤ r ∧ r ≤ 2147483647) ∧ True) := by
  have hFU := FU_v
  unfold X10_post
  refine wp_calls (t_X10_isHalf (l0 := l2)  (by omega) hS) (fun v8 hh => ?_)
  obtain ⟨hr9, hp9⟩ := hh
  refine wp_if (fun g15 => ?_) (fun g15 => ?_)
  · exact ⟨hS, (by omega), trivial⟩
  · refine wp_call (t_X10_lay (l1 := l1) hW (by omega) hS) (fun v16 m17 hh => ?_)
    obtain ⟨h17, hr17, hp17⟩ := hh
    refine wp_if (fun g21 => ?_) (fun g21 => ?_)
    · exact ⟨h17, (by omega), trivial⟩
    · refine t_X10_post_L25 (l1 := l1) (l2 := l2) (l3 := (-1)) (l4 := (-1)) (l5 := 0) hW (by omega) (by omega) (fun v22 v23 m24 h24 hrv22 hrv23 hp24 => ?_) FU h17 (by omega) (by omega) (by omega) trivial (by omega)
      refine wp_if (fun g25 => ?_) (fun g25 => ?_)
      · exact ⟨h24, (by omega), trivial⟩
      · exact ⟨h24, (by omega), trivial⟩
set_option maxHeartbeats 4000000 in
set_option maxRecDepth 100000 in
theorem t_X10_rope_L25 {W : Nat → Nat → Prop} {μs : Mm} {l1 : Int} {l2 : Int} (hW : ∀ k j, scr k j → W k j)  (hp_l1 : 0 ≤ l1 ∧ l1 ≤ 4) (hp_l2 : -2147483648 ≤ l2 ∧ l2 ≤ 2147483647) {k98 : Int → Int → Mm → Rs} {Q : Int → Mm → Prop} (hk_k98 : ∀ (a0 a1 : Int) (μ : Mm), St W μs μ → (-2147483648 ≤ a0 ∧ a0 ≤ 2147483647) → (-2147483648 ≤ a1 ∧ a1 ≤ 2147483647) → True → wp (k98 a0 a1 μ) Q) : ∀ (n : Nat) {l3 l4 l5 : Int} {μ : Mm}, St W μs μ → (-2147483648 ≤ l3 ∧ l3 ≤ 2147483647) → (-2147483648 ≤ l4 ∧ l4 ≤ 2147483647) → (0 ≤ l5 ∧ l5 ≤ 8) → True → 8 - l5 + 1 ≤ ((n : Nat) : Int) → wp (X10_rope_L25 l1 l2 k98 n l3 l4 l5 μ) Q := by
  have hFU := FU_v
  intro n
  induction n with
  | zero => intro l3 l4 l5 μ hS hv_l3 hv_l4 hv_l5 hi hm; exact absurd hm (by  have : ((0 : Nat) : Int) = 0 := rfl; omega)
  | succ n ih =>
    intro l3 l4 l5 μ hS hv_l3 hv_l4 hv_l5 hi hm
    have hn1 : ((n + 1 : Nat) : Int) = ((n : Nat) : Int) + 1 := rfl
    rw [X10_rope_L25]
    refine wp_if (fun g29 => ?_) (fun g29 => ?_)
    · exact hk_k98 l3 l4 μ hS (by omega) (by omega) trivial
    · refine wp_call (t_X0_copy (l0 := 13) (l1 := 5) hW (fun _ _ _ _ => hW _ _ (by unfold scr; omega)) (rfl : kD 13 = (10, 9)) (rfl : kD 5 = (10, 9)) hS) (fun v30 m31 hh => ?_)
      obtain ⟨h31, hr31, hp31⟩ := hh
      refine wp_call (t_X0_halveWind (l0 := 13) (l1 := l5) hW (fun _ _ _ _ => hW _ _ (by unfold scr; omega)) (rfl : kD 13 = (10, 9)) (by omega) h31) (fun v44 m45 hh => ?_)
      obtain ⟨h45, hr45, hp45⟩ := hh
      refine wp_if (fun g56 => ?_) (fun g56 => ?_)
      · unfold X10_rope_J64
        try dsimp only
        refine wp_if (fun g57 => ?_) (fun g57 => ?_)
        · exact ih h45 (by omega) (by omega) (by have := iA_c l5 1; omega) trivial (by have := iA_c l5 1; omega)
        · refine wp_if (fun g58 => ?_) (fun g58 => ?_)
          · exact ih h45 (by omega) (by omega) (by have := iA_c l5 1; omega) trivial (by have := iA_c l5 1; omega)
          · refine wp_if (fun g59 => ?_) (fun g59 => ?_)
            · exact ih h45 (by omega) (by omega) (by have := iA_c l5 1; omega) trivial (by have := iA_c l5 1; omega)
            · exact ih h45 (by omega) (by omega) (by have := iA_c l5 1; omega) trivial (by have := iA_c l5 1; omega)
      · refine wp_call (t_X10_leastInTrial (l1 := l1) hW (by omega) h45) (fun v60 m61 hh => ?_)
        obtain ⟨h61, hr61, hp61⟩ := hh
        unfold X10_rope_J64
        try dsimp only
        refine wp_if (fun g66 => ?_) (fun g66 => ?_)
        · exact ih h61 (by omega) (by omega) (by have := iA_c l5 1; omega) trivial (by have := iA_c l5 1; omega)
        · refine wp_if (fun g67 => ?_) (fun g67 => ?_)
          · exact ih h61 (by omega) (by omega) (by have := iA_c l5 1; omega) trivial (by have := iA_c l5 1; omega)
          · refine wp_if (fun g68 => ?_) (fun g68 => ?_)
            · exact ih h61 (by omega) (by omega) (by have := iA_c l5 1; omega) trivial (by have := iA_c l5 1; omega)
            · exact ih h61 (by omega) (by omega) (by have := iA_c l5 1; omega) trivial (by have := iA_c l5 1; omega)
set_option maxHeartbeats 4000000 in
set_option maxRecDepth 100000 in
theorem t_X10_rope {W : Nat → Nat → Prop} {μs : Mm} {l1 : Int} {l2 : Int} (hW : ∀ k j, scr k j → W k j)  (hp_l1 : -2147483648 ≤ l1 ∧ l1 ≤ 2147483647) (hp_l2 : -2147483648 ≤ l2 ∧ l2 ≤ 2147483647) {μ : Mm} (hS : St W μs μ) : wp (X10_rope l1 l2 μ) (fun r μ' => St W μs μ' ∧ (-2147483648 ≤ r ∧ r ≤ 2147483647) ∧ True) := by
  have hFU := FU_v
  unfold X10_rope
  refine wp_calls (t_X10_isHalf (l0 := l2)  (by omega) hS) (fun v8 hh => ?_)
  obtain ⟨hr9, hp9⟩ := hh
  refine wp_if (fun g15 => ?_) (fun g15 => ?_)
  · exact ⟨hS, (by omega), trivial⟩
  · refine wp_call (t_X10_lay (l1 := l1) hW (by omega) hS) (fun v16 m17 hh => ?_)
    obtain ⟨h17, hr17, hp17⟩ := hh
    refine wp_if (fun g21 => ?_) (fun g21 => ?_)
    · exact ⟨h17, (by omega), trivial⟩
    · refine t_X10_rope_L25 (l1 := l1) (l2 := l2) (l3 := (-1)) (l4 := (-1)) (l5 := 0) hW (by omega) (by omega) (fun v22 v23 m24 h24 hrv22 hrv23 hp24 => ?_) FU h17 (by omega) (by omega) (by omega) trivial (by omega)
      refine wp_if (fun g25 => ?_) (fun g25 => ?_)
      · exact ⟨h24, (by omega), trivial⟩
      · exact ⟨h24, (by omega), trivial⟩
set_option maxHeartbeats 4000000 in
set_option maxRecDepth 100000 in
theorem t_X10_leastTogether {W : Nat → Nat → Prop} {μs : Mm} {l1 : Int} {l2 : Int} (hW : ∀ k j, scr k j → W k j)  (hp_l1 : 0 ≤ l1 ∧ l1 ≤ 4) (hp_l2 : 0 ≤ l2 ∧ l2 ≤ 4) {μ : Mm} (hS : St W μs μ) : wp (X10_leastTogether l1 l2 μ) (fun r μ' => St W μs μ' ∧ (-2147483648 ≤ r ∧ r ≤ 2147483647) ∧ True) := by
  have hFU := FU_v
  unfold X10_leastTogether
  have hi23 : 0 ≤ l1 ∧ l1 < ((aN 17 : Nat) : Int) := (by show _ ∧ _ < (5 : Int); omega)
  refine wp_aLv hi23 (fun v21 q22 => ?_)
  have hkv21 : kD v21 = (13, 3) := by rw [q22]; exact kA17 hi23
  have hbv21 := kPr' hkv21
  refine wp_call (t_X1_prepare (l0 := 48) (l1 := 13) (l2 := v21) hW (rfl : kD 48 = (11, 7)) (rfl : kD 13 = (10, 9)) hkv21 hS) (fun v43 m44 hh => ?_)
  obtain ⟨h44, hr44, hp44⟩ := hh
  have hi64 : 0 ≤ l1 ∧ l1 < ((aN 17 : Nat) : Int) := (by show _ ∧ _ < (5 : Int); omega)
  refine wp_aLv hi64 (fun v62 q63 => ?_)
  have hkv62 : kD v62 = (13, 3) := by rw [q63]; exact kA17 hi64
  have hbv62 := kPr' hkv62
  refine wp_calls (t_X10_lawThatHolds   h44) (fun v81 hh => ?_)
  obtain ⟨hr82, hp82⟩ := hh
  refine wp_call (t_X2_fillTimes (l1 := v62) (l2 := v81) (l3 := (m44 5 8)) hW hkv62 hp82 (by have := gO_0_8 (rfl : kD 5 = (10, 9)) (by decide) h44; omega) h44) (fun v97 m98 hh => ?_)
  obtain ⟨h98, hr98, hp98⟩ := hh
  refine wp_call (t_X10_leastLates hW  h98) (fun v111 m112 hh => ?_)
  obtain ⟨h112, hr112, hp112⟩ := hh
  have hi125 : 0 ≤ l2 ∧ l2 < ((aN 17 : Nat) : Int) := (by show _ ∧ _ < (5 : Int); omega)
  refine wp_aLv hi125 (fun v123 q124 => ?_)
  have hkv123 : kD v123 = (13, 3) := by rw [q124]; exact kA17 hi125
  have hbv123 := kPr' hkv123
  refine wp_call (t_X1_prepare (l0 := 48) (l1 := 13) (l2 := v123) hW (rfl : kD 48 = (11, 7)) (rfl : kD 13 = (10, 9)) hkv123 h112) (fun v135 m136 hh => ?_)
  obtain ⟨h136, hr136, hp136⟩ := hh
  have hi146 : 0 ≤ l2 ∧ l2 < ((aN 17 : Nat) : Int) := (by show _ ∧ _ < (5 : Int); omega)
  refine wp_aLv hi146 (fun v144 q145 => ?_)
  have hkv144 : kD v144 = (13, 3) := by rw [q145]; exact kA17 hi146
  have hbv144 := kPr' hkv144
  refine wp_calls (t_X10_lawThatHolds   h136) (fun v153 hh => ?_)
  obtain ⟨hr154, hp154⟩ := hh
  refine wp_call (t_X2_fillTimes (l1 := v144) (l2 := v153) (l3 := (m136 5 8)) hW hkv144 hp154 (by have := gO_0_8 (rfl : kD 5 = (10, 9)) (by decide) h136; omega) h136) (fun v159 m160 hh => ?_)
  obtain ⟨h160, hr160, hp160⟩ := hh
  refine wp_call (t_X10_leastLates hW  h160) (fun v163 m164 hh => ?_)
  obtain ⟨h164, hr164, hp164⟩ := hh
  refine wp_if (fun g165 => ?_) (fun g165 => ?_)
  · exact ⟨h164, (by omega), trivial⟩
  · refine wp_if (fun g166 => ?_) (fun g166 => ?_)
    · exact ⟨h164, (by omega), trivial⟩
    · exact ⟨h164, (by have := iA_c v111 v163; omega), trivial⟩
set_option maxHeartbeats 4000000 in
set_option maxRecDepth 100000 in
theorem t_X10_exchange_L55 {W : Nat → Nat → Prop} {μs : Mm} {l1 : Int} {l2 : Int} {l3 : Int} (hW : ∀ k j, scr k j → W k j)  (hp_l1 : 0 ≤ l1 ∧ l1 ≤ 4) (hp_l2 : 0 ≤ l2 ∧ l2 ≤ 4) (hp_l3 : -2147483648 ≤ l3 ∧ l3 ≤ 2147483647) {k159 : Int → Int → Mm → Rs} {Q : Int → Mm → Prop} (hk_k159 : ∀ (a0 a1 : Int) (μ : Mm), St W μs μ → (-2147483648 ≤ a0 ∧ a0 ≤ 2147483647) → (-2147483648 ≤ a1 ∧ a1 ≤ 2147483647) → True → wp (k159 a0 a1 μ) Q) : ∀ (n : Nat) {l4 l5 l6 : Int} {μ : Mm}, St W μs μ → (-2147483648 ≤ l4 ∧ l4 ≤ 2147483647) → (-2147483648 ≤ l5 ∧ l5 ≤ 2147483647) → (0 ≤ l6 ∧ l6 ≤ 64) → True → 64 - l6 + 1 ≤ ((n : Nat) : Int) → wp (X10_exchange_L55 l1 l2 l3 k159 n l4 l5 l6 μ) Q := by
  have hFU := FU_v
  intro n
  induction n with
  | zero => intro l4 l5 l6 μ hS hv_l4 hv_l5 hv_l6 hi hm; exact absurd hm (by  have : ((0 : Nat) : Int) = 0 := rfl; omega)
  | succ n ih =>
    intro l4 l5 l6 μ hS hv_l4 hv_l5 hv_l6 hi hm
    have hn1 : ((n + 1 : Nat) : Int) = ((n : Nat) : Int) + 1 := rfl
    rw [X10_exchange_L55]
    refine wp_if (fun g75 => ?_) (fun g75 => ?_)
    · exact hk_k159 l4 l5 μ hS (by omega) (by omega) trivial
    · refine wp_call (t_X0_copy (l0 := 13) (l1 := 5) hW (fun _ _ _ _ => hW _ _ (by unfold scr; omega)) (rfl : kD 13 = (10, 9)) (rfl : kD 5 = (10, 9)) hS) (fun v76 m77 hh => ?_)
      obtain ⟨h77, hr77, hp77⟩ := hh
      refine wp_if (fun g94 => ?_) (fun g94 => ?_)
      · unfold X10_exchange_J117
        try dsimp only
        unfold X10_exchange_J118
        try dsimp only
        refine wp_if (fun g107 => ?_) (fun g107 => ?_)
        · exact ih h77 (by have := iR_r l6 8; have := iD_r l6 8; omega) (by have := iR_r l6 8; have := iD_r l6 8; omega) (by have := iA_c l6 1; have := iR_r l6 8; have := iD_r l6 8; omega) trivial (by have := iA_c l6 1; have := iR_r l6 8; have := iD_r l6 8; omega)
        · refine wp_if (fun g108 => ?_) (fun g108 => ?_)
          · unfold X10_exchange_J139
            try dsimp only
            refine wp_ltv (fun v110 q111 => ?_)
            exact ih h77 (by have := iR_r l6 8; have := iD_r l6 8; have := iM_c 10 (iD l6 8); have := iA_c (iM 10 (iD l6 8)) (iR l6 8); omega) (by have := iR_r l6 8; have := iD_r l6 8; have := iM_c 10 (iD l6 8); have := iA_c (iM 10 (iD l6 8)) (iR l6 8); omega) (by have := iA_c l6 1; have := iR_r l6 8; have := iD_r l6 8; have := iM_c 10 (iD l6 8); have := iA_c (iM 10 (iD l6 8)) (iR l6 8); omega) trivial (by have := iA_c l6 1; have := iR_r l6 8; have := iD_r l6 8; have := iM_c 10 (iD l6 8); have := iA_c (iM 10 (iD l6 8)) (iR l6 8); omega)
          · refine wp_if (fun g112 => ?_) (fun g112 => ?_)
            · exact ih h77 (by have := iR_r l6 8; have := iD_r l6 8; omega) (by have := iR_r l6 8; have := iD_r l6 8; omega) (by have := iA_c l6 1; have := iR_r l6 8; have := iD_r l6 8; omega) trivial (by have := iA_c l6 1; have := iR_r l6 8; have := iD_r l6 8; omega)
            · unfold X10_exchange_J139
              try dsimp only
              refine wp_ltv (fun v114 q115 => ?_)
              exact ih h77 (by have := iR_r l6 8; have := iD_r l6 8; have := iM_c 10 (iD l6 8); have := iA_c (iM 10 (iD l6 8)) (iR l6 8); omega) (by have := iR_r l6 8; have := iD_r l6 8; have := iM_c 10 (iD l6 8); have := iA_c (iM 10 (iD l6 8)) (iR l6 8); omega) (by have := iA_c l6 1; have := iR_r l6 8; have := iD_r l6 8; have := iM_c 10 (iD l6 8); have := iA_c (iM 10 (iD l6 8)) (iR l6 8); omega) trivial (by have := iA_c l6 1; have := iR_r l6 8; have := iD_r l6 8; have := iM_c 10 (iD l6 8); have := iA_c (iM 10 (iD l6 8)) (iR l6 8); omega)
      · refine wp_call (t_X0_exchangeCranks (l0 := 13) (l1 := (iD l6 8)) (l2 := (iR l6 8)) hW (fun _ _ _ _ => hW _ _ (by unfold scr; omega)) (rfl : kD 13 = (10, 9)) (by have := iD_r l6 8; have := iR_r l6 8; omega) (by have := iR_r l6 8; have := iD_r l6 8; omega) h77) (fun v116 m117 hh => ?_)
        obtain ⟨h117, hr117, hp117⟩ := hh
        refine wp_if (fun g128 => ?_) (fun g128 => ?_)
        · unfold X10_exchange_J117
          try dsimp only
          unfold X10_exchange_J118
          try dsimp only
          refine wp_if (fun g141 => ?_) (fun g141 => ?_)
          · exact ih h117 (by have := iR_r l6 8; have := iD_r l6 8; omega) (by have := iR_r l6 8; have := iD_r l6 8; omega) (by have := iA_c l6 1; have := iR_r l6 8; have := iD_r l6 8; omega) trivial (by have := iA_c l6 1; have := iR_r l6 8; have := iD_r l6 8; omega)
          · refine wp_if (fun g142 => ?_) (fun g142 => ?_)
            · unfold X10_exchange_J139
              try dsimp only
              refine wp_ltv (fun v144 q145 => ?_)
              exact ih h117 (by have := iR_r l6 8; have := iD_r l6 8; have := iM_c 10 (iD l6 8); have := iA_c (iM 10 (iD l6 8)) (iR l6 8); omega) (by have := iR_r l6 8; have := iD_r l6 8; have := iM_c 10 (iD l6 8); have := iA_c (iM 10 (iD l6 8)) (iR l6 8); omega) (by have := iA_c l6 1; have := iR_r l6 8; have := iD_r l6 8; have := iM_c 10 (iD l6 8); have := iA_c (iM 10 (iD l6 8)) (iR l6 8); omega) trivial (by have := iA_c l6 1; have := iR_r l6 8; have := iD_r l6 8; have := iM_c 10 (iD l6 8); have := iA_c (iM 10 (iD l6 8)) (iR l6 8); omega)
            · refine wp_if (fun g146 => ?_) (fun g146 => ?_)
              · exact ih h117 (by have := iR_r l6 8; have := iD_r l6 8; omega) (by have := iR_r l6 8; have := iD_r l6 8; omega) (by have := iA_c l6 1; have := iR_r l6 8; have := iD_r l6 8; omega) trivial (by have := iA_c l6 1; have := iR_r l6 8; have := iD_r l6 8; omega)
              · unfold X10_exchange_J139
                try dsimp only
                refine wp_ltv (fun v148 q149 => ?_)
                exact ih h117 (by have := iR_r l6 8; have := iD_r l6 8; have := iM_c 10 (iD l6 8); have := iA_c (iM 10 (iD l6 8)) (iR l6 8); omega) (by have := iR_r l6 8; have := iD_r l6 8; have := iM_c 10 (iD l6 8); have := iA_c (iM 10 (iD l6 8)) (iR l6 8); omega) (by have := iA_c l6 1; have := iR_r l6 8; have := iD_r l6 8; have := iM_c 10 (iD l6 8); have := iA_c (iM 10 (iD l6 8)) (iR l6 8); omega) trivial (by have := iA_c l6 1; have := iR_r l6 8; have := iD_r l6 8; have := iM_c 10 (iD l6 8); have := iA_c (iM 10 (iD l6 8)) (iR l6 8); omega)
        · refine wp_call (t_X10_leastTogether (l1 := l1) (l2 := l2) hW (by have := iR_r l6 8; have := iD_r l6 8; omega) (by have := iR_r l6 8; have := iD_r l6 8; omega) h117) (fun v150 m151 hh => ?_)
          obtain ⟨h151, hr151, hp151⟩ := hh
          unfold X10_exchange_J118
          try dsimp only
          refine wp_if (fun g164 => ?_) (fun g164 => ?_)
          · exact ih h151 (by have := iR_r l6 8; have := iD_r l6 8; omega) (by have := iR_r l6 8; have := iD_r l6 8; omega) (by have := iA_c l6 1; have := iR_r l6 8; have := iD_r l6 8; omega) trivial (by have := iA_c l6 1; have := iR_r l6 8; have := iD_r l6 8; omega)
          · refine wp_if (fun g165 => ?_) (fun g165 => ?_)
            · unfold X10_exchange_J139
              try dsimp only
              refine wp_ltv (fun v167 q168 => ?_)
              exact ih h151 (by have := iR_r l6 8; have := iD_r l6 8; have := iM_c 10 (iD l6 8); have := iA_c (iM 10 (iD l6 8)) (iR l6 8); omega) (by have := iR_r l6 8; have := iD_r l6 8; have := iM_c 10 (iD l6 8); have := iA_c (iM 10 (iD l6 8)) (iR l6 8); omega) (by have := iA_c l6 1; have := iR_r l6 8; have := iD_r l6 8; have := iM_c 10 (iD l6 8); have := iA_c (iM 10 (iD l6 8)) (iR l6 8); omega) trivial (by have := iA_c l6 1; have := iR_r l6 8; have := iD_r l6 8; have := iM_c 10 (iD l6 8); have := iA_c (iM 10 (iD l6 8)) (iR l6 8); omega)
            · refine wp_if (fun g169 => ?_) (fun g169 => ?_)
              · exact ih h151 (by have := iR_r l6 8; have := iD_r l6 8; omega) (by have := iR_r l6 8; have := iD_r l6 8; omega) (by have := iA_c l6 1; have := iR_r l6 8; have := iD_r l6 8; omega) trivial (by have := iA_c l6 1; have := iR_r l6 8; have := iD_r l6 8; omega)
              · unfold X10_exchange_J139
                try dsimp only
                refine wp_ltv (fun v171 q172 => ?_)
                exact ih h151 (by have := iR_r l6 8; have := iD_r l6 8; have := iM_c 10 (iD l6 8); have := iA_c (iM 10 (iD l6 8)) (iR l6 8); omega) (by have := iR_r l6 8; have := iD_r l6 8; have := iM_c 10 (iD l6 8); have := iA_c (iM 10 (iD l6 8)) (iR l6 8); omega) (by have := iA_c l6 1; have := iR_r l6 8; have := iD_r l6 8; have := iM_c 10 (iD l6 8); have := iA_c (iM 10 (iD l6 8)) (iR l6 8); omega) trivial (by have := iA_c l6 1; have := iR_r l6 8; have := iD_r l6 8; have := iM_c 10 (iD l6 8); have := iA_c (iM 10 (iD l6 8)) (iR l6 8); omega)
