/-! TOTALITY of the class, by program (wip/gen/tot.py) -/
set_option maxHeartbeats 4000000 in
set_option maxRecDepth 100000 in
theorem t_X10_runs {W : Nat → Nat → Prop} {μs : Mm} {l1 : Int} {l2 : Int} (hW : ∀ k j, scr k j → W k j)  (hp_l1 : -2147483648 ≤ l1 ∧ l1 ≤ 2147483647) (hp_l2 : -2147483648 ≤ l2 ∧ l2 ≤ 2147483647) {μ : Mm} (hS : St W μs μ) : wp (X10_runs l1 l2 μ) (fun r μ' => St W μs μ' ∧ (0 ≤ r ∧ r ≤ 1) ∧ True) := by
  have hFU := FU_v
  unfold X10_runs
  refine wp_call (t_X10_lay (l1 := l1) hW (by omega) hS) (fun v7 m8 hh => ?_)
  obtain ⟨h8, hr8, hp8⟩ := hh
  refine wp_if (fun g13 => ?_) (fun g13 => ?_)
  · exact ⟨h8, (by omega), trivial⟩
  · refine wp_call (t_X5_takeOrder (l1 := l2) (l2 := (m8 48 5)) hW (by omega) (by have := gO_1_5 (rfl : kD 48 = (11, 7)) (by decide) h8; omega) h8) (fun v14 m15 hh => ?_)
    obtain ⟨h15, hr15, hp15⟩ := hh
    refine wp_if (fun g18 => ?_) (fun g18 => ?_)
    · exact ⟨h15, (by omega), trivial⟩
    · refine wp_call (t_X5_go (l1 := 48) hW (rfl : kD 48 = (11, 7)) h15) (fun v19 m20 hh => ?_)
      obtain ⟨h20, hr20, hp20⟩ := hh
      refine wp_if (fun g21 => ?_) (fun g21 => ?_)
      · exact ⟨h20, (by omega), trivial⟩
      · exact ⟨h20, (by omega), trivial⟩
set_option maxHeartbeats 4000000 in
set_option maxRecDepth 100000 in
theorem t_X10_order {W : Nat → Nat → Prop} {μs : Mm} {l1 : Int} {l2 : Int} {l3 : Int} (hW : ∀ k j, scr k j → W k j)  (hp_l1 : -2147483648 ≤ l1 ∧ l1 ≤ 2147483647) (hp_l2 : -2147483648 ≤ l2 ∧ l2 ≤ 2147483647) (hp_l3 : -2147483648 ≤ l3 ∧ l3 ≤ 2147483647) {μ : Mm} (hS : St W μs μ) : wp (X10_order l1 l2 l3 μ) (fun r μ' => St W μs μ' ∧ (-2147483648 ≤ r ∧ r ≤ 2147483647) ∧ True) := by
  have hFU := FU_v
  unfold X10_order
  refine wp_if (fun g3 => ?_) (fun g3 => ?_)
  · exact ⟨hS, (by omega), trivial⟩
  · refine wp_if (fun g4 => ?_) (fun g4 => ?_)
    · exact ⟨hS, (by omega), trivial⟩
    · refine wp_call (t_X10_runs (l1 := l1) (l2 := l2) hW (by omega) (by omega) hS) (fun v5 m6 hh => ?_)
      obtain ⟨h6, hr6, hp6⟩ := hh
      refine wp_if (fun g7 => ?_) (fun g7 => ?_)
      · exact ⟨h6, (by omega), trivial⟩
      · refine wp_if (fun g8 => ?_) (fun g8 => ?_)
        · exact ⟨h6, (by have := gO_5_4 (rfl : kD 58 = (15, 10)) (by decide) h6; omega), trivial⟩
        · refine wp_if (fun g9 => ?_) (fun g9 => ?_)
          · exact ⟨h6, (by have := gO_5_5 (rfl : kD 58 = (15, 10)) (by decide) h6; omega), trivial⟩
          · refine wp_if (fun g10 => ?_) (fun g10 => ?_)
            · exact ⟨h6, (by have := gO_5_6 (rfl : kD 58 = (15, 10)) (by decide) h6; omega), trivial⟩
            · exact ⟨h6, (by have := gO_5_7 (rfl : kD 58 = (15, 10)) (by decide) h6; omega), trivial⟩
set_option maxHeartbeats 4000000 in
set_option maxRecDepth 100000 in
theorem t_X10_done {W : Nat → Nat → Prop} {μs : Mm} {l1 : Int} {l2 : Int} {l3 : Int} {l4 : Int} (hW : ∀ k j, scr k j → W k j)  (hp_l1 : -2147483648 ≤ l1 ∧ l1 ≤ 2147483647) (hp_l2 : -2147483648 ≤ l2 ∧ l2 ≤ 2147483647) (hp_l3 : -2147483648 ≤ l3 ∧ l3 ≤ 2147483647) (hp_l4 : -2147483648 ≤ l4 ∧ l4 ≤ 2147483647) {μ : Mm} (hS : St W μs μ) : wp (X10_done l1 l2 l3 l4 μ) (fun r μ' => St W μs μ' ∧ (-2147483648 ≤ r ∧ r ≤ 2147483647) ∧ True) := by
  have hFU := FU_v
  unfold X10_done
  refine wp_if (fun g7 => ?_) (fun g7 => ?_)
  · exact ⟨hS, (by omega), trivial⟩
  · refine wp_if (fun g8 => ?_) (fun g8 => ?_)
    · exact ⟨hS, (by omega), trivial⟩
    · refine wp_call (t_X10_runs (l1 := l1) (l2 := l2) hW (by omega) (by omega) hS) (fun v9 m10 hh => ?_)
      obtain ⟨h10, hr10, hp10⟩ := hh
      refine wp_if (fun g15 => ?_) (fun g15 => ?_)
      · exact ⟨h10, (by omega), trivial⟩
      · refine wp_if (fun g16 => ?_) (fun g16 => ?_)
        · exact ⟨h10, (by omega), trivial⟩
        · refine wp_if (fun g17 => ?_) (fun g17 => ?_)
          · refine wp_if (fun g18 => ?_) (fun g18 => ?_)
            · refine wp_ldv (by have na0 : ((aN 60 : Nat) : Int) = 8 := rfl; have := gO_1_5 (rfl : kD 48 = (11, 7)) (by decide) h10; omega) (fun v19 q20 => ?_)
              have hrv19 := gA_5_2 (rfl : kD 58 = (15, 10)) (by decide) h10 (l3).toNat
              replace hrv19 : -2147483648 ≤ v19 ∧ v19 ≤ 2147483647 := by rw [q20]; exact hrv19
              exact ⟨h10, (by have := gO_1_5 (rfl : kD 48 = (11, 7)) (by decide) h10; omega), trivial⟩
            · refine wp_if (fun g21 => ?_) (fun g21 => ?_)
              · refine wp_ldv (by have na0 : ((aN 61 : Nat) : Int) = 8 := rfl; have := gO_1_5 (rfl : kD 48 = (11, 7)) (by decide) h10; omega) (fun v22 q23 => ?_)
                have hrv22 := gA_5_3 (rfl : kD 58 = (15, 10)) (by decide) h10 (l3).toNat
                replace hrv22 : -2147483648 ≤ v22 ∧ v22 ≤ 2147483647 := by rw [q23]; exact hrv22
                exact ⟨h10, (by have := gO_1_5 (rfl : kD 48 = (11, 7)) (by decide) h10; omega), trivial⟩
              · refine wp_ldv (by have na0 : ((aN 61 : Nat) : Int) = 8 := rfl; have := gO_1_5 (rfl : kD 48 = (11, 7)) (by decide) h10; omega) (fun v24 q25 => ?_)
                have hrv24 := gA_5_3 (rfl : kD 58 = (15, 10)) (by decide) h10 (l3).toNat
                replace hrv24 : -2147483648 ≤ v24 ∧ v24 ≤ 2147483647 := by rw [q25]; exact hrv24
                refine wp_ldv (by have na0 : ((aN 50 : Nat) : Int) = 8 := rfl; have := gO_1_5 (rfl : kD 48 = (11, 7)) (by decide) h10; omega) (fun v27 q28 => ?_)
                have hrv27 := gA_1_2 (rfl : kD 48 = (11, 7)) (by decide) h10 (l3).toNat
                replace hrv27 : -2147483648 ≤ v27 ∧ v27 ≤ 2147483647 := by rw [q28]; exact hrv27
                exact ⟨h10, (by have := iS_c v24 v27; have := gO_1_5 (rfl : kD 48 = (11, 7)) (by decide) h10; omega), trivial⟩
          · exact ⟨h10, (by have := gO_1_5 (rfl : kD 48 = (11, 7)) (by decide) h10; omega), trivial⟩
set_option maxHeartbeats 4000000 in
set_option maxRecDepth 100000 in
theorem t_X10_where {W : Nat → Nat → Prop} {μs : Mm} {l1 : Int} {l2 : Int} {l3 : Int} (hW : ∀ k j, scr k j → W k j)  (hp_l1 : -2147483648 ≤ l1 ∧ l1 ≤ 2147483647) (hp_l2 : -2147483648 ≤ l2 ∧ l2 ≤ 2147483647) (hp_l3 : -2147483648 ≤ l3 ∧ l3 ≤ 2147483647) {μ : Mm} (hS : St W μs μ) : wp (X10_where l1 l2 l3 μ) (fun r μ' => St W μs μ' ∧ (-2147483648 ≤ r ∧ r ≤ 2147483647) ∧ True) := by
  have hFU := FU_v
  unfold X10_where
  refine wp_if (fun g5 => ?_) (fun g5 => ?_)
  · exact ⟨hS, (by omega), trivial⟩
  · refine wp_call (t_X10_runs (l1 := l1) (l2 := l2) hW (by omega) (by omega) hS) (fun v6 m7 hh => ?_)
    obtain ⟨h7, hr7, hp7⟩ := hh
    refine wp_if (fun g10 => ?_) (fun g10 => ?_)
    · exact ⟨h7, (by omega), trivial⟩
    · refine wp_calls (t_X5_crankAt (l1 := 48) (l2 := l3)  (rfl : kD 48 = (11, 7)) (by omega) h7) (fun v11 hh => ?_)
      obtain ⟨hr12, hp12⟩ := hh
      exact ⟨h7, (by omega), trivial⟩
set_option maxHeartbeats 4000000 in
set_option maxRecDepth 100000 in
theorem t_X10_isHalf {W : Nat → Nat → Prop} {μs : Mm} {l0 : Int}  (hp_l0 : -2147483648 ≤ l0 ∧ l0 ≤ 2147483647) {μ : Mm} (hS : St W μs μ) : wp (X10_isHalf l0 μ) (fun r μ' => μ' = μ ∧ (0 ≤ r ∧ r ≤ 1) ∧ True) := by
  have hFU := FU_v
  unfold X10_isHalf
  refine wp_if (fun g1 => ?_) (fun g1 => ?_)
  · exact ⟨rfl, (by omega), trivial⟩
  · refine wp_if (fun g2 => ?_) (fun g2 => ?_)
    · exact ⟨rfl, (by omega), trivial⟩
    · exact ⟨rfl, (by omega), trivial⟩
set_option maxHeartbeats 4000000 in
set_option maxRecDepth 100000 in
theorem t_X10_walk {W : Nat → Nat → Prop} {μs : Mm} {l1 : Int} {l2 : Int} {l3 : Int} (hW : ∀ k j, scr k j → W k j)  (hp_l1 : -2147483648 ≤ l1 ∧ l1 ≤ 2147483647) (hp_l2 : -2147483648 ≤ l2 ∧ l2 ≤ 2147483647) (hp_l3 : -2147483648 ≤ l3 ∧ l3 ≤ 2147483647) {μ : Mm} (hS : St W μs μ) : wp (X10_walk l1 l2 l3 μ) (fun r μ' => St W μs μ' ∧ (-2147483648 ≤ r ∧ r ≤ 2147483647) ∧ True) := by
  have hFU := FU_v
  unfold X10_walk
  refine wp_calls (t_X10_isHalf (l0 := l3)  (by omega) hS) (fun v5 hh => ?_)
  obtain ⟨hr6, hp6⟩ := hh
  refine wp_if (fun g9 => ?_) (fun g9 => ?_)
  · exact ⟨hS, (by omega), trivial⟩
  · refine wp_call (t_X10_runs (l1 := l1) (l2 := l2) hW (by omega) (by omega) hS) (fun v10 m11 hh => ?_)
    obtain ⟨h11, hr11, hp11⟩ := hh
    refine wp_if (fun g12 => ?_) (fun g12 => ?_)
    · exact ⟨h11, (by omega), trivial⟩
    · refine wp_if (fun g13 => ?_) (fun g13 => ?_)
      · exact ⟨h11, (by have := gO_5_8 (rfl : kD 58 = (15, 10)) (by decide) h11; omega), trivial⟩
      · exact ⟨h11, (by have := gO_5_9 (rfl : kD 58 = (15, 10)) (by decide) h11; omega), trivial⟩
set_option maxHeartbeats 4000000 in
set_option maxRecDepth 100000 in
theorem t_X10_latesByBook {W : Nat → Nat → Prop} {μs : Mm} {l1 : Int} (hW : ∀ k j, scr k j → W k j)  (hp_l1 : -2147483648 ≤ l1 ∧ l1 ≤ 2147483647) {μ : Mm} (hS : St W μs μ) : wp (X10_latesByBook l1 μ) (fun r μ' => St W μs μ' ∧ (-2147483648 ≤ r ∧ r ≤ 2147483647) ∧ True) := by
  have hFU := FU_v
  unfold X10_latesByBook
  refine wp_call (t_X5_takeBook (l1 := l1) (l2 := (μ 48 5)) hW (by omega) (by have := gO_1_5 (rfl : kD 48 = (11, 7)) (by decide) hS; omega) hS) (fun v5 m6 hh => ?_)
  obtain ⟨h6, hr6, hp6⟩ := hh
  refine wp_call (t_X5_go (l1 := 48) hW (rfl : kD 48 = (11, 7)) h6) (fun v9 m10 hh => ?_)
  obtain ⟨h10, hr10, hp10⟩ := hh
  refine wp_if (fun g11 => ?_) (fun g11 => ?_)
  · exact ⟨h10, (by omega), trivial⟩
  · exact ⟨h10, (by have := gO_5_4 (rfl : kD 58 = (15, 10)) (by decide) h10; omega), trivial⟩
set_option maxHeartbeats 4000000 in
set_option maxRecDepth 100000 in
theorem t_X10_told {W : Nat → Nat → Prop} {μs : Mm} {l1 : Int} {l2 : Int} {l3 : Int} (hW : ∀ k j, scr k j → W k j)  (hp_l1 : -2147483648 ≤ l1 ∧ l1 ≤ 2147483647) (hp_l2 : -2147483648 ≤ l2 ∧ l2 ≤ 2147483647) (hp_l3 : -2147483648 ≤ l3 ∧ l3 ≤ 2147483647) {μ : Mm} (hS : St W μs μ) : wp (X10_told l1 l2 l3 μ) (fun r μ' => St W μs μ' ∧ (-2147483648 ≤ r ∧ r ≤ 2147483647) ∧ True) := by
  have hFU := FU_v
  unfold X10_told
  refine wp_call (t_X6_seek (l1 := 48) (l2 := l1) (l3 := l2) hW (rfl : kD 48 = (11, 7)) (by omega) (by omega) hS) (fun v3 m4 hh => ?_)
  obtain ⟨h4, hr4, hp4⟩ := hh
  refine wp_if (fun g5 => ?_) (fun g5 => ?_)
  · exact ⟨h4, (by omega), trivial⟩
  · refine wp_if (fun g6 => ?_) (fun g6 => ?_)
    · exact ⟨h4, (by have := gO_6_8 (rfl : kD 62 = (16, 9)) (by decide) h4; omega), trivial⟩
    · exact ⟨h4, (by have := gO_6_7 (rfl : kD 62 = (16, 9)) (by decide) h4; omega), trivial⟩
set_option maxHeartbeats 4000000 in
set_option maxRecDepth 100000 in
theorem t_X10_best {W : Nat → Nat → Prop} {μs : Mm} {l1 : Int} {l2 : Int} {l3 : Int} (hW : ∀ k j, scr k j → W k j)  (hp_l1 : -2147483648 ≤ l1 ∧ l1 ≤ 2147483647) (hp_l2 : -2147483648 ≤ l2 ∧ l2 ≤ 2147483647) (hp_l3 : -2147483648 ≤ l3 ∧ l3 ≤ 2147483647) {μ : Mm} (hS : St W μs μ) : wp (X10_best l1 l2 l3 μ) (fun r μ' => St W μs μ' ∧ (-2147483648 ≤ r ∧ r ≤ 2147483647) ∧ True) := by
  have hFU := FU_v
  unfold X10_best
  refine wp_if (fun g7 => ?_) (fun g7 => ?_)
  · exact ⟨hS, (by omega), trivial⟩
  · refine wp_if (fun g8 => ?_) (fun g8 => ?_)
    · exact ⟨hS, (by omega), trivial⟩
    · refine wp_calls (t_X10_isHalf (l0 := l3)  (by omega) hS) (fun v9 hh => ?_)
      obtain ⟨hr10, hp10⟩ := hh
      refine wp_if (fun g15 => ?_) (fun g15 => ?_)
      · exact ⟨hS, (by omega), trivial⟩
      · refine wp_call (t_X10_lay (l1 := l1) hW (by omega) hS) (fun v16 m17 hh => ?_)
        obtain ⟨h17, hr17, hp17⟩ := hh
        refine wp_if (fun g20 => ?_) (fun g20 => ?_)
        · exact ⟨h17, (by omega), trivial⟩
        · refine wp_call (t_X10_told (l1 := l2) (l2 := 0) (l3 := l3) hW (by omega) (by omega) (by omega) h17) (fun v21 m22 hh => ?_)
          obtain ⟨h22, hr22, hp22⟩ := hh
          exact ⟨h22, (by omega), trivial⟩
set_option maxHeartbeats 4000000 in
set_option maxRecDepth 100000 in
theorem t_X10_mend {W : Nat → Nat → Prop} {μs : Mm} {l1 : Int} {l2 : Int} {l3 : Int} (hW : ∀ k j, scr k j → W k j)  (hp_l1 : -2147483648 ≤ l1 ∧ l1 ≤ 2147483647) (hp_l2 : -2147483648 ≤ l2 ∧ l2 ≤ 2147483647) (hp_l3 : -2147483648 ≤ l3 ∧ l3 ≤ 2147483647) {μ : Mm} (hS : St W μs μ) : wp (X10_mend l1 l2 l3 μ) (fun r μ' => St W μs μ' ∧ (-2147483648 ≤ r ∧ r ≤ 2147483647) ∧ True) := by
  have hFU := FU_v
  unfold X10_mend
  refine wp_calls (t_X10_isHalf (l0 := l3)  (by omega) hS) (fun v7 hh => ?_)
  obtain ⟨hr8, hp8⟩ := hh
  refine wp_if (fun g13 => ?_) (fun g13 => ?_)
  · exact ⟨hS, (by omega), trivial⟩
  · refine wp_call (t_X10_lay (l1 := l1) hW (by omega) hS) (fun v14 m15 hh => ?_)
    obtain ⟨h15, hr15, hp15⟩ := hh
    refine wp_if (fun g18 => ?_) (fun g18 => ?_)
    · exact ⟨h15, (by omega), trivial⟩
    · refine wp_if (fun g19 => ?_) (fun g19 => ?_)
      · exact ⟨h15, (by omega), trivial⟩
      · refine wp_if (fun g20 => ?_) (fun g20 => ?_)
        · refine wp_call (t_X10_told (l1 := 0) (l2 := l2) (l3 := l3) hW (by have := gO_1_5 (rfl : kD 48 = (11, 7)) (by decide) h15; omega) (by have := gO_1_5 (rfl : kD 48 = (11, 7)) (by decide) h15; omega) (by have := gO_1_5 (rfl : kD 48 = (11, 7)) (by decide) h15; omega) h15) (fun v21 m22 hh => ?_)
          obtain ⟨h22, hr22, hp22⟩ := hh
          exact ⟨h22, (by have := gO_1_5 (rfl : kD 48 = (11, 7)) (by decide) h15; omega), trivial⟩
        · exact ⟨h15, (by have := gO_1_5 (rfl : kD 48 = (11, 7)) (by decide) h15; omega), trivial⟩
set_option maxHeartbeats 4000000 in
set_option maxRecDepth 100000 in
theorem t_X10_leastLates {W : Nat → Nat → Prop} {μs : Mm}  (hW : ∀ k j, scr k j → W k j)   {μ : Mm} (hS : St W μs μ) : wp (X10_leastLates μ) (fun r μ' => St W μs μ' ∧ (-2147483648 ≤ r ∧ r ≤ 2147483647) ∧ True) := by
  have hFU := FU_v
  unfold X10_leastLates
  refine wp_call (t_X10_told (l1 := 0) (l2 := 0) (l3 := 1) hW (by omega) (by omega) (by omega) hS) (fun v3 m4 hh => ?_)
  obtain ⟨h4, hr4, hp4⟩ := hh
  exact ⟨h4, (by omega), trivial⟩
set_option maxHeartbeats 4000000 in
set_option maxRecDepth 100000 in
theorem t_X10_isMet {W : Nat → Nat → Prop} {μs : Mm} {l1 : Int} (hW : ∀ k j, scr k j → W k j)  (hp_l1 : -2147483648 ≤ l1 ∧ l1 ≤ 2147483647) {μ : Mm} (hS : St W μs μ) : wp (X10_isMet l1 μ) (fun r μ' => St W μs μ' ∧ (0 ≤ r ∧ r ≤ 1) ∧ True) := by
  have hFU := FU_v
  unfold X10_isMet
  refine wp_call (t_X10_latesByBook (l1 := l1) hW (by omega) hS) (fun v3 m4 hh => ?_)
  obtain ⟨h4, hr4, hp4⟩ := hh
  refine wp_if (fun g5 => ?_) (fun g5 => ?_)
  · exact ⟨h4, (by omega), trivial⟩
  · exact ⟨h4, (by omega), trivial⟩
set_option maxHeartbeats 4000000 in
set_option maxRecDepth 100000 in
theorem t_X10_met {W : Nat → Nat → Prop} {μs : Mm} {l1 : Int} {l2 : Int} (hW : ∀ k j, scr k j → W k j)  (hp_l1 : -2147483648 ≤ l1 ∧ l1 ≤ 2147483647) (hp_l2 : -2147483648 ≤ l2 ∧ l2 ≤ 2147483647) {μ : Mm} (hS : St W μs μ) : wp (X10_met l1 l2 μ) (fun r μ' => St W μs μ' ∧ (-2147483648 ≤ r ∧ r ≤ 2147483647) ∧ True) := by
  have hFU := FU_v
  unfold X10_met
  refine wp_call (t_X10_lay (l1 := l1) hW (by omega) hS) (fun v7 m8 hh => ?_)
  obtain ⟨h8, hr8, hp8⟩ := hh
  refine wp_if (fun g13 => ?_) (fun g13 => ?_)
  · exact ⟨h8, (by omega), trivial⟩
  · refine wp_if (fun g14 => ?_) (fun g14 => ?_)
    · exact ⟨h8, (by omega), trivial⟩
    · refine wp_calls (t_X1_allCues (l0 := 48)  (rfl : kD 48 = (11, 7)) h8) (fun v15 hh => ?_)
      obtain ⟨hr16, hp16⟩ := hh
      refine wp_if (fun g19 => ?_) (fun g19 => ?_)
      · refine wp_call (t_X10_isMet (l1 := l2) hW (by omega) h8) (fun v20 m21 hh => ?_)
        obtain ⟨h21, hr21, hp21⟩ := hh
        refine wp_if (fun g22 => ?_) (fun g22 => ?_)
        · exact ⟨h21, (by omega), trivial⟩
        · exact ⟨h21, (by omega), trivial⟩
      · exact ⟨h8, (by omega), trivial⟩
set_option maxHeartbeats 4000000 in
set_option maxRecDepth 100000 in
theorem t_J6_bitCount_0f7a4 {W : Nat → Nat → Prop} {μs : Mm} {l0 : Int}  (hp_l0 : -2147483648 ≤ l0 ∧ l0 ≤ 2147483647) {μ : Mm} (hS : St W μs μ) : wp (J6_bitCount_0f7a4 l0 μ) (fun r μ' => μ' = μ ∧ (-2147483648 ≤ r ∧ r ≤ 2147483647) ∧ True) := by
  have hFU := FU_v
  unfold J6_bitCount_0f7a4
  refine wp_ltv (fun v6 q7 => ?_)
  refine wp_ltv (fun v12 q13 => ?_)
  refine wp_ltv (fun v17 q18 => ?_)
  refine wp_ltv (fun v21 q22 => ?_)
  refine wp_ltv (fun v24 q25 => ?_)
  exact ⟨rfl, (by have := bA_r v24 63; have := bU_r l0 1; have := bA_r (bU l0 1) 1431655765; have := iS_c l0 (bA (bU l0 1) 1431655765); have := bA_r v6 858993459; have := bU_r v6 2; have := bA_r (bU v6 2) 858993459; have := iA_c (bA v6 858993459) (bA (bU v6 2) 858993459); have := bU_r v12 4; have := iA_c v12 (bU v12 4); have := bA_r (iA v12 (bU v12 4)) 252645135; have := bU_r v17 8; have := iA_c v17 (bU v17 8); have := bU_r v21 16; have := iA_c v21 (bU v21 16); omega), trivial⟩
set_option maxHeartbeats 4000000 in
set_option maxRecDepth 100000 in
theorem t_X10_knot_L18 {W : Nat → Nat → Prop} {μs : Mm}  (hW : ∀ k j, scr k j → W k j)   {Q : Int → Mm → Prop} (hQ : ∀ r μ, St W μs μ → (-2147483648 ≤ r ∧ r ≤ 2147483647) → True → Q r μ) : ∀ (n : Nat) {l2 l3 l4 : Int} {μ : Mm}, St W μs μ → (-2147483648 ≤ l2 ∧ l2 ≤ 2147483647) → (-2147483648 ≤ l3 ∧ l3 ≤ 2147483647) → (1 ≤ l4 ∧ l4 ≤ 256) → True → 256 - l4 + 1 ≤ ((n : Nat) : Int) → wp (X10_knot_L18 n l2 l3 l4 μ) Q := by
  have hFU := FU_v
  intro n
  induction n with
  | zero => intro l2 l3 l4 μ hS hv_l2 hv_l3 hv_l4 hi hm; exact absurd hm (by  have : ((0 : Nat) : Int) = 0 := rfl; omega)
  | succ n ih =>
    intro l2 l3 l4 μ hS hv_l2 hv_l3 hv_l4 hi hm
    have hn1 : ((n + 1 : Nat) : Int) = ((n : Nat) : Int) + 1 := rfl
    rw [X10_knot_L18]
    refine wp_calls (t_X1_allCues (l0 := 48)  (rfl : kD 48 = (11, 7)) hS) (fun v13 hh => ?_)
    obtain ⟨hr14, hp14⟩ := hh
    refine wp_if (fun g19 => ?_) (fun g19 => ?_)
    · exact hQ _ _ hS (by omega) trivial
    · refine wp_calls (t_J6_bitCount_0f7a4 (l0 := l4)  (by omega) hS) (fun v20 hh => ?_)
      obtain ⟨hr21, hp21⟩ := hh
      refine wp_if (fun g24 => ?_) (fun g24 => ?_)
      · exact ih hS (by omega) (by omega) (by have := iA_c l4 1; omega) trivial (by have := iA_c l4 1; omega)
      · refine wp_call (t_X10_isMet (l1 := l4) hW (by omega) hS) (fun v25 m26 hh => ?_)
        obtain ⟨h26, hr26, hp26⟩ := hh
        refine wp_if (fun g27 => ?_) (fun g27 => ?_)
        · exact ih h26 (by omega) (by omega) (by have := iA_c l4 1; omega) trivial (by have := iA_c l4 1; omega)
        · exact ih h26 (by omega) (by omega) (by have := iA_c l4 1; omega) trivial (by have := iA_c l4 1; omega)
set_option maxHeartbeats 4000000 in
set_option maxRecDepth 100000 in
theorem t_X10_knot {W : Nat → Nat → Prop} {μs : Mm} {l1 : Int} (hW : ∀ k j, scr k j → W k j)  (hp_l1 : -2147483648 ≤ l1 ∧ l1 ≤ 2147483647) {μ : Mm} (hS : St W μs μ) : wp (X10_knot l1 μ) (fun r μ' => St W μs μ' ∧ (-2147483648 ≤ r ∧ r ≤ 2147483647) ∧ True) := by
  have hFU := FU_v
  unfold X10_knot
  refine wp_call (t_X10_lay (l1 := l1) hW (by omega) hS) (fun v3 m4 hh => ?_)
  obtain ⟨h4, hr4, hp4⟩ := hh
  refine wp_if (fun g5 => ?_) (fun g5 => ?_)
  · exact ⟨h4, (by omega), trivial⟩
  · exact t_X10_knot_L18 (l2 := (-1)) (l3 := 9) (l4 := 1) hW  (fun r_ m_ h_ hr_ hp_ => by exact ⟨h_, (by omega), trivial⟩) FU h4 (by omega) (by omega) (by omega) trivial (by omega)
set_option maxHeartbeats 4000000 in
set_option maxRecDepth 100000 in
theorem t_X10_ageOfJob_L3 {W : Nat → Nat → Prop} {μs : Mm}  (hW : ∀ k j, scr k j → W k j)   {Q : Int → Mm → Prop} (hQ : ∀ r μ, St W μs μ → (-2147483648 ≤ r ∧ r ≤ 2147483647) → True → Q r μ) : ∀ (n : Nat) {l1 : Int} {μ : Mm}, St W μs μ → (0 ≤ l1 ∧ l1 ≤ 9) → True → l1 + 1 ≤ ((n : Nat) : Int) → wp (X10_ageOfJob_L3 n l1 μ) Q := by
  have hFU := FU_v
  intro n
  induction n with
  | zero => intro l1 μ hS hv_l1 hi hm; exact absurd hm (by  have : ((0 : Nat) : Int) = 0 := rfl; omega)
  | succ n ih =>
    intro l1 μ hS hv_l1 hi hm
    have hn1 : ((n + 1 : Nat) : Int) = ((n : Nat) : Int) + 1 := rfl
    rw [X10_ageOfJob_L3]
    refine wp_if (fun g11 => ?_) (fun g11 => ?_)
    · exact hQ _ _ hS (by omega) trivial
    · refine wp_sFv (P := St W μs) (pO_1_6 (rfl : kD 48 = (11, 7)) hS (hW _ _ (by unfold scr; omega)) (by omega)) (fun m12 h12 he12 => ?_)
      refine wp_calls (t_X1_allCues (l0 := 48)  (rfl : kD 48 = (11, 7)) h12) (fun v17 hh => ?_)
      obtain ⟨hr18, hp18⟩ := hh
      refine wp_call (t_X10_isMet (l1 := v17) hW (by omega) h12) (fun v21 m22 hh => ?_)
      obtain ⟨h22, hr22, hp22⟩ := hh
      refine wp_if (fun g23 => ?_) (fun g23 => ?_)
      · exact ih h22 (by have := iA_c l1 (-1); omega) trivial (by have := iA_c l1 (-1); omega)
      · exact hQ _ _ h22 (by omega) trivial
set_option maxHeartbeats 4000000 in
set_option maxRecDepth 100000 in
theorem t_X10_ageOfJob {W : Nat → Nat → Prop} {μs : Mm}  (hW : ∀ k j, scr k j → W k j)   {μ : Mm} (hS : St W μs μ) : wp (X10_ageOfJob μ) (fun r μ' => St W μs μ' ∧ (-2147483648 ≤ r ∧ r ≤ 2147483647) ∧ True) := by
  have hFU := FU_v
  unfold X10_ageOfJob
  exact t_X10_ageOfJob_L3 (l1 := 9) hW  (fun r_ m_ h_ hr_ hp_ => by exact ⟨h_, (by omega), trivial⟩) FU hS (by omega) trivial (by omega)
set_option maxHeartbeats 4000000 in
set_option maxRecDepth 100000 in
theorem t_X10_age {W : Nat → Nat → Prop} {μs : Mm} {l1 : Int} (hW : ∀ k j, scr k j → W k j)  (hp_l1 : -2147483648 ≤ l1 ∧ l1 ≤ 2147483647) {μ : Mm} (hS : St W μs μ) : wp (X10_age l1 μ) (fun r μ' => St W μs μ' ∧ (-2147483648 ≤ r ∧ r ≤ 2147483647) ∧ True) := by
  have hFU := FU_v
  unfold X10_age
  refine wp_call (t_X10_lay (l1 := l1) hW (by omega) hS) (fun v5 m6 hh => ?_)
  obtain ⟨h6, hr6, hp6⟩ := hh
  refine wp_if (fun g9 => ?_) (fun g9 => ?_)
  · exact ⟨h6, (by omega), trivial⟩
  · refine wp_call (t_X10_ageOfJob hW  h6) (fun v10 m11 hh => ?_)
    obtain ⟨h11, hr11, hp11⟩ := hh
    exact ⟨h11, (by omega), trivial⟩
set_option maxHeartbeats 4000000 in
set_option maxRecDepth 100000 in
theorem t_X10_first_L7 {W : Nat → Nat → Prop} {μs : Mm}  (hW : ∀ k j, scr k j → W k j)   {Q : Int → Mm → Prop} (hQ : ∀ r μ, St W μs μ → (-2147483648 ≤ r ∧ r ≤ 2147483647) → True → Q r μ) : ∀ (n : Nat) {l1 l2 l3 : Int} {μ : Mm}, St W μs μ → (-2147483648 ≤ l1 ∧ l1 ≤ 2147483647) → (-2147483648 ≤ l2 ∧ l2 ≤ 2147483647) → (0 ≤ l3 ∧ l3 ≤ 5) → True → 5 - l3 + 1 ≤ ((n : Nat) : Int) → wp (X10_first_L7 n l1 l2 l3 μ) Q := by
  have hFU := FU_v
  intro n
  induction n with
  | zero => intro l1 l2 l3 μ hS hv_l1 hv_l2 hv_l3 hi hm; exact absurd hm (by  have : ((0 : Nat) : Int) = 0 := rfl; omega)
  | succ n ih =>
    intro l1 l2 l3 μ hS hv_l1 hv_l2 hv_l3 hi hm
    have hn1 : ((n + 1 : Nat) : Int) = ((n : Nat) : Int) + 1 := rfl
    rw [X10_first_L7]
    refine wp_if (fun g25 => ?_) (fun g25 => ?_)
    · exact hQ _ _ hS (by have := gO_10_15 (rfl : kD 0 = (20, 18)) (by decide) hS; omega) trivial
    · refine wp_call (t_X10_lay (l1 := l3) hW (by have := gO_10_15 (rfl : kD 0 = (20, 18)) (by decide) hS; omega) hS) (fun v26 m27 hh => ?_)
      obtain ⟨h27, hr27, hp27⟩ := hh
      refine wp_if (fun g38 => ?_) (fun g38 => ?_)
      · unfold X10_first_J31
        try dsimp only
        refine wp_if (fun g39 => ?_) (fun g39 => ?_)
        · exact ih h27 (by have := gO_10_15 (rfl : kD 0 = (20, 18)) (by decide) hS; omega) (by have := gO_10_15 (rfl : kD 0 = (20, 18)) (by decide) hS; omega) (by have := iA_c l3 1; have := gO_10_15 (rfl : kD 0 = (20, 18)) (by decide) hS; omega) trivial (by have := iA_c l3 1; have := gO_10_15 (rfl : kD 0 = (20, 18)) (by decide) hS; omega)
        · refine wp_if (fun g40 => ?_) (fun g40 => ?_)
          · exact ih h27 (by have := gO_10_15 (rfl : kD 0 = (20, 18)) (by decide) hS; omega) (by have := gO_10_15 (rfl : kD 0 = (20, 18)) (by decide) hS; omega) (by have := iA_c l3 1; have := gO_10_15 (rfl : kD 0 = (20, 18)) (by decide) hS; omega) trivial (by have := iA_c l3 1; have := gO_10_15 (rfl : kD 0 = (20, 18)) (by decide) hS; omega)
          · exact ih h27 (by have := gO_10_15 (rfl : kD 0 = (20, 18)) (by decide) hS; omega) (by have := gO_10_15 (rfl : kD 0 = (20, 18)) (by decide) hS; omega) (by have := iA_c l3 1; have := gO_10_15 (rfl : kD 0 = (20, 18)) (by decide) hS; omega) trivial (by have := iA_c l3 1; have := gO_10_15 (rfl : kD 0 = (20, 18)) (by decide) hS; omega)
      · refine wp_call (t_X10_ageOfJob hW  h27) (fun v41 m42 hh => ?_)
        obtain ⟨h42, hr42, hp42⟩ := hh
        unfold X10_first_J31
        try dsimp only
        refine wp_if (fun g47 => ?_) (fun g47 => ?_)
        · exact ih h42 (by have := gO_10_15 (rfl : kD 0 = (20, 18)) (by decide) hS; omega) (by have := gO_10_15 (rfl : kD 0 = (20, 18)) (by decide) hS; omega) (by have := iA_c l3 1; have := gO_10_15 (rfl : kD 0 = (20, 18)) (by decide) hS; omega) trivial (by have := iA_c l3 1; have := gO_10_15 (rfl : kD 0 = (20, 18)) (by decide) hS; omega)
        · refine wp_if (fun g48 => ?_) (fun g48 => ?_)
          · exact ih h42 (by have := gO_10_15 (rfl : kD 0 = (20, 18)) (by decide) hS; omega) (by have := gO_10_15 (rfl : kD 0 = (20, 18)) (by decide) hS; omega) (by have := iA_c l3 1; have := gO_10_15 (rfl : kD 0 = (20, 18)) (by decide) hS; omega) trivial (by have := iA_c l3 1; have := gO_10_15 (rfl : kD 0 = (20, 18)) (by decide) hS; omega)
          · exact ih h42 (by have := gO_10_15 (rfl : kD 0 = (20, 18)) (by decide) hS; omega) (by have := gO_10_15 (rfl : kD 0 = (20, 18)) (by decide) hS; omega) (by have := iA_c l3 1; have := gO_10_15 (rfl : kD 0 = (20, 18)) (by decide) hS; omega) trivial (by have := iA_c l3 1; have := gO_10_15 (rfl : kD 0 = (20, 18)) (by decide) hS; omega)
set_option maxHeartbeats 4000000 in
set_option maxRecDepth 100000 in
theorem t_X10_first {W : Nat → Nat → Prop} {μs : Mm}  (hW : ∀ k j, scr k j → W k j)   {μ : Mm} (hS : St W μs μ) : wp (X10_first μ) (fun r μ' => St W μs μ' ∧ (-2147483648 ≤ r ∧ r ≤ 2147483647) ∧ True) := by
  have hFU := FU_v
  unfold X10_first
  exact t_X10_first_L7 (l1 := (-1)) (l2 := 10) (l3 := 0) hW  (fun r_ m_ h_ hr_ hp_ => by exact ⟨h_, (by omega), trivial⟩) FU hS (by omega) (by omega) (by omega) trivial (by omega)
set_option maxHeartbeats 4000000 in
set_option maxRecDepth 100000 in
theorem t_X10_leastInTrial {W : Nat → Nat → Prop} {μs : Mm} {l1 : Int} (hW : ∀ k j, scr k j → W k j)  (hp_l1 : 0 ≤ l1 ∧ l1 ≤ 4) {μ : Mm} (hS : St W μs μ) : wp (X10_leastInTrial l1 μ) (fun r μ' => St W μs μ' ∧ (-2147483648 ≤ r ∧ r ≤ 2147483647) ∧ True) := by
  have hFU := FU_v
  unfold X10_leastInTrial
  have hi8 : 0 ≤ l1 ∧ l1 < ((aN 17 : Nat) : Int) := (by show _ ∧ _ < (5 : Int); omega)
  refine wp_aLv hi8 (fun v6 q7 => ?_)
  have hkv6 : kD v6 = (13, 3) := by rw [q7]; exact kA17 hi8
  have hbv6 := kPr' hkv6
  refine wp_call (t_X1_prepare (l0 := 48) (l1 := 13) (l2 := v6) hW (rfl : kD 48 = (11, 7)) (rfl : kD 13 = (10, 9)) hkv6 hS) (fun v13 m14 hh => ?_)
  obtain ⟨h14, hr14, hp14⟩ := hh
  refine wp_call (t_X10_leastLates hW  h14) (fun v17 m18 hh => ?_)
  obtain ⟨h18, hr18, hp18⟩ := hh
  exact ⟨h18, (by omega), trivial⟩
set_option maxHeartbeats 4000000 in
set_option maxRecDepth 100000 in
theorem t_X10_post_L25 {W : Nat → Nat → Prop} {μs : Mm} {l1 : Int} {l2 : Int} (hW : ∀ k j, scr k j → W k j)  (hp_l1 : 0 ≤ l1 ∧ l1 ≤ 4) (hp_l2 : -2147483648 ≤ l2 ∧ l2 ≤ 2147483647) {k98 : Int → Int → Mm → Rs} {Q : Int → Mm → Prop} (hk_k98 : ∀ (a0 a1 : Int) (μ : Mm), St W μs μ → (-2147483648 ≤ a0 ∧ a0 ≤ 2147483647) → (-2147483648 ≤ a1 ∧ a1 ≤ 2147483647) → True → wp (k98 a0 a1 μ) Q) : ∀ (n : Nat) {l3 l4 l5 : Int} {μ : Mm}, St W μs μ → (-2147483648 ≤ l3 ∧ l3 ≤ 2147483647) → (-2147483648 ≤ l4 ∧ l4 ≤ 2147483647) → (0 ≤ l5 ∧ l5 ≤ 60) → True → 60 - l5 + 1 ≤ ((n : Nat) : Int) → wp (X10_post_L25 l1 l2 k98 n l3 l4 l5 μ) Q := by
  have hFU := FU_v
  intro n
  induction n with
  | zero => intro l3 l4 l5 μ hS hv_l3 hv_l4 hv_l5 hi hm; exact absurd hm (by  have : ((0 : Nat) : Int) = 0 := rfl; omega)
  | succ n ih =>
    intro l3 l4 l5 μ hS hv_l3 hv_l4 hv_l5 hi hm
    have hn1 : ((n + 1 : Nat) : Int) = ((n : Nat) : Int) + 1 := rfl
    rw [X10_post_L25]
    refine wp_if (fun g29 => ?_) (fun g29 => ?_)
    · exact hk_k98 l3 l4 μ hS (by omega) (by omega) trivial
    · refine wp_call (t_X0_copy (l0 := 13) (l1 := 5) hW (fun _ _ _ _ => hW _ _ (by unfold scr; omega)) (rfl : kD 13 = (10, 9)) (rfl : kD 5 = (10, 9)) hS) (fun v30 m31 hh => ?_)
      obtain ⟨h31, hr31, hp31⟩ := hh
      refine wp_call (t_X0_takePost (l0 := 13) (l1 := l5) hW (fun _ _ _ _ => hW _ _ (by unfold scr; omega)) (rfl : kD 13 = (10, 9)) (by omega) h31) (fun v44 m45 hh => ?_)
      obtain ⟨h45, hr45, hp45⟩ := hh
      refine wp_if (fun g56 => ?_) (fun g56 => ?_)
      · unfold X10_post_J64
        try dsimp only
        refine wp_if (fun g57 => ?_) (fun g57 => ?_)
        · exact ih h45 (by omega) (by omega) (by have := iA_c l5 1; omega) trivial (by have := iA_c l5 1; omega)
        · refine wp_if (fun g58 => ?_) (fun g58 => ?_)
          · exact ih h45 (by omega) (by omega) (by have := iA_c l5 1; omega) trivial (by have := iA_c l5 1; omega)
          · refine wp_if (fun g59 => ?_) (fun g59 => ?_)
            · exact ih h45 (by omega) (by omega) (by have := iA_c l5 1; omega) trivial (by have := iA_c l5 1; omega)
            · exact ih h45 (by omega) (by omega) (by have := iA_c l5 1; omega) trivial (by have := iA_c l5 1; omega)
      · refine wp_call (t_X10_leastInTrial (l1 := l1) hW (by omega) h45) (fun v60 m61 hh => ?_)
        obtain ⟨h61, hr61, hp61⟩ := hh
        unfold X10_post_J64
        try dsimp only
        refine wp_if (fun g66 => ?_) (fun g66 => ?_)
        · exact ih h61 (by omega) (by omega) (by have := iA_c l5 1; omega) trivial (by have := iA_c l5 1; omega)
        · refine wp_if (fun g67 => ?_) (fun g67 => ?_)
          · exact ih h61 (by omega) (by omega) (by have := iA_c l5 1; omega) trivial (by have := iA_c l5 1; omega)
          · refine wp_if (fun g68 => ?_) (fun g68 => ?_)
            · exact ih h61 (by omega) (by omega) (by have := iA_c l5 1; omega) trivial (by have := iA_c l5 1; omega)
            · exact ih h61 (by omega) (by omega) (by have := iA_c l5 1; omega) trivial (by have := iA_c l5 1; omega)
set_option maxHeartbeats 4000000 in
set_option maxRecDepth 100000 in
theorem t_X10_post {W : Nat → Nat → Prop} {μs : Mm} {l1 : Int} {l2 : Int} (hW : ∀ k j, scr k j → W k j)  (hp_l1 : -2147483648 ≤ l1 ∧ l1 ≤ 2147483647) (hp_l2 : -2147483648 ≤ l2 ∧ l2 ≤ 2147483647) {μ : Mm} (hS : St W μs μ) : wp (X10_post l1 l2 μ) (fun r μ' => St W μs μ' ∧ (-2147483648 ≤ r ∧ r ≤ 2147483647) ∧ True) := by
  have hFU := FU_v
  unfold X10_post
  refine wp_calls (t_X10_isHalf (l0 := l2)  (by omega) hS) (fun v8 hh => ?_)
  obtain ⟨hr9, hp9⟩ := hh
  refine wp_if (fun g15 => ?_) (fun g15 => ?_)
  · exact ⟨hS, (by omega), trivial⟩
  · refine wp_call (t_X10_lay (l1 := l1) hW (by omega) hS) (fun v16 m17 hh => ?_)
    obtain ⟨h17, hr17, hp17⟩ := hh
    refine wp_if (fun g21 => ?_) (fun g21 => ?_)
    · exact ⟨h17, (by omega), trivial⟩
    · refine t_X10_post_L25 (l1 := l1) (l2 := l2) (l3 := (-1)) (l4 := (-1)) (l5 := 0) hW (by omega) (by omega) (fun v22 v23 m24 h24 hrv22 hrv23 hp24 => ?_) FU h17 (by omega) (by omega) (by omega) trivial (by omega)
      refine wp_if (fun g25 => ?_) (fun g25 => ?_)
      · exact ⟨h24, (by omega), trivial⟩
      · exact ⟨h24, (by omega), trivial⟩
set_option maxHeartbeats 4000000 in
set_option maxRecDepth 100000 in
theorem t_X10_rope_L25 {W : Nat → Nat → Prop} {μs : Mm} {l1 : Int} {l2 : Int} (hW : ∀ k j, scr k j → W k j)  (hp_l1 : 0 ≤ l1 ∧ l1 ≤ 4) (hp_l2 : -2147483648 ≤ l2 ∧ l2 ≤ 2147483647) {k98 : Int → Int → Mm → Rs} {Q : Int → Mm → Prop} (hk_k98 : ∀ (a0 a1 : Int) (μ : Mm), St W μs μ → (-2147483648 ≤ a0 ∧ a0 ≤ 2147483647) → (-2147483648 ≤ a1 ∧ a1 ≤ 2147483647) → True → wp (k98 a0 a1 μ) Q) : ∀ (n : Nat) {l3 l4 l5 : Int} {μ : Mm}, St W μs μ → (-2147483648 ≤ l3 ∧ l3 ≤ 2147483647) → (-2147483648 ≤ l4 ∧ l4 ≤ 2147483647) → (0 ≤ l5 ∧ l5 ≤ 8) → True → 8 - l5 + 1 ≤ ((n : Nat) : Int) → wp (X10_rope_L25 l1 l2 k98 n l3 l4 l5 μ) Q := by
  have hFU := FU_v
  intro n
  induction n with
  | zero => intro l3 l4 l5 μ hS hv_l3 hv_l4 hv_l5 hi hm; exact absurd hm (by  have : ((0 : Nat) : Int) = 0 := rfl; omega)
  | succ n ih =>
    intro l3 l4 l5 μ hS hv_l3 hv_l4 hv_l5 hi hm
    have hn1 : ((n + 1 : Nat) : Int) = ((n : Nat) : Int) + 1 := rfl
    rw [X10_rope_L25]
    refine wp_if (fun g29 => ?_) (fun g29 => ?_)
    · exact hk_k98 l3 l4 μ hS (by omega) (by omega) trivial
    · refine wp_call (t_X0_copy (l0 := 13) (l1 := 5) hW (fun _ _ _ _ => hW _ _ (by unfold scr; omega)) (rfl : kD 13 = (10, 9)) (rfl : kD 5 = (10, 9)) hS) (fun v30 m31 hh => ?_)
      obtain ⟨h31, hr31, hp31⟩ := hh
      refine wp_call (t_X0_halveWind (l0 := 13) (l1 := l5) hW (fun _ _ _ _ => hW _ _ (by unfold scr; omega)) (rfl : kD 13 = (10, 9)) (by omega) h31) (fun v44 m45 hh => ?_)
      obtain ⟨h45, hr45, hp45⟩ := hh
      refine wp_if (fun g56 => ?_) (fun g56 => ?_)
      · unfold X10_rope_J64
        try dsimp only
        refine wp_if (fun g57 => ?_) (fun g57 => ?_)
        · exact ih h45 (by omega) (by omega) (by have := iA_c l5 1; omega) trivial (by have := iA_c l5 1; omega)
        · refine wp_if (fun g58 => ?_) (fun g58 => ?_)
          · exact ih h45 (by omega) (by omega) (by have := iA_c l5 1; omega) trivial (by have := iA_c l5 1; omega)
          · refine wp_if (fun g59 => ?_) (fun g59 => ?_)
            · exact ih h45 (by omega) (by omega) (by have := iA_c l5 1; omega) trivial (by have := iA_c l5 1; omega)
            · exact ih h45 (by omega) (by omega) (by have := iA_c l5 1; omega) trivial (by have := iA_c l5 1; omega)
      · refine wp_call (t_X10_leastInTrial (l1 := l1) hW (by omega) h45) (fun v60 m61 hh => ?_)
        obtain ⟨h61, hr61, hp61⟩ := hh
        unfold X10_rope_J64
        try dsimp only
        refine wp_if (fun g66 => ?_) (fun g66 => ?_)
        · exact ih h61 (by omega) (by omega) (by have := iA_c l5 1; omega) trivial (by have := iA_c l5 1; omega)
        · refine wp_if (fun g67 => ?_) (fun g67 => ?_)
          · exact ih h61 (by omega) (by omega) (by have := iA_c l5 1; omega) trivial (by have := iA_c l5 1; omega)
          · refine wp_if (fun g68 => ?_) (fun g68 => ?_)
            · exact ih h61 (by omega) (by omega) (by have := iA_c l5 1; omega) trivial (by have := iA_c l5 1; omega)
            · exact ih h61 (by omega) (by omega) (by have := iA_c l5 1; omega) trivial (by have := iA_c l5 1; omega)
set_option maxHeartbeats 4000000 in
set_option maxRecDepth 100000 in
theorem t_X10_rope {W : Nat → Nat → Prop} {μs : Mm} {l1 : Int} {l2 : Int} (hW : ∀ k j, scr k j → W k j)  (hp_l1 : -2147483648 ≤ l1 ∧ l1 ≤ 2147483647) (hp_l2 : -2147483648 ≤ l2 ∧ l2 ≤ 2147483647) {μ : Mm} (hS : St W μs μ) : wp (X10_rope l1 l2 μ) (fun r μ' => St W μs μ' ∧ (-2147483648 ≤ r ∧ r ≤ 2147483647) ∧ True) := by
  have hFU := FU_v
  unfold X10_rope
  refine wp_calls (t_X10_isHalf (l0 := l2)  (by omega) hS) (fun v8 hh => ?_)
  obtain ⟨hr9, hp9⟩ := hh
  refine wp_if (fun g15 => ?_) (fun g15 => ?_)
  · exact ⟨hS, (by omega), trivial⟩
  · refine wp_call (t_X10_lay (l1 := l1) hW (by omega) hS) (fun v16 m17 hh => ?_)
    obtain ⟨h17, hr17, hp17⟩ := hh
    refine wp_if (fun g21 => ?_) (fun g21 => ?_)
    · exact ⟨h17, (by omega), trivial⟩
    · refine t_X10_rope_L25 (l1 := l1) (l2 := l2) (l3 := (-1)) (l4 := (-1)) (l5 := 0) hW (by omega) (by omega) (fun v22 v23 m24 h24 hrv22 hrv23 hp24 => ?_) FU h17 (by omega) (by omega) (by omega) trivial (by omega)
      refine wp_if (fun g25 => ?_) (fun g25 => ?_)
      · exact ⟨h24, (by omega), trivial⟩
      · exact ⟨h24, (by omega), trivial⟩
set_option maxHeartbeats 4000000 in
set_option maxRecDepth 100000 in
theorem t_X10_leastTogether {W : Nat → Nat → Prop} {μs : Mm} {l1 : Int} {l2 : Int} (hW : ∀ k j, scr k j → W k j)  (hp_l1 : 0 ≤ l1 ∧ l1 ≤ 4) (hp_l2 : 0 ≤ l2 ∧ l2 ≤ 4) {μ : Mm} (hS : St W μs μ) : wp (X10_leastTogether l1 l2 μ) (fun r μ' => St W μs μ' ∧ (-2147483648 ≤ r ∧ r ≤ 2147483647) ∧ True) := by
  have hFU := FU_v
  unfold X10_leastTogether
  have hi23 : 0 ≤ l1 ∧ l1 < ((aN 17 : Nat) : Int) := (by show _ ∧ _ < (5 : Int); omega)
  refine wp_aLv hi23 (fun v21 q22 => ?_)
  have hkv21 : kD v21 = (13, 3) := by rw [q22]; exact kA17 hi23
  have hbv21 := kPr' hkv21
  refine wp_call (t_X1_prepare (l0 := 48) (l1 := 13) (l2 := v21) hW (rfl : kD 48 = (11, 7)) (rfl : kD 13 = (10, 9)) hkv21 hS) (fun v43 m44 hh => ?_)
  obtain ⟨h44, hr44, hp44⟩ := hh
  have hi64 : 0 ≤ l1 ∧ l1 < ((aN 17 : Nat) : Int) := (by show _ ∧ _ < (5 : Int); omega)
  refine wp_aLv hi64 (fun v62 q63 => ?_)
  have hkv62 : kD v62 = (13, 3) := by rw [q63]; exact kA17 hi64
  have hbv62 := kPr' hkv62
  refine wp_calls (t_X10_lawThatHolds   h44) (fun v81 hh => ?_)
  obtain ⟨hr82, hp82⟩ := hh
  refine wp_call (t_X2_fillTimes (l1 := v62) (l2 := v81) (l3 := (m44 5 8)) hW hkv62 hp82 (by have := gO_0_8 (rfl : kD 5 = (10, 9)) (by decide) h44; omega) h44) (fun v97 m98 hh => ?_)
  obtain ⟨h98, hr98, hp98⟩ := hh
  refine wp_call (t_X10_leastLates hW  h98) (fun v111 m112 hh => ?_)
  obtain ⟨h112, hr112, hp112⟩ := hh
  have hi125 : 0 ≤ l2 ∧ l2 < ((aN 17 : Nat) : Int) := (by show _ ∧ _ < (5 : Int); omega)
  refine wp_aLv hi125 (fun v123 q124 => ?_)
  have hkv123 : kD v123 = (13, 3) := by rw [q124]; exact kA17 hi125
  have hbv123 := kPr' hkv123
  refine wp_call (t_X1_prepare (l0 := 48) (l1 := 13) (l2 := v123) hW (rfl : kD 48 = (11, 7)) (rfl : kD 13 = (10, 9)) hkv123 h112) (fun v135 m136 hh => ?_)
  obtain ⟨h136, hr136, hp136⟩ := hh
  have hi146 : 0 ≤ l2 ∧ l2 < ((aN 17 : Nat) : Int) := (by show _ ∧ _ < (5 : Int); omega)
  refine wp_aLv hi146 (fun v144 q145 => ?_)
  have hkv144 : kD v144 = (13, 3) := by rw [q145]; exact kA17 hi146
  have hbv144 := kPr' hkv144
  refine wp_calls (t_X10_lawThatHolds   h136) (fun v153 hh => ?_)
  obtain ⟨hr154, hp154⟩ := hh
  refine wp_call (t_X2_fillTimes (l1 := v144) (l2 := v153) (l3 := (m136 5 8)) hW hkv144 hp154 (by have := gO_0_8 (rfl : kD 5 = (10, 9)) (by decide) h136; omega) h136) (fun v159 m160 hh => ?_)
  obtain ⟨h160, hr160, hp160⟩ := hh
  refine wp_call (t_X10_leastLates hW  h160) (fun v163 m164 hh => ?_)
  obtain ⟨h164, hr164, hp164⟩ := hh
  refine wp_if (fun g165 => ?_) (fun g165 => ?_)
  · exact ⟨h164, (by omega), trivial⟩
  · refine wp_if (fun g166 => ?_) (fun g166 => ?_)
    · exact ⟨h164, (by omega), trivial⟩
    · exact ⟨h164, (by have := iA_c v111 v163; omega), trivial⟩
set_option maxHeartbeats 4000000 in
set_option maxRecDepth 100000 in
theorem t_X10_exchange_L55 {W : Nat → Nat → Prop} {μs : Mm} {l1 : Int} {l2 : Int} {l3 : Int} (hW : ∀ k j, scr k j → W k j)  (hp_l1 : 0 ≤ l1 ∧ l1 ≤ 4) (hp_l2 : 0 ≤ l2 ∧ l2 ≤ 4) (hp_l3 : -2147483648 ≤ l3 ∧ l3 ≤ 2147483647) {k159 : Int → Int → Mm → Rs} {Q : Int → Mm → Prop} (hk_k159 : ∀ (a0 a1 : Int) (μ : Mm), St W μs μ → (-2147483648 ≤ a0 ∧ a0 ≤ 2147483647) → (-2147483648 ≤ a1 ∧ a1 ≤ 2147483647) → True → wp (k159 a0 a1 μ) Q) : ∀ (n : Nat) {l4 l5 l6 : Int} {μ : Mm}, St W μs μ → (-2147483648 ≤ l4 ∧ l4 ≤ 2147483647) → (-2147483648 ≤ l5 ∧ l5 ≤ 2147483647) → (0 ≤ l6 ∧ l6 ≤ 64) → True → 64 - l6 + 1 ≤ ((n : Nat) : Int) → wp (X10_exchange_L55 l1 l2 l3 k159 n l4 l5 l6 μ) Q := by
  have hFU := FU_v
  intro n
  induction n with
  | zero => intro l4 l5 l6 μ hS hv_l4 hv_l5 hv_l6 hi hm; exact absurd hm (by  have : ((0 : Nat) : Int) = 0 := rfl; omega)
  | succ n ih =>
    intro l4 l5 l6 μ hS hv_l4 hv_l5 hv_l6 hi hm
    have hn1 : ((n + 1 : Nat) : Int) = ((n : Nat) : Int) + 1 := rfl
    rw [X10_exchange_L55]
    refine wp_if (fun g75 => ?_) (fun g75 => ?_)
    · exact hk_k159 l4 l5 μ hS (by omega) (by omega) trivial
    · refine wp_call (t_X0_copy (l0 := 13) (l1 := 5) hW (fun _ _ _ _ => hW _ _ (by unfold scr; omega)) (rfl : kD 13 = (10, 9)) (rfl : kD 5 = (10, 9)) hS) (fun v76 m77 hh => ?_)
      obtain ⟨h77, hr77, hp77⟩ := hh
      refine wp_if (fun g94 => ?_) (fun g94 => ?_)
      · unfold X10_exchange_J117
        try dsimp only
        unfold X10_exchange_J118
        try dsimp only
        refine wp_if (fun g107 => ?_) (fun g107 => ?_)
        · exact ih h77 (by have := iR_r l6 8; have := iD_r l6 8; omega) (by have := iR_r l6 8; have := iD_r l6 8; omega) (by have := iA_c l6 1; have := iR_r l6 8; have := iD_r l6 8; omega) trivial (by have := iA_c l6 1; have := iR_r l6 8; have := iD_r l6 8; omega)
        · refine wp_if (fun g108 => ?_) (fun g108 => ?_)
          · unfold X10_exchange_J139
            try dsimp only
            refine wp_ltv (fun v110 q111 => ?_)
            exact ih h77 (by have := iR_r l6 8; have := iD_r l6 8; have := iM_c 10 (iD l6 8); have := iA_c (iM 10 (iD l6 8)) (iR l6 8); omega) (by have := iR_r l6 8; have := iD_r l6 8; have := iM_c 10 (iD l6 8); have := iA_c (iM 10 (iD l6 8)) (iR l6 8); omega) (by have := iA_c l6 1; have := iR_r l6 8; have := iD_r l6 8; have := iM_c 10 (iD l6 8); have := iA_c (iM 10 (iD l6 8)) (iR l6 8); omega) trivial (by have := iA_c l6 1; have := iR_r l6 8; have := iD_r l6 8; have := iM_c 10 (iD l6 8); have := iA_c (iM 10 (iD l6 8)) (iR l6 8); omega)
          · refine wp_if (fun g112 => ?_) (fun g112 => ?_)
            · exact ih h77 (by have := iR_r l6 8; have := iD_r l6 8; omega) (by have := iR_r l6 8; have := iD_r l6 8; omega) (by have := iA_c l6 1; have := iR_r l6 8; have := iD_r l6 8; omega) trivial (by have := iA_c l6 1; have := iR_r l6 8; have := iD_r l6 8; omega)
            · unfold X10_exchange_J139
              try dsimp only
              refine wp_ltv (fun v114 q115 => ?_)
              exact ih h77 (by have := iR_r l6 8; have := iD_r l6 8; have := iM_c 10 (iD l6 8); have := iA_c (iM 10 (iD l6 8)) (iR l6 8); omega) (by have := iR_r l6 8; have := iD_r l6 8; have := iM_c 10 (iD l6 8); have := iA_c (iM 10 (iD l6 8)) (iR l6 8); omega) (by have := iA_c l6 1; have := iR_r l6 8; have := iD_r l6 8; have := iM_c 10 (iD l6 8); have := iA_c (iM 10 (iD l6 8)) (iR l6 8); omega) trivial (by have := iA_c l6 1; have := iR_r l6 8; have := iD_r l6 8; have := iM_c 10 (iD l6 8); have := iA_c (iM 10 (iD l6 8)) (iR l6 8); omega)
      · refine wp_call (t_X0_exchangeCranks (l0 := 13) (l1 := (iD l6 8)) (l2 := (iR l6 8)) hW (fun _ _ _ _ => hW _ _ (by unfold scr; omega)) (rfl : kD 13 = (10, 9)) (by have := iD_r l6 8; have := iR_r l6 8; omega) (by have := iR_r l6 8; have := iD_r l6 8; omega) h77) (fun v116 m117 hh => ?_)
        obtain ⟨h117, hr117, hp117⟩ := hh
        refine wp_if (fun g128 => ?_) (fun g128 => ?_)
        · unfold X10_exchange_J117
          try dsimp only
          unfold X10_exchange_J118
          try dsimp only
          refine wp_if (fun g141 => ?_) (fun g141 => ?_)
          · exact ih h117 (by have := iR_r l6 8; have := iD_r l6 8; omega) (by have := iR_r l6 8; have := iD_r l6 8; omega) (by have := iA_c l6 1; have := iR_r l6 8; have := iD_r l6 8; omega) trivial (by have := iA_c l6 1; have := iR_r l6 8; have := iD_r l6 8; omega)
          · refine wp_if (fun g142 => ?_) (fun g142 => ?_)
            · unfold X10_exchange_J139
              try dsimp only
              refine wp_ltv (fun v144 q145 => ?_)
              exact ih h117 (by have := iR_r l6 8; have := iD_r l6 8; have := iM_c 10 (iD l6 8); have := iA_c (iM 10 (iD l6 8)) (iR l6 8); omega) (by have := iR_r l6 8; have := iD_r l6 8; have := iM_c 10 (iD l6 8); have := iA_c (iM 10 (iD l6 8)) (iR l6 8); omega) (by have := iA_c l6 1; have := iR_r l6 8; have := iD_r l6 8; have := iM_c 10 (iD l6 8); have := iA_c (iM 10 (iD l6 8)) (iR l6 8); omega) trivial (by have := iA_c l6 1; have := iR_r l6 8; have := iD_r l6 8; have := iM_c 10 (iD l6 8); have := iA_c (iM 10 (iD l6 8)) (iR l6 8); omega)
            · refine wp_if (fun g146 => ?_) (fun g146 => ?_)
              · exact ih h117 (by have := iR_r l6 8; have := iD_r l6 8; omega) (by have := iR_r l6 8; have := iD_r l6 8; omega) (by have := iA_c l6 1; have := iR_r l6 8; have := iD_r l6 8; omega) trivial (by have := iA_c l6 1; have := iR_r l6 8; have := iD_r l6 8; omega)
              · unfold X10_exchange_J139
                try dsimp only
                refine wp_ltv (fun v148 q149 => ?_)
                exact ih h117 (by have := iR_r l6 8; have := iD_r l6 8; have := iM_c 10 (iD l6 8); have := iA_c (iM 10 (iD l6 8)) (iR l6 8); omega) (by have := iR_r l6 8; have := iD_r l6 8; have := iM_c 10 (iD l6 8); have := iA_c (iM 10 (iD l6 8)) (iR l6 8); omega) (by have := iA_c l6 1; have := iR_r l6 8; have := iD_r l6 8; have := iM_c 10 (iD l6 8); have := iA_c (iM 10 (iD l6 8)) (iR l6 8); omega) trivial (by have := iA_c l6 1; have := iR_r l6 8; have := iD_r l6 8; have := iM_c 10 (iD l6 8); have := iA_c (iM 10 (iD l6 8)) (iR l6 8); omega)
        · refine wp_call (t_X10_leastTogether (l1 := l1) (l2 := l2) hW (by have := iR_r l6 8; have := iD_r l6 8; omega) (by have := iR_r l6 8; have := iD_r l6 8; omega) h117) (fun v150 m151 hh => ?_)
          obtain ⟨h151, hr151, hp151⟩ := hh
          unfold X10_exchange_J118
          try dsimp only
          refine wp_if (fun g164 => ?_) (fun g164 => ?_)
          · exact ih h151 (by have := iR_r l6 8; have := iD_r l6 8; omega) (by have := iR_r l6 8; have := iD_r l6 8; omega) (by have := iA_c l6 1; have := iR_r l6 8; have := iD_r l6 8; omega) trivial (by have := iA_c l6 1; have := iR_r l6 8; have := iD_r l6 8; omega)
          · refine wp_if (fun g165 => ?_) (fun g165 => ?_)
            · unfold X10_exchange_J139
              try dsimp only
              refine wp_ltv (fun v167 q168 => ?_)
              exact ih h151 (by have := iR_r l6 8; have := iD_r l6 8; have := iM_c 10 (iD l6 8); have := iA_c (iM 10 (iD l6 8)) (iR l6 8); omega) (by have := iR_r l6 8; have := iD_r l6 8; have := iM_c 10 (iD l6 8); have := iA_c (iM 10 (iD l6 8)) (iR l6 8); omega) (by have := iA_c l6 1; have := iR_r l6 8; have := iD_r l6 8; have := iM_c 10 (iD l6 8); have := iA_c (iM 10 (iD l6 8)) (iR l6 8); omega) trivial (by have := iA_c l6 1; have := iR_r l6 8; have := iD_r l6 8; have := iM_c 10 (iD l6 8); have := iA_c (iM 10 (iD l6 8)) (iR l6 8); omega)
            · refine wp_if (fun g169 => ?_) (fun g169 => ?_)
              · exact ih h151 (by have := iR_r l6 8; have := iD_r l6 8; omega) (by have := iR_r l6 8; have := iD_r l6 8; omega) (by have := iA_c l6 1; have := iR_r l6 8; have := iD_r l6 8; omega) trivial (by have := iA_c l6 1; have := iR_r l6 8; have := iD_r l6 8; omega)
              · unfold X10_exchange_J139
                try dsimp only
                refine wp_ltv (fun v171 q172 => ?_)
                exact ih h151 (by have := iR_r l6 8; have := iD_r l6 8; have := iM_c 10 (iD l6 8); have := iA_c (iM 10 (iD l6 8)) (iR l6 8); omega) (by have := iR_r l6 8; have := iD_r l6 8; have := iM_c 10 (iD l6 8); have := iA_c (iM 10 (iD l6 8)) (iR l6 8); omega) (by have := iA_c l6 1; have := iR_r l6 8; have := iD_r l6 8; have := iM_c 10 (iD l6 8); have := iA_c (iM 10 (iD l6 8)) (iR l6 8); omega) trivial (by have := iA_c l6 1; have := iR_r l6 8; have := iD_r l6 8; have := iM_c 10 (iD l6 8); have := iA_c (iM 10 (iD l6 8)) (iR l6 8); omega)
/-! TOTALITY of the class, by program (wip/gen/tot.py) -/
set_option maxHeartbeats 4000000 in
set_option maxRecDepth 100000 in
theorem t_X10_exchange {W : Nat → Nat → Prop} {μs : Mm} {l1 : Int} {l2 : Int} {l3 : Int} (hW : ∀ k j, scr k j → W k j)  (hp_l1 : -2147483648 ≤ l1 ∧ l1 ≤ 2147483647) (hp_l2 : -2147483648 ≤ l2 ∧ l2 ≤ 2147483647) (hp_l3 : -2147483648 ≤ l3 ∧ l3 ≤ 2147483647) {μ : Mm} (hS : St W μs μ) : wp (X10_exchange l1 l2 l3 μ) (fun r μ' => St W μs μ' ∧ (-2147483648 ≤ r ∧ r ≤ 2147483647) ∧ True) := by
  have hFU := FU_v
  unfold X10_exchange
  refine wp_calls (t_X10_isHalf (l0 := l3)  (by omega) hS) (fun v14 hh => ?_)
  obtain ⟨hr15, hp15⟩ := hh
  refine wp_if (fun g27 => ?_) (fun g27 => ?_)
  · exact ⟨hS, (by omega), trivial⟩
  · refine wp_if (fun g28 => ?_) (fun g28 => ?_)
    · exact ⟨hS, (by omega), trivial⟩
    · refine wp_call (t_X10_lay (l1 := l1) hW (by omega) hS) (fun v29 m30 hh => ?_)
      obtain ⟨h30, hr30, hp30⟩ := hh
      refine wp_if (fun g40 => ?_) (fun g40 => ?_)
      · exact ⟨h30, (by omega), trivial⟩
      · refine wp_call (t_X10_lay (l1 := l2) hW (by omega) h30) (fun v41 m42 hh => ?_)
        obtain ⟨h42, hr42, hp42⟩ := hh
        refine wp_if (fun g50 => ?_) (fun g50 => ?_)
        · exact ⟨h42, (by omega), trivial⟩
        · refine wp_call (t_X0_copy (l0 := 13) (l1 := 5) hW (fun _ _ _ _ => hW _ _ (by unfold scr; omega)) (rfl : kD 13 = (10, 9)) (rfl : kD 5 = (10, 9)) h42) (fun v51 m52 hh => ?_)
          obtain ⟨h52, hr52, hp52⟩ := hh
          refine wp_call (t_X10_leastTogether (l1 := l1) (l2 := l2) hW (by omega) (by omega) h52) (fun v58 m59 hh => ?_)
          obtain ⟨h59, hr59, hp59⟩ := hh
          refine t_X10_exchange_L55 (l1 := l1) (l2 := l2) (l3 := l3) (l4 := 0) (l5 := v58) (l6 := 0) hW (by omega) (by omega) (by omega) (fun v63 v64 m65 h65 hrv63 hrv64 hp65 => ?_) FU h59 (by omega) (by omega) (by omega) trivial (by omega)
          refine wp_if (fun g66 => ?_) (fun g66 => ?_)
          · exact ⟨h65, (by omega), trivial⟩
          · refine wp_if (fun g67 => ?_) (fun g67 => ?_)
            · exact ⟨h65, (by omega), trivial⟩
            · exact ⟨h65, (by omega), trivial⟩
set_option maxHeartbeats 4000000 in
set_option maxRecDepth 100000 in
theorem t_X10_pillar_L33 {W : Nat → Nat → Prop} {μs : Mm} {l1 : Int} {l2 : Int} (hW : ∀ k j, scr k j → W k j)  (hp_l1 : 0 ≤ l1 ∧ l1 ≤ 4) (hp_l2 : -2147483648 ≤ l2 ∧ l2 ≤ 2147483647) {k117 : Int → Int → Mm → Rs} {Q : Int → Mm → Prop} (hk_k117 : ∀ (a0 a1 : Int) (μ : Mm), St W μs μ → (-2147483648 ≤ a0 ∧ a0 ≤ 2147483647) → (-2147483648 ≤ a1 ∧ a1 ≤ 2147483647) → True → wp (k117 a0 a1 μ) Q) : ∀ (n : Nat) {l3 l4 l5 : Int} {μ : Mm}, St W μs μ → (-2147483648 ≤ l3 ∧ l3 ≤ 2147483647) → (-2147483648 ≤ l4 ∧ l4 ≤ 2147483647) → (0 ≤ l5 ∧ l5 ≤ 60) → True → 60 - l5 + 1 ≤ ((n : Nat) : Int) → wp (X10_pillar_L33 l1 l2 k117 n l3 l4 l5 μ) Q := by
  have hFU := FU_v
  intro n
  induction n with
  | zero => intro l3 l4 l5 μ hS hv_l3 hv_l4 hv_l5 hi hm; exact absurd hm (by  have : ((0 : Nat) : Int) = 0 := rfl; omega)
  | succ n ih =>
    intro l3 l4 l5 μ hS hv_l3 hv_l4 hv_l5 hi hm
    have hn1 : ((n + 1 : Nat) : Int) = ((n : Nat) : Int) + 1 := rfl
    rw [X10_pillar_L33]
    refine wp_if (fun g29 => ?_) (fun g29 => ?_)
    · exact hk_k117 l3 l4 μ hS (by omega) (by omega) trivial
    · refine wp_if (fun g30 => ?_) (fun g30 => ?_)
      · exact hk_k117 l3 l4 μ hS (by omega) (by omega) trivial
      · refine wp_call (t_X0_copy (l0 := 13) (l1 := 5) hW (fun _ _ _ _ => hW _ _ (by unfold scr; omega)) (rfl : kD 13 = (10, 9)) (rfl : kD 5 = (10, 9)) hS) (fun v31 m32 hh => ?_)
        obtain ⟨h32, hr32, hp32⟩ := hh
        refine wp_call (t_X0_putPost (l0 := 13) (l1 := l5) hW (fun _ _ _ _ => hW _ _ (by unfold scr; omega)) (rfl : kD 13 = (10, 9)) (by omega) h32) (fun v45 m46 hh => ?_)
        obtain ⟨h46, hr46, hp46⟩ := hh
        refine wp_if (fun g57 => ?_) (fun g57 => ?_)
        · exact ih h46 (by omega) (by omega) (by have := iA_c l5 1; omega) trivial (by have := iA_c l5 1; omega)
        · refine wp_call (t_X10_leastInTrial (l1 := l1) hW (by omega) h46) (fun v58 m59 hh => ?_)
          obtain ⟨h59, hr59, hp59⟩ := hh
          refine wp_if (fun g68 => ?_) (fun g68 => ?_)
          · unfold X10_pillar_J93
            try dsimp only
            refine wp_if (fun g69 => ?_) (fun g69 => ?_)
            · exact ih h59 (by omega) (by omega) (by have := iA_c l5 1; omega) trivial (by have := iA_c l5 1; omega)
            · exact ih h59 (by omega) (by omega) (by have := iA_c l5 1; omega) trivial (by have := iA_c l5 1; omega)
          · refine wp_if (fun g70 => ?_) (fun g70 => ?_)
            · exact ih h59 (by omega) (by omega) (by have := iA_c l5 1; omega) trivial (by have := iA_c l5 1; omega)
            · unfold X10_pillar_J93
              try dsimp only
              refine wp_if (fun g71 => ?_) (fun g71 => ?_)
              · exact ih h59 (by omega) (by omega) (by have := iA_c l5 1; omega) trivial (by have := iA_c l5 1; omega)
              · exact ih h59 (by omega) (by omega) (by have := iA_c l5 1; omega) trivial (by have := iA_c l5 1; omega)
set_option maxHeartbeats 4000000 in
set_option maxRecDepth 100000 in
theorem t_X10_pillar {W : Nat → Nat → Prop} {μs : Mm} {l1 : Int} {l2 : Int} (hW : ∀ k j, scr k j → W k j)  (hp_l1 : -2147483648 ≤ l1 ∧ l1 ≤ 2147483647) (hp_l2 : -2147483648 ≤ l2 ∧ l2 ≤ 2147483647) {μ : Mm} (hS : St W μs μ) : wp (X10_pillar l1 l2 μ) (fun r μ' => St W μs μ' ∧ (-2147483648 ≤ r ∧ r ≤ 2147483647) ∧ True) := by
  have hFU := FU_v
  unfold X10_pillar
  refine wp_calls (t_X10_isHalf (l0 := l2)  (by omega) hS) (fun v10 hh => ?_)
  obtain ⟨hr11, hp11⟩ := hh
  refine wp_if (fun g19 => ?_) (fun g19 => ?_)
  · exact ⟨hS, (by omega), trivial⟩
  · refine wp_call (t_X10_lay (l1 := l1) hW (by omega) hS) (fun v20 m21 hh => ?_)
    obtain ⟨h21, hr21, hp21⟩ := hh
    refine wp_if (fun g27 => ?_) (fun g27 => ?_)
    · exact ⟨h21, (by omega), trivial⟩
    · refine wp_call (t_X10_leastLates hW  h21) (fun v28 m29 hh => ?_)
      obtain ⟨h29, hr29, hp29⟩ := hh
      refine wp_if (fun g33 => ?_) (fun g33 => ?_)
      · exact ⟨h29, (by omega), trivial⟩
      · refine t_X10_pillar_L33 (l1 := l1) (l2 := l2) (l3 := (-1)) (l4 := (-1)) (l5 := 0) hW (by omega) (by omega) (fun v34 v35 m36 h36 hrv34 hrv35 hp36 => ?_) FU h29 (by omega) (by omega) (by omega) trivial (by omega)
        refine wp_if (fun g37 => ?_) (fun g37 => ?_)
        · exact ⟨h36, (by omega), trivial⟩
        · exact ⟨h36, (by omega), trivial⟩
set_option maxHeartbeats 4000000 in
set_option maxRecDepth 100000 in
theorem t_X10_urgent_L27 {W : Nat → Nat → Prop} {μs : Mm} {l2 : Int} (hW : ∀ k j, scr k j → W k j)  (hp_l2 : -2147483648 ≤ l2 ∧ l2 ≤ 2147483647) {Q : Int → Mm → Prop} (hQ : ∀ r μ, St W μs μ → (-2147483648 ≤ r ∧ r ≤ 2147483647) → True → Q r μ) : ∀ (n : Nat) {l3 l4 : Int} {μ : Mm}, St W μs μ → (-2147483648 ≤ l3 ∧ l3 ≤ 2147483647) → (0 ≤ l4 ∧ l4 ≤ 8) → True → 8 - l4 + 1 ≤ ((n : Nat) : Int) → wp (X10_urgent_L27 l2 n l3 l4 μ) Q := by
  have hFU := FU_v
  intro n
  induction n with
  | zero => intro l3 l4 μ hS hv_l3 hv_l4 hi hm; exact absurd hm (by  have : ((0 : Nat) : Int) = 0 := rfl; omega)
  | succ n ih =>
    intro l3 l4 μ hS hv_l3 hv_l4 hi hm
    have hn1 : ((n + 1 : Nat) : Int) = ((n : Nat) : Int) + 1 := rfl
    rw [X10_urgent_L27]
    refine wp_if (fun g23 => ?_) (fun g23 => ?_)
    · exact hQ _ _ hS (by have := gO_1_5 (rfl : kD 48 = (11, 7)) (by decide) hS; omega) trivial
    · refine wp_ldv (by have na0 : ((aN 50 : Nat) : Int) = 8 := rfl; have := gO_1_5 (rfl : kD 48 = (11, 7)) (by decide) hS; omega) (fun v24 q25 => ?_)
      have hrv24 := gA_1_2 (rfl : kD 48 = (11, 7)) (by decide) hS (l4).toNat
      replace hrv24 : -2147483648 ≤ v24 ∧ v24 ≤ 2147483647 := by rw [q25]; exact hrv24
      refine wp_stv (P := St W μs) (by have na0 : ((aN 50 : Nat) : Int) = 8 := rfl; have := gO_1_5 (rfl : kD 48 = (11, 7)) (by decide) hS; omega) (pA_1_2 (rfl : kD 48 = (11, 7)) (by decide) hS (hW _ _ (by unfold scr; omega)) (by have := iA_c v24 1; have := gO_1_5 (rfl : kD 48 = (11, 7)) (by decide) hS; omega)) (fun m36 h36 he36 => ?_)
      refine wp_call (t_X10_leastLates hW  h36) (fun v46 m47 hh => ?_)
      obtain ⟨h47, hr47, hp47⟩ := hh
      refine wp_if (fun g55 => ?_) (fun g55 => ?_)
      · unfold X10_urgent_J68
        try dsimp only
        refine wp_ldv (by have na0 : ((aN 50 : Nat) : Int) = 8 := rfl; have := gO_1_5 (rfl : kD 48 = (11, 7)) (by decide) hS; omega) (fun v58 q59 => ?_)
        have hrv58 := gA_1_2 (rfl : kD 48 = (11, 7)) (by decide) h47 (l4).toNat
        replace hrv58 : -2147483648 ≤ v58 ∧ v58 ≤ 2147483647 := by rw [q59]; exact hrv58
        refine wp_stv (P := St W μs) (by have na0 : ((aN 50 : Nat) : Int) = 8 := rfl; have := gO_1_5 (rfl : kD 48 = (11, 7)) (by decide) hS; omega) (pA_1_2 (rfl : kD 48 = (11, 7)) (by decide) h47 (hW _ _ (by unfold scr; omega)) (by have := iS_c v58 1; have := gO_1_5 (rfl : kD 48 = (11, 7)) (by decide) hS; omega)) (fun m61 h61 he61 => ?_)
        exact ih h61 (by have := gO_1_5 (rfl : kD 48 = (11, 7)) (by decide) hS; omega) (by have := iA_c l4 1; have := gO_1_5 (rfl : kD 48 = (11, 7)) (by decide) hS; omega) trivial (by have := iA_c l4 1; have := gO_1_5 (rfl : kD 48 = (11, 7)) (by decide) hS; omega)
      · refine wp_ltv (fun v62 q63 => ?_)
        unfold X10_urgent_J68
        try dsimp only
        refine wp_ldv (by have na0 : ((aN 50 : Nat) : Int) = 8 := rfl; have := gO_1_5 (rfl : kD 48 = (11, 7)) (by decide) hS; have := bL_r 1 l4; have := bO_r l3 (bL 1 l4); omega) (fun v69 q70 => ?_)
        have hrv69 := gA_1_2 (rfl : kD 48 = (11, 7)) (by decide) h47 (l4).toNat
        replace hrv69 : -2147483648 ≤ v69 ∧ v69 ≤ 2147483647 := by rw [q70]; exact hrv69
        refine wp_stv (P := St W μs) (by have na0 : ((aN 50 : Nat) : Int) = 8 := rfl; have := gO_1_5 (rfl : kD 48 = (11, 7)) (by decide) hS; have := bL_r 1 l4; have := bO_r l3 (bL 1 l4); omega) (pA_1_2 (rfl : kD 48 = (11, 7)) (by decide) h47 (hW _ _ (by unfold scr; omega)) (by have := iS_c v69 1; have := gO_1_5 (rfl : kD 48 = (11, 7)) (by decide) hS; have := bL_r 1 l4; have := bO_r l3 (bL 1 l4); omega)) (fun m72 h72 he72 => ?_)
        exact ih h72 (by have := gO_1_5 (rfl : kD 48 = (11, 7)) (by decide) hS; have := bL_r 1 l4; have := bO_r l3 (bL 1 l4); omega) (by have := iA_c l4 1; have := gO_1_5 (rfl : kD 48 = (11, 7)) (by decide) hS; have := bL_r 1 l4; have := bO_r l3 (bL 1 l4); omega) trivial (by have := iA_c l4 1; have := gO_1_5 (rfl : kD 48 = (11, 7)) (by decide) hS; have := bL_r 1 l4; have := bO_r l3 (bL 1 l4); omega)
set_option maxHeartbeats 4000000 in
set_option maxRecDepth 100000 in
theorem t_X10_urgent {W : Nat → Nat → Prop} {μs : Mm} {l1 : Int} (hW : ∀ k j, scr k j → W k j)  (hp_l1 : -2147483648 ≤ l1 ∧ l1 ≤ 2147483647) {μ : Mm} (hS : St W μs μ) : wp (X10_urgent l1 μ) (fun r μ' => St W μs μ' ∧ (-2147483648 ≤ r ∧ r ≤ 2147483647) ∧ True) := by
  have hFU := FU_v
  unfold X10_urgent
  refine wp_call (t_X10_lay (l1 := l1) hW (by omega) hS) (fun v5 m6 hh => ?_)
  obtain ⟨h6, hr6, hp6⟩ := hh
  refine wp_if (fun g9 => ?_) (fun g9 => ?_)
  · exact ⟨h6, (by omega), trivial⟩
  · refine wp_call (t_X10_leastLates hW  h6) (fun v10 m11 hh => ?_)
    obtain ⟨h11, hr11, hp11⟩ := hh
    refine wp_if (fun g12 => ?_) (fun g12 => ?_)
    · exact ⟨h11, (by omega), trivial⟩
    · exact t_X10_urgent_L27 (l2 := v10) (l3 := 0) (l4 := 0) hW (by omega) (fun r_ m_ h_ hr_ hp_ => by exact ⟨h_, (by omega), trivial⟩) FU h11 (by omega) (by omega) trivial (by omega)
set_option maxHeartbeats 4000000 in
set_option maxRecDepth 100000 in
theorem t_X10_skip_L65 {W : Nat → Nat → Prop} {μs : Mm} {l3 : Int} {l4 : Int} (hW : ∀ k j, scr k j → W k j)  (hp_l3 : -2147483648 ≤ l3 ∧ l3 ≤ 2147483647) (hp_l4 : -2147483648 ≤ l4 ∧ l4 ≤ 2147483647) {k118 : Int → Mm → Rs} {Q : Int → Mm → Prop} (hk_k118 : ∀ (a0 : Int) (μ : Mm), St W μs μ → (-2147483648 ≤ a0 ∧ a0 ≤ 2147483647) → True → wp (k118 a0 μ) Q) : ∀ (n : Nat) {l5 l6 : Int} {μ : Mm}, St W μs μ → (-2147483648 ≤ l5 ∧ l5 ≤ 2147483647) → (0 ≤ l6 ∧ l6 ≤ 8) → True → 8 - l6 + 1 ≤ ((n : Nat) : Int) → wp (X10_skip_L65 l3 l4 k118 n l5 l6 μ) Q := by
  have hFU := FU_v
  intro n
  induction n with
  | zero => intro l5 l6 μ hS hv_l5 hv_l6 hi hm; exact absurd hm (by  have : ((0 : Nat) : Int) = 0 := rfl; omega)
  | succ n ih =>
    intro l5 l6 μ hS hv_l5 hv_l6 hi hm
    have hn1 : ((n + 1 : Nat) : Int) = ((n : Nat) : Int) + 1 := rfl
    rw [X10_skip_L65]
    refine wp_if (fun g7 => ?_) (fun g7 => ?_)
    · exact hk_k118 l5 μ hS (by have := gO_1_5 (rfl : kD 48 = (11, 7)) (by decide) hS; omega) trivial
    · refine wp_if (fun g8 => ?_) (fun g8 => ?_)
      · refine wp_ldv (by have na0 : ((aN 50 : Nat) : Int) = 8 := rfl; have := gO_1_5 (rfl : kD 48 = (11, 7)) (by decide) hS; omega) (fun v9 q10 => ?_)
        have hrv9 := gA_1_2 (rfl : kD 48 = (11, 7)) (by decide) hS (l6).toNat
        replace hrv9 : -2147483648 ≤ v9 ∧ v9 ≤ 2147483647 := by rw [q10]; exact hrv9
        refine wp_stv (P := St W μs) (by have na0 : ((aN 50 : Nat) : Int) = 8 := rfl; have := gO_1_5 (rfl : kD 48 = (11, 7)) (by decide) hS; omega) (pA_1_2 (rfl : kD 48 = (11, 7)) (by decide) hS (hW _ _ (by unfold scr; omega)) (by have := iS_c v9 l4; have := gO_1_5 (rfl : kD 48 = (11, 7)) (by decide) hS; omega)) (fun m12 h12 he12 => ?_)
        exact ih h12 (by have := gO_1_5 (rfl : kD 48 = (11, 7)) (by decide) hS; omega) (by have := iA_c l6 1; have := gO_1_5 (rfl : kD 48 = (11, 7)) (by decide) hS; omega) trivial (by have := iA_c l6 1; have := gO_1_5 (rfl : kD 48 = (11, 7)) (by decide) hS; omega)
      · refine wp_ltv (fun v13 q14 => ?_)
        exact ih hS (by have := gO_1_5 (rfl : kD 48 = (11, 7)) (by decide) hS; have := bL_r 1 l6; have := bX_r (bL 1 l6) (-1); have := bA_r l5 (bX (bL 1 l6) (-1)); omega) (by have := iA_c l6 1; have := gO_1_5 (rfl : kD 48 = (11, 7)) (by decide) hS; have := bL_r 1 l6; have := bX_r (bL 1 l6) (-1); have := bA_r l5 (bX (bL 1 l6) (-1)); omega) trivial (by have := iA_c l6 1; have := gO_1_5 (rfl : kD 48 = (11, 7)) (by decide) hS; have := bL_r 1 l6; have := bX_r (bL 1 l6) (-1); have := bA_r l5 (bX (bL 1 l6) (-1)); omega)
set_option maxHeartbeats 4000000 in
set_option maxRecDepth 100000 in
theorem t_X10_skip {W : Nat → Nat → Prop} {μs : Mm} {l1 : Int} {l2 : Int} {l3 : Int} (hW : ∀ k j, scr k j → W k j)  (hp_l1 : -2147483648 ≤ l1 ∧ l1 ≤ 2147483647) (hp_l2 : -2147483648 ≤ l2 ∧ l2 ≤ 2147483647) (hp_l3 : -2147483648 ≤ l3 ∧ l3 ≤ 2147483647) {μ : Mm} (hS : St W μs μ) : wp (X10_skip l1 l2 l3 μ) (fun r μ' => St W μs μ' ∧ (-2147483648 ≤ r ∧ r ≤ 2147483647) ∧ True) := by
  have hFU := FU_v
  unfold X10_skip
  refine wp_call (t_X10_lay (l1 := l1) hW (by omega) hS) (fun v11 m12 hh => ?_)
  obtain ⟨h12, hr12, hp12⟩ := hh
  refine wp_if (fun g21 => ?_) (fun g21 => ?_)
  · exact ⟨h12, (by omega), trivial⟩
  · refine wp_if (fun g22 => ?_) (fun g22 => ?_)
    · exact ⟨h12, (by omega), trivial⟩
    · refine wp_if (fun g23 => ?_) (fun g23 => ?_)
      · exact ⟨h12, (by omega), trivial⟩
      · refine wp_if (fun g24 => ?_) (fun g24 => ?_)
        · refine wp_ldv (by have na0 : ((aN 50 : Nat) : Int) = 8 := rfl; have := gO_1_5 (rfl : kD 48 = (11, 7)) (by decide) h12; omega) (fun v25 q26 => ?_)
          have hrv25 := gA_1_2 (rfl : kD 48 = (11, 7)) (by decide) h12 (l3).toNat
          replace hrv25 : -2147483648 ≤ v25 ∧ v25 ≤ 2147483647 := by rw [q26]; exact hrv25
          refine wp_ldv (by have := iS_c l2 1; have na1 : ((aN 50 : Nat) : Int) = 8 := rfl; have := gO_1_5 (rfl : kD 48 = (11, 7)) (by decide) h12; omega) (fun v34 q35 => ?_)
          have hrv34 := gA_1_2 (rfl : kD 48 = (11, 7)) (by decide) h12 ((iS l2 1)).toNat
          replace hrv34 : -2147483648 ≤ v34 ∧ v34 ≤ 2147483647 := by rw [q35]; exact hrv34
          refine wp_calls (t_X1_allCues (l0 := 48)  (rfl : kD 48 = (11, 7)) h12) (fun v42 hh => ?_)
          obtain ⟨hr43, hp43⟩ := hh
          refine t_X10_skip_L65 (l3 := l3) (l4 := (iS v25 v34)) (l5 := v42) (l6 := l2) hW (by have := gO_1_5 (rfl : kD 48 = (11, 7)) (by decide) h12; omega) (by have := iS_c v25 v34; have := gO_1_5 (rfl : kD 48 = (11, 7)) (by decide) h12; omega) (fun v48 m49 h49 hrv48 hp49 => ?_) FU h12 (by have := gO_1_5 (rfl : kD 48 = (11, 7)) (by decide) h12; omega) (by have := gO_1_5 (rfl : kD 48 = (11, 7)) (by decide) h12; omega) trivial (by have := gO_1_5 (rfl : kD 48 = (11, 7)) (by decide) h12; omega)
          refine wp_call (t_X10_latesByBook (l1 := v48) hW (by have := gO_1_5 (rfl : kD 48 = (11, 7)) (by decide) h12; omega) h49) (fun v52 m53 hh => ?_)
          obtain ⟨h53, hr53, hp53⟩ := hh
          exact ⟨h53, (by have := gO_1_5 (rfl : kD 48 = (11, 7)) (by decide) h12; omega), trivial⟩
        · exact ⟨h12, (by have := gO_1_5 (rfl : kD 48 = (11, 7)) (by decide) h12; omega), trivial⟩
set_option maxHeartbeats 4000000 in
set_option maxRecDepth 100000 in
theorem t_X10_nights_L37 {W : Nat → Nat → Prop} {μs : Mm} {l1 : Int} {l2 : Int} {l3 : Int} (hW : ∀ k j, scr k j → W k j)  (hp_l1 : 0 ≤ l1 ∧ l1 ≤ 4) (hp_l2 : 1 ≤ l2 ∧ l2 ≤ 30) (hp_l3 : -2147483648 ≤ l3 ∧ l3 ≤ 2147483647) {k103 : Int → Int → Mm → Rs} {Q : Int → Mm → Prop} (hk_k103 : ∀ (a0 a1 : Int) (μ : Mm), St W μs μ → (-2147483648 ≤ a0 ∧ a0 ≤ 2147483647) → (-2147483648 ≤ a1 ∧ a1 ≤ 2147483647) → True → wp (k103 a0 a1 μ) Q) : ∀ (n : Nat) {l4 l5 l6 : Int} {μ : Mm}, St W μs μ → (-2147483648 ≤ l4 ∧ l4 ≤ 2147483647) → (-2147483648 ≤ l5 ∧ l5 ≤ 2147483647) → (0 ≤ l6 ∧ l6 ≤ 30) → True → 30 - l6 + 1 ≤ ((n : Nat) : Int) → wp (X10_nights_L37 l1 l2 l3 k103 n l4 l5 l6 μ) Q := by
  have hFU := FU_v
  intro n
  induction n with
  | zero => intro l4 l5 l6 μ hS hv_l4 hv_l5 hv_l6 hi hm; exact absurd hm (by  have : ((0 : Nat) : Int) = 0 := rfl; omega)
  | succ n ih =>
    intro l4 l5 l6 μ hS hv_l4 hv_l5 hv_l6 hi hm
    have hn1 : ((n + 1 : Nat) : Int) = ((n : Nat) : Int) + 1 := rfl
    rw [X10_nights_L37]
    refine wp_if (fun g19 => ?_) (fun g19 => ?_)
    · exact hk_k103 l4 l5 μ hS (by omega) (by omega) trivial
    · have hi22 : 0 ≤ l1 ∧ l1 < ((aN 17 : Nat) : Int) := (by show _ ∧ _ < (5 : Int); omega)
      refine wp_aLv hi22 (fun v20 q21 => ?_)
      have hkv20 : kD v20 = (13, 3) := by rw [q21]; exact kA17 hi22
      have hbv20 := kPr' hkv20
      refine wp_calls (t_X10_lawThatHolds   hS) (fun v31 hh => ?_)
      obtain ⟨hr32, hp32⟩ := hh
      refine wp_call (t_X2_fillTimes (l1 := v20) (l2 := v31) (l3 := l6) hW hkv20 hp32 (by omega) hS) (fun v39 m40 hh => ?_)
      obtain ⟨h40, hr40, hp40⟩ := hh
      refine wp_calls (t_X1_allCues (l0 := 48)  (rfl : kD 48 = (11, 7)) h40) (fun v45 hh => ?_)
      obtain ⟨hr46, hp46⟩ := hh
      refine wp_call (t_X10_latesByBook (l1 := v45) hW (by omega) h40) (fun v49 m50 hh => ?_)
      obtain ⟨h50, hr50, hp50⟩ := hh
      refine wp_if (fun g51 => ?_) (fun g51 => ?_)
      · exact ih h50 (by omega) (by omega) (by have := iA_c l6 1; omega) trivial (by have := iA_c l6 1; omega)
      · exact ih h50 (by omega) (by omega) (by have := iA_c l6 1; omega) trivial (by have := iA_c l6 1; omega)
set_option maxHeartbeats 4000000 in
set_option maxRecDepth 100000 in
theorem t_X10_nights {W : Nat → Nat → Prop} {μs : Mm} {l1 : Int} {l2 : Int} {l3 : Int} (hW : ∀ k j, scr k j → W k j)  (hp_l1 : -2147483648 ≤ l1 ∧ l1 ≤ 2147483647) (hp_l2 : -2147483648 ≤ l2 ∧ l2 ≤ 2147483647) (hp_l3 : -2147483648 ≤ l3 ∧ l3 ≤ 2147483647) {μ : Mm} (hS : St W μs μ) : wp (X10_nights l1 l2 l3 μ) (fun r μ' => St W μs μ' ∧ (-2147483648 ≤ r ∧ r ≤ 2147483647) ∧ True) := by
  have hFU := FU_v
  unfold X10_nights
  refine wp_calls (t_X10_isHalf (l0 := l3)  (by omega) hS) (fun v8 hh => ?_)
  obtain ⟨hr9, hp9⟩ := hh
  refine wp_if (fun g15 => ?_) (fun g15 => ?_)
  · exact ⟨hS, (by omega), trivial⟩
  · refine wp_if (fun g16 => ?_) (fun g16 => ?_)
    · exact ⟨hS, (by omega), trivial⟩
    · refine wp_if (fun g17 => ?_) (fun g17 => ?_)
      · exact ⟨hS, (by omega), trivial⟩
      · refine wp_call (t_X10_lay (l1 := l1) hW (by omega) hS) (fun v18 m19 hh => ?_)
        obtain ⟨h19, hr19, hp19⟩ := hh
        refine wp_if (fun g23 => ?_) (fun g23 => ?_)
        · exact ⟨h19, (by omega), trivial⟩
        · refine t_X10_nights_L37 (l1 := l1) (l2 := l2) (l3 := l3) (l4 := (-1)) (l5 := (-1)) (l6 := 0) hW (by omega) (by omega) (by omega) (fun v24 v25 m26 h26 hrv24 hrv25 hp26 => ?_) FU h19 (by omega) (by omega) (by omega) trivial (by omega)
          refine wp_if (fun g27 => ?_) (fun g27 => ?_)
          · exact ⟨h26, (by omega), trivial⟩
          · exact ⟨h26, (by omega), trivial⟩
set_option maxHeartbeats 4000000 in
set_option maxRecDepth 100000 in
theorem t_X10_slack_L50 {W : Nat → Nat → Prop} {μs : Mm} {l2 : Int} {l3 : Int} (hW : ∀ k j, scr k j → W k j)  (hp_l2 : 0 ≤ l2 ∧ l2 ≤ 7) (hp_l3 : -2147483648 ≤ l3 ∧ l3 ≤ 2147483647) {k85 : Int → Mm → Rs} {Q : Int → Mm → Prop} (hk_k85 : ∀ (a0 : Int) (μ : Mm), St W μs μ → (-2147483648 ≤ a0 ∧ a0 ≤ 2147483647) → True → wp (k85 a0 μ) Q) (hQ : ∀ r μ, St W μs μ → (-2147483648 ≤ r ∧ r ≤ 2147483647) → True → Q r μ) : ∀ (n : Nat) {l4 l5 : Int} {μ : Mm}, St W μs μ → (-2147483648 ≤ l4 ∧ l4 ≤ 2147483647) → (1 ≤ l5 ∧ l5 ≤ 31) → True → 31 - l5 + 1 ≤ ((n : Nat) : Int) → wp (X10_slack_L50 l2 l3 k85 n l4 l5 μ) Q := by
  have hFU := FU_v
  intro n
  induction n with
  | zero => intro l4 l5 μ hS hv_l4 hv_l5 hi hm; exact absurd hm (by  have : ((0 : Nat) : Int) = 0 := rfl; omega)
  | succ n ih =>
    intro l4 l5 μ hS hv_l4 hv_l5 hi hm
    have hn1 : ((n + 1 : Nat) : Int) = ((n : Nat) : Int) + 1 := rfl
    rw [X10_slack_L50]
    refine wp_if (fun g13 => ?_) (fun g13 => ?_)
    · exact hQ _ _ hS (by omega) trivial
    · refine wp_ldv (by have na0 : ((aN 51 : Nat) : Int) = 8 := rfl; omega) (fun v14 q15 => ?_)
      have hrv14 := gA_1_3 (rfl : kD 48 = (11, 7)) (by decide) hS (l2).toNat
      replace hrv14 : -2147483648 ≤ v14 ∧ v14 ≤ 2147483647 := by rw [q15]; exact hrv14
      refine wp_stv (P := St W μs) (by have na0 : ((aN 51 : Nat) : Int) = 8 := rfl; omega) (pA_1_3 (rfl : kD 48 = (11, 7)) (by decide) hS (hW _ _ (by unfold scr; omega)) (by have := iA_c v14 1; omega)) (fun m21 h21 he21 => ?_)
      refine wp_calls (t_X1_allCues (l0 := 48)  (rfl : kD 48 = (11, 7)) h21) (fun v26 hh => ?_)
      obtain ⟨hr27, hp27⟩ := hh
      refine wp_call (t_X10_latesByBook (l1 := v26) hW (by omega) h21) (fun v30 m31 hh => ?_)
      obtain ⟨h31, hr31, hp31⟩ := hh
      refine wp_if (fun g32 => ?_) (fun g32 => ?_)
      · exact ih h31 (by omega) (by have := iA_c l5 1; omega) trivial (by have := iA_c l5 1; omega)
      · exact hk_k85 l4 m31 h31 (by omega) trivial
set_option maxHeartbeats 4000000 in
set_option maxRecDepth 100000 in
theorem t_X10_slack {W : Nat → Nat → Prop} {μs : Mm} {l1 : Int} {l2 : Int} (hW : ∀ k j, scr k j → W k j)  (hp_l1 : -2147483648 ≤ l1 ∧ l1 ≤ 2147483647) (hp_l2 : -2147483648 ≤ l2 ∧ l2 ≤ 2147483647) {μ : Mm} (hS : St W μs μ) : wp (X10_slack l1 l2 μ) (fun r μ' => St W μs μ' ∧ (-2147483648 ≤ r ∧ r ≤ 2147483647) ∧ True) := by
  have hFU := FU_v
  unfold X10_slack
  refine wp_call (t_X10_lay (l1 := l1) hW (by omega) hS) (fun v9 m10 hh => ?_)
  obtain ⟨h10, hr10, hp10⟩ := hh
  refine wp_if (fun g17 => ?_) (fun g17 => ?_)
  · exact ⟨h10, (by omega), trivial⟩
  · refine wp_if (fun g18 => ?_) (fun g18 => ?_)
    · exact ⟨h10, (by omega), trivial⟩
    · refine wp_if (fun g19 => ?_) (fun g19 => ?_)
      · refine wp_calls (t_X1_allCues (l0 := 48)  (rfl : kD 48 = (11, 7)) h10) (fun v20 hh => ?_)
        obtain ⟨hr21, hp21⟩ := hh
        refine wp_call (t_X10_latesByBook (l1 := v20) hW (by have := gO_1_5 (rfl : kD 48 = (11, 7)) (by decide) h10; omega) h10) (fun v26 m27 hh => ?_)
        obtain ⟨h27, hr27, hp27⟩ := hh
        refine wp_if (fun g30 => ?_) (fun g30 => ?_)
        · exact ⟨h27, (by have := gO_1_5 (rfl : kD 48 = (11, 7)) (by decide) h10; omega), trivial⟩
        · refine t_X10_slack_L50 (l2 := l2) (l3 := v26) (l4 := 0) (l5 := 1) hW (by have := gO_1_5 (rfl : kD 48 = (11, 7)) (by decide) h10; omega) (by have := gO_1_5 (rfl : kD 48 = (11, 7)) (by decide) h10; omega) (fun v31 m32 h32 hrv31 hp32 => ?_) (fun r_ m_ h_ hr_ hp_ => by exact ⟨h_, (by have := gO_1_5 (rfl : kD 48 = (11, 7)) (by decide) h10; omega), trivial⟩) FU h27 (by have := gO_1_5 (rfl : kD 48 = (11, 7)) (by decide) h10; omega) (by have := gO_1_5 (rfl : kD 48 = (11, 7)) (by decide) h10; omega) trivial (by have := gO_1_5 (rfl : kD 48 = (11, 7)) (by decide) h10; omega)
          exact ⟨h32, (by have := gO_1_5 (rfl : kD 48 = (11, 7)) (by decide) h10; omega), trivial⟩
      · exact ⟨h10, (by have := gO_1_5 (rfl : kD 48 = (11, 7)) (by decide) h10; omega), trivial⟩
set_option maxHeartbeats 4000000 in
set_option maxRecDepth 100000 in
theorem t_X10_thud {W : Nat → Nat → Prop} {μs : Mm} {l1 : Int} {l2 : Int} (hW : ∀ k j, scr k j → W k j) (hA : ∀ k j, k < 70 → W k j)  (hp_l1 : -2147483648 ≤ l1 ∧ l1 ≤ 2147483647) (hp_l2 : -2147483648 ≤ l2 ∧ l2 ≤ 2147483647) {μ : Mm} (hS : St W μs μ) : wp (X10_thud l1 l2 μ) (fun r μ' => St W μs μ' ∧ (-2147483648 ≤ r ∧ r ≤ 2147483647) ∧ True) := by
  have hFU := FU_v
  unfold X10_thud
  refine wp_if (fun g5 => ?_) (fun g5 => ?_)
  · exact ⟨hS, (by omega), trivial⟩
  · refine wp_if (fun g6 => ?_) (fun g6 => ?_)
    · exact ⟨hS, (by omega), trivial⟩
    · refine wp_calls (t_X0_placeOf (l0 := 5) (l1 := l2)  (rfl : kD 5 = (10, 9)) (by omega) hS) (fun v7 hh => ?_)
      obtain ⟨hr8, hp8⟩ := hh
      refine wp_if (fun g11 => ?_) (fun g11 => ?_)
      · exact ⟨hS, (by omega), trivial⟩
      · refine wp_call (t_X8_add (l1 := l1) (l2 := l2) hW hA (by omega) (by omega) hS) (fun v12 m13 hh => ?_)
        obtain ⟨h13, hr13, hp13⟩ := hh
        refine wp_if (fun g14 => ?_) (fun g14 => ?_)
        · exact ⟨h13, (by omega), trivial⟩
        · exact ⟨h13, (by have := gO_8_2 (rfl : kD 67 = (18, 7)) (by decide) h13; omega), trivial⟩
set_option maxHeartbeats 4000000 in
set_option maxRecDepth 100000 in
theorem t_X10_fit {W : Nat → Nat → Prop} {μs : Mm} {l1 : Int} {l2 : Int} (hW : ∀ k j, scr k j → W k j)  (hp_l1 : -2147483648 ≤ l1 ∧ l1 ≤ 2147483647) (hp_l2 : -2147483648 ≤ l2 ∧ l2 ≤ 2147483647) {μ : Mm} (hS : St W μs μ) : wp (X10_fit l1 l2 μ) (fun r μ' => St W μs μ' ∧ (-2147483648 ≤ r ∧ r ≤ 2147483647) ∧ True) := by
  have hFU := FU_v
  unfold X10_fit
  refine wp_if (fun g5 => ?_) (fun g5 => ?_)
  · exact ⟨hS, (by omega), trivial⟩
  · refine wp_call (t_X10_lay (l1 := l1) hW (by omega) hS) (fun v6 m7 hh => ?_)
    obtain ⟨h7, hr7, hp7⟩ := hh
    refine wp_if (fun g10 => ?_) (fun g10 => ?_)
    · exact ⟨h7, (by omega), trivial⟩
    · refine wp_call (t_X8_fitting (l1 := 48) (l2 := l2) hW (rfl : kD 48 = (11, 7)) (by omega) h7) (fun v11 m12 hh => ?_)
      obtain ⟨h12, hr12, hp12⟩ := hh
      exact ⟨h12, (by omega), trivial⟩
set_option maxHeartbeats 4000000 in
set_option maxRecDepth 100000 in
theorem t_X10_boy {W : Nat → Nat → Prop} {μs : Mm} {l1 : Int} {l2 : Int} {l3 : Int} {l4 : Int} (hW : ∀ k j, scr k j → W k j)  (hp_l1 : -2147483648 ≤ l1 ∧ l1 ≤ 2147483647) (hp_l2 : -2147483648 ≤ l2 ∧ l2 ≤ 2147483647) (hp_l3 : -2147483648 ≤ l3 ∧ l3 ≤ 2147483647) (hp_l4 : -2147483648 ≤ l4 ∧ l4 ≤ 2147483647) {μ : Mm} (hS : St W μs μ) : wp (X10_boy l1 l2 l3 l4 μ) (fun r μ' => St W μs μ' ∧ (-2147483648 ≤ r ∧ r ≤ 2147483647) ∧ True) := by
  have hFU := FU_v
  unfold X10_boy
  refine wp_calls (t_X10_isHalf (l0 := l4)  (by omega) hS) (fun v13 hh => ?_)
  obtain ⟨hr14, hp14⟩ := hh
  refine wp_if (fun g25 => ?_) (fun g25 => ?_)
  · exact ⟨hS, (by omega), trivial⟩
  · refine wp_if (fun g26 => ?_) (fun g26 => ?_)
    · exact ⟨hS, (by omega), trivial⟩
    · refine wp_if (fun g27 => ?_) (fun g27 => ?_)
      · exact ⟨hS, (by omega), trivial⟩
      · refine wp_calls (t_X0_isOpen (l0 := 5) (l1 := l2)  (rfl : kD 5 = (10, 9)) (by omega) hS) (fun v28 hh => ?_)
        obtain ⟨hr29, hp29⟩ := hh
        refine wp_if (fun g38 => ?_) (fun g38 => ?_)
        · exact ⟨hS, (by omega), trivial⟩
        · refine wp_call (t_X10_lay (l1 := l1) hW (by omega) hS) (fun v39 m40 hh => ?_)
          obtain ⟨h40, hr40, hp40⟩ := hh
          refine wp_if (fun g47 => ?_) (fun g47 => ?_)
          · exact ⟨h40, (by omega), trivial⟩
          · refine wp_call (t_X1_copy (l0 := 53) (l1 := 48) hW (rfl : kD 53 = (11, 7)) (rfl : kD 48 = (11, 7)) h40) (fun v48 m49 hh => ?_)
            obtain ⟨h49, hr49, hp49⟩ := hh
            refine wp_call (t_X1_standAt (l0 := 53) (l1 := 5) (l2 := l2) (l3 := l3) hW (rfl : kD 53 = (11, 7)) (rfl : kD 5 = (10, 9)) (by omega) (by omega) h49) (fun v54 m55 hh => ?_)
            obtain ⟨h55, hr55, hp55⟩ := hh
            refine wp_call (t_X6_share (l1 := 48) (l2 := 53) hW (rfl : kD 48 = (11, 7)) (rfl : kD 53 = (11, 7)) h55) (fun v58 m59 hh => ?_)
            obtain ⟨h59, hr59, hp59⟩ := hh
            refine wp_if (fun g60 => ?_) (fun g60 => ?_)
            · exact ⟨h59, (by omega), trivial⟩
            · refine wp_if (fun g61 => ?_) (fun g61 => ?_)
              · exact ⟨h59, (by omega), trivial⟩
              · exact ⟨h59, (by have := gO_6_7 (rfl : kD 62 = (16, 9)) (by decide) h59; omega), trivial⟩
/-! BOXES of the reference, what it may write when it is asked, and what its kept cells bear -/
def bmO : List (Int × Int) := [(-2147483648, 2147483647), (-2147483648, 2147483647), (0, 160), (0, 1000), (-1, 1000), (-2147483648, 2147483647), (-2147483648, 2147483647), (-2147483648, 2147483647), (-2147483648, 2147483647), (-2147483648, 2147483647), (-2147483648, 2147483647), (-2147483648, 2147483647), (-2147483648, 2147483647), (0, 4), (0, 4), (-2147483648, 2147483647), (-2147483648, 2147483647), (-2147483648, 2147483647), (0, 7), (0, 9), (-2147483648, 2147483647), (0, 1), (-2147483648, 2147483647), (0, 6), (0, 9), (-2147483648, 2147483647), (-2147483648, 2147483647), (-2147483648, 2147483647), (0, 5), (-2147483648, 2147483647), (1, 9), (0, 99), (-1, 3), (-2147483648, 2147483647), (-2147483648, 2147483647), (-2147483648, 2147483647), (-2147483648, 2147483647), (0, 8), (-2147483648, 2147483647), (-2147483648, 2147483647), (-2147483648, 2147483647), (-2147483648, 2147483647), (-2147483648, 2147483647), (-2147483648, 2147483647), (-2147483648, 2147483647), (0, 10), (-2147483648, 2147483647), (-2147483648, 2147483647), (-2147483648, 2147483647), (-2147483648, 2147483647), (-2147483648, 2147483647), (0, 9), (0, 99), (0, 1)]
def bmR : List (Int × Int) := [(-2147483648, 2147483647), (-2147483648, 2147483647), (-2147483648, 2147483647), (0, 340), (0, 90), (-2147483648, 2147483647), (-2147483648, 2147483647), (-2147483648, 2147483647), (-2147483648, 2147483647), (-2147483648, 2147483647), (-1, 10), (0, 10), (-2147483648, 2147483647), (-2147483648, 2147483647), (0, 8), (0, 30), (-2147483648, 2147483647), (-2147483648, 2147483647), (-2147483648, 2147483647), (-2147483648, 2147483647), (-2147483648, 2147483647), (-2147483648, 2147483647), (0, 999), (0, 7), (-2147483648, 2147483647), (0, 10), (0, 30)]
def bm (k j : Nat) : Int × Int := if k = 70 then bmO.getD j (-2147483648, 2147483647) else bmR.getD (k - 71) (-2147483648, 2147483647)
def Bm (μ : Mm) : Prop := ∀ k j, 70 ≤ k → (bm k j).1 ≤ μ k j ∧ μ k j ≤ (bm k j).2
def scrM (k j : Nat) : Prop := k = 79 ∨ k = 80 ∨ (87 ≤ k ∧ k ≤ 92) ∨ k = 95 ∨ (k = 70 ∧ (j = 37 ∨ j = 38 ∨ j = 41 ∨ j = 42 ∨ j = 46 ∨ j = 47))
def Sm (μs μ : Mm) : Prop := Bm μ ∧ fw scrM μs μ
def isP (μ : Mm) (p : Nat) : Prop := ((p / 10 : Nat) : Int) < μ 70 23 ∧ ((p % 10 : Nat) : Int) < μ 70 24
/-- two memories have the same tables of the LAW q -/
def agr (q : Int) (ν μ : Mm) : Prop := (∀ j : Nat, 340 * q ≤ j → (j : Int) < 340 * q + 340 → ν 72 j = μ 72 j ∧ ν 73 j = μ 73 j) ∧ ν 75 q.toNat = μ 75 q.toNat ∧ (∀ j : Nat, 90 * q ≤ j → (j : Int) < 90 * q + 90 → ν 76 j = μ 76 j ∧ ν 77 j = μ 77 j ∧ ν 78 j = μ 78 j)
/-- the LAW q can be worked out in any memory that has its tables -/
def LawOK (μ : Mm) (q : Int) : Prop := ∀ ν : Mm, Bm ν → agr q ν μ → wp (X11_worthOf q ν) (fun r ν' => fw (fun k _ => k = 80) ν ν' ∧ (∀ j, rI (ν' 80 j)) ∧ rI r)
/-- START and each CRANK lie at one place at most -/
def UQ (μ : Mm) (c : Nat) : Prop := ∀ p q, p < 60 → q < 60 → isP μ p → isP μ q → μ c p = μ c q → 2 ≤ μ c p → p = q
/-- what the kept cells bear -/
def Ir (μ : Mm) : Prop := Bm μ ∧ (∀ p k : Nat, (p : Int) < μ 70 28 → (k : Int) < μ 85 p → 0 ≤ μ 83 (8 * p + k) ∧ μ 83 (8 * p + k) ≤ 7) ∧ (μ 70 23 ≠ 0 → ∃ p, p < 60 ∧ isP μ p ∧ μ 82 p = 2) ∧ (μ 70 53 ≠ 0 → ∃ p, p < 60 ∧ isP μ p ∧ μ 96 p = 2) ∧ μ 70 32 < μ 70 13 ∧ (∀ q : Int, 0 ≤ q → q < μ 70 13 → LawOK μ q) ∧ UQ μ 82 ∧ (μ 70 53 ≠ 0 → UQ μ 96)
theorem Sm_rf {μ : Mm} (h : Bm μ) : Sm μ μ := ⟨h, fw_rf⟩
theorem eqS {μs μ : Mm} (h : Sm μs μ) {k j : Nat} (hn : ¬ scrM k j) : μ k j = μs k j := h.2 k j hn
theorem Sm_sM {μs μ : Mm} {a j : Nat} {v : Int} (h : Sm μs μ) (hw : scrM a j) (hv : (bm a j).1 ≤ v ∧ v ≤ (bm a j).2) : Sm μs (sM μ a j v) := by
  refine ⟨fun k i hk => ?_, fw_sM h.2 hw⟩
  unfold sM
  by_cases c : k = a ∧ i = j
  · rw [if_pos c, c.1, c.2]; exact hv
  · rw [if_neg c]; exact h.1 k i hk
theorem PV_at {μs μ : Mm} (hI : Ir μs) (h : Sm μs μ) {p k i : Int} (hp : 0 ≤ p ∧ p < μs 70 28) (hk : 0 ≤ k ∧ k < μs 85 p.toNat) (hi : i = 8 * p + k) : 0 ≤ μ 83 i.toNat ∧ μ 83 i.toNat ≤ 7 := by
  rw [eqS h (by unfold scrM; omega)]
  have h1 := hI.2.1 p.toNat k.toNat (by omega) (by omega)
  have e : i.toNat = 8 * p.toNat + k.toNat := by omega
  rw [e]
  exact h1

theorem gO_11_0 {μs μ : Mm} (h : Sm μs μ) : -2147483648 ≤ μ 70 0 ∧ μ 70 0 ≤ 2147483647 := h.1 70 0 (by decide)
theorem gO_11_1 {μs μ : Mm} (h : Sm μs μ) : -2147483648 ≤ μ 70 1 ∧ μ 70 1 ≤ 2147483647 := h.1 70 1 (by decide)
theorem gO_11_2 {μs μ : Mm} (h : Sm μs μ) : 0 ≤ μ 70 2 ∧ μ 70 2 ≤ 160 := h.1 70 2 (by decide)
theorem gO_11_3 {μs μ : Mm} (h : Sm μs μ) : 0 ≤ μ 70 3 ∧ μ 70 3 ≤ 1000 := h.1 70 3 (by decide)
theorem gO_11_4 {μs μ : Mm} (h : Sm μs μ) : -1 ≤ μ 70 4 ∧ μ 70 4 ≤ 1000 := h.1 70 4 (by decide)
theorem gO_11_5 {μs μ : Mm} (h : Sm μs μ) : -2147483648 ≤ μ 70 5 ∧ μ 70 5 ≤ 2147483647 := h.1 70 5 (by decide)
theorem gO_11_6 {μs μ : Mm} (h : Sm μs μ) : -2147483648 ≤ μ 70 6 ∧ μ 70 6 ≤ 2147483647 := h.1 70 6 (by decide)
theorem gO_11_7 {μs μ : Mm} (h : Sm μs μ) : -2147483648 ≤ μ 70 7 ∧ μ 70 7 ≤ 2147483647 := h.1 70 7 (by decide)
theorem gO_11_8 {μs μ : Mm} (h : Sm μs μ) : -2147483648 ≤ μ 70 8 ∧ μ 70 8 ≤ 2147483647 := h.1 70 8 (by decide)
theorem gO_11_9 {μs μ : Mm} (h : Sm μs μ) : -2147483648 ≤ μ 70 9 ∧ μ 70 9 ≤ 2147483647 := h.1 70 9 (by decide)
theorem gO_11_10 {μs μ : Mm} (h : Sm μs μ) : -2147483648 ≤ μ 70 10 ∧ μ 70 10 ≤ 2147483647 := h.1 70 10 (by decide)
theorem gO_11_11 {μs μ : Mm} (h : Sm μs μ) : -2147483648 ≤ μ 70 11 ∧ μ 70 11 ≤ 2147483647 := h.1 70 11 (by decide)
theorem gO_11_12 {μs μ : Mm} (h : Sm μs μ) : -2147483648 ≤ μ 70 12 ∧ μ 70 12 ≤ 2147483647 := h.1 70 12 (by decide)
theorem gO_11_13 {μs μ : Mm} (h : Sm μs μ) : 0 ≤ μ 70 13 ∧ μ 70 13 ≤ 4 := h.1 70 13 (by decide)
theorem gO_11_14 {μs μ : Mm} (h : Sm μs μ) : 0 ≤ μ 70 14 ∧ μ 70 14 ≤ 4 := h.1 70 14 (by decide)
theorem gO_11_15 {μs μ : Mm} (h : Sm μs μ) : -2147483648 ≤ μ 70 15 ∧ μ 70 15 ≤ 2147483647 := h.1 70 15 (by decide)
theorem gO_11_16 {μs μ : Mm} (h : Sm μs μ) : -2147483648 ≤ μ 70 16 ∧ μ 70 16 ≤ 2147483647 := h.1 70 16 (by decide)
theorem gO_11_17 {μs μ : Mm} (h : Sm μs μ) : -2147483648 ≤ μ 70 17 ∧ μ 70 17 ≤ 2147483647 := h.1 70 17 (by decide)
theorem gO_11_18 {μs μ : Mm} (h : Sm μs μ) : 0 ≤ μ 70 18 ∧ μ 70 18 ≤ 7 := h.1 70 18 (by decide)
theorem gO_11_19 {μs μ : Mm} (h : Sm μs μ) : 0 ≤ μ 70 19 ∧ μ 70 19 ≤ 9 := h.1 70 19 (by decide)
theorem gO_11_20 {μs μ : Mm} (h : Sm μs μ) : -2147483648 ≤ μ 70 20 ∧ μ 70 20 ≤ 2147483647 := h.1 70 20 (by decide)
theorem gO_11_21 {μs μ : Mm} (h : Sm μs μ) : 0 ≤ μ 70 21 ∧ μ 70 21 ≤ 1 := h.1 70 21 (by decide)
theorem gO_11_22 {μs μ : Mm} (h : Sm μs μ) : -2147483648 ≤ μ 70 22 ∧ μ 70 22 ≤ 2147483647 := h.1 70 22 (by decide)
theorem gO_11_23 {μs μ : Mm} (h : Sm μs μ) : 0 ≤ μ 70 23 ∧ μ 70 23 ≤ 6 := h.1 70 23 (by decide)
theorem gO_11_24 {μs μ : Mm} (h : Sm μs μ) : 0 ≤ μ 70 24 ∧ μ 70 24 ≤ 9 := h.1 70 24 (by decide)
theorem gO_11_25 {μs μ : Mm} (h : Sm μs μ) : -2147483648 ≤ μ 70 25 ∧ μ 70 25 ≤ 2147483647 := h.1 70 25 (by decide)
theorem gO_11_26 {μs μ : Mm} (h : Sm μs μ) : -2147483648 ≤ μ 70 26 ∧ μ 70 26 ≤ 2147483647 := h.1 70 26 (by decide)
theorem gO_11_27 {μs μ : Mm} (h : Sm μs μ) : -2147483648 ≤ μ 70 27 ∧ μ 70 27 ≤ 2147483647 := h.1 70 27 (by decide)
theorem gO_11_28 {μs μ : Mm} (h : Sm μs μ) : 0 ≤ μ 70 28 ∧ μ 70 28 ≤ 5 := h.1 70 28 (by decide)
theorem gO_11_29 {μs μ : Mm} (h : Sm μs μ) : -2147483648 ≤ μ 70 29 ∧ μ 70 29 ≤ 2147483647 := h.1 70 29 (by decide)
theorem gO_11_30 {μs μ : Mm} (h : Sm μs μ) : 1 ≤ μ 70 30 ∧ μ 70 30 ≤ 9 := h.1 70 30 (by decide)
theorem gO_11_31 {μs μ : Mm} (h : Sm μs μ) : 0 ≤ μ 70 31 ∧ μ 70 31 ≤ 99 := h.1 70 31 (by decide)
theorem gO_11_32 {μs μ : Mm} (h : Sm μs μ) : -1 ≤ μ 70 32 ∧ μ 70 32 ≤ 3 := h.1 70 32 (by decide)
theorem gO_11_33 {μs μ : Mm} (h : Sm μs μ) : -2147483648 ≤ μ 70 33 ∧ μ 70 33 ≤ 2147483647 := h.1 70 33 (by decide)
theorem gO_11_34 {μs μ : Mm} (h : Sm μs μ) : -2147483648 ≤ μ 70 34 ∧ μ 70 34 ≤ 2147483647 := h.1 70 34 (by decide)
theorem gO_11_35 {μs μ : Mm} (h : Sm μs μ) : -2147483648 ≤ μ 70 35 ∧ μ 70 35 ≤ 2147483647 := h.1 70 35 (by decide)
theorem gO_11_36 {μs μ : Mm} (h : Sm μs μ) : -2147483648 ≤ μ 70 36 ∧ μ 70 36 ≤ 2147483647 := h.1 70 36 (by decide)
theorem gO_11_37 {μs μ : Mm} (h : Sm μs μ) : 0 ≤ μ 70 37 ∧ μ 70 37 ≤ 8 := h.1 70 37 (by decide)
theorem pO_11_37 {μs μ : Mm} {v : Int} (h : Sm μs μ) (hw : scrM 70 37) (hv : 0 ≤ v ∧ v ≤ 8) : Sm μs (sM μ 70 37 v) := Sm_sM h hw hv
theorem gO_11_38 {μs μ : Mm} (h : Sm μs μ) : -2147483648 ≤ μ 70 38 ∧ μ 70 38 ≤ 2147483647 := h.1 70 38 (by decide)
theorem pO_11_38 {μs μ : Mm} {v : Int} (h : Sm μs μ) (hw : scrM 70 38) (hv : -2147483648 ≤ v ∧ v ≤ 2147483647) : Sm μs (sM μ 70 38 v) := Sm_sM h hw hv
theorem gO_11_39 {μs μ : Mm} (h : Sm μs μ) : -2147483648 ≤ μ 70 39 ∧ μ 70 39 ≤ 2147483647 := h.1 70 39 (by decide)
theorem gO_11_40 {μs μ : Mm} (h : Sm μs μ) : -2147483648 ≤ μ 70 40 ∧ μ 70 40 ≤ 2147483647 := h.1 70 40 (by decide)
theorem gO_11_41 {μs μ : Mm} (h : Sm μs μ) : -2147483648 ≤ μ 70 41 ∧ μ 70 41 ≤ 2147483647 := h.1 70 41 (by decide)
theorem pO_11_41 {μs μ : Mm} {v : Int} (h : Sm μs μ) (hw : scrM 70 41) (hv : -2147483648 ≤ v ∧ v ≤ 2147483647) : Sm μs (sM μ 70 41 v) := Sm_sM h hw hv
theorem gO_11_42 {μs μ : Mm} (h : Sm μs μ) : -2147483648 ≤ μ 70 42 ∧ μ 70 42 ≤ 2147483647 := h.1 70 42 (by decide)
theorem pO_11_42 {μs μ : Mm} {v : Int} (h : Sm μs μ) (hw : scrM 70 42) (hv : -2147483648 ≤ v ∧ v ≤ 2147483647) : Sm μs (sM μ 70 42 v) := Sm_sM h hw hv
theorem gO_11_43 {μs μ : Mm} (h : Sm μs μ) : -2147483648 ≤ μ 70 43 ∧ μ 70 43 ≤ 2147483647 := h.1 70 43 (by decide)
theorem gO_11_44 {μs μ : Mm} (h : Sm μs μ) : -2147483648 ≤ μ 70 44 ∧ μ 70 44 ≤ 2147483647 := h.1 70 44 (by decide)
theorem gO_11_45 {μs μ : Mm} (h : Sm μs μ) : 0 ≤ μ 70 45 ∧ μ 70 45 ≤ 10 := h.1 70 45 (by decide)
theorem gO_11_46 {μs μ : Mm} (h : Sm μs μ) : -2147483648 ≤ μ 70 46 ∧ μ 70 46 ≤ 2147483647 := h.1 70 46 (by decide)
theorem pO_11_46 {μs μ : Mm} {v : Int} (h : Sm μs μ) (hw : scrM 70 46) (hv : -2147483648 ≤ v ∧ v ≤ 2147483647) : Sm μs (sM μ 70 46 v) := Sm_sM h hw hv
theorem gO_11_47 {μs μ : Mm} (h : Sm μs μ) : -2147483648 ≤ μ 70 47 ∧ μ 70 47 ≤ 2147483647 := h.1 70 47 (by decide)
theorem pO_11_47 {μs μ : Mm} {v : Int} (h : Sm μs μ) (hw : scrM 70 47) (hv : -2147483648 ≤ v ∧ v ≤ 2147483647) : Sm μs (sM μ 70 47 v) := Sm_sM h hw hv
theorem gO_11_48 {μs μ : Mm} (h : Sm μs μ) : -2147483648 ≤ μ 70 48 ∧ μ 70 48 ≤ 2147483647 := h.1 70 48 (by decide)
theorem gO_11_49 {μs μ : Mm} (h : Sm μs μ) : -2147483648 ≤ μ 70 49 ∧ μ 70 49 ≤ 2147483647 := h.1 70 49 (by decide)
theorem gO_11_50 {μs μ : Mm} (h : Sm μs μ) : -2147483648 ≤ μ 70 50 ∧ μ 70 50 ≤ 2147483647 := h.1 70 50 (by decide)
theorem gO_11_51 {μs μ : Mm} (h : Sm μs μ) : 0 ≤ μ 70 51 ∧ μ 70 51 ≤ 9 := h.1 70 51 (by decide)
theorem gO_11_52 {μs μ : Mm} (h : Sm μs μ) : 0 ≤ μ 70 52 ∧ μ 70 52 ≤ 99 := h.1 70 52 (by decide)
theorem gO_11_53 {μs μ : Mm} (h : Sm μs μ) : 0 ≤ μ 70 53 ∧ μ 70 53 ≤ 1 := h.1 70 53 (by decide)
theorem gA_11_1 {μs μ : Mm} (h : Sm μs μ) (j : Nat) : -2147483648 ≤ μ 71 j ∧ μ 71 j ≤ 2147483647 := h.1 71 j (by decide)
theorem gA_11_2 {μs μ : Mm} (h : Sm μs μ) (j : Nat) : -2147483648 ≤ μ 72 j ∧ μ 72 j ≤ 2147483647 := h.1 72 j (by decide)
theorem gA_11_3 {μs μ : Mm} (h : Sm μs μ) (j : Nat) : -2147483648 ≤ μ 73 j ∧ μ 73 j ≤ 2147483647 := h.1 73 j (by decide)
theorem gA_11_4 {μs μ : Mm} (h : Sm μs μ) (j : Nat) : 0 ≤ μ 74 j ∧ μ 74 j ≤ 340 := h.1 74 j (by decide)
theorem gA_11_5 {μs μ : Mm} (h : Sm μs μ) (j : Nat) : 0 ≤ μ 75 j ∧ μ 75 j ≤ 90 := h.1 75 j (by decide)
theorem gA_11_6 {μs μ : Mm} (h : Sm μs μ) (j : Nat) : -2147483648 ≤ μ 76 j ∧ μ 76 j ≤ 2147483647 := h.1 76 j (by decide)
theorem gA_11_7 {μs μ : Mm} (h : Sm μs μ) (j : Nat) : -2147483648 ≤ μ 77 j ∧ μ 77 j ≤ 2147483647 := h.1 77 j (by decide)
theorem gA_11_8 {μs μ : Mm} (h : Sm μs μ) (j : Nat) : -2147483648 ≤ μ 78 j ∧ μ 78 j ≤ 2147483647 := h.1 78 j (by decide)
theorem gA_11_9 {μs μ : Mm} (h : Sm μs μ) (j : Nat) : -2147483648 ≤ μ 79 j ∧ μ 79 j ≤ 2147483647 := h.1 79 j (by decide)
theorem pA_11_9 {μs μ : Mm} {j : Nat} {v : Int} (h : Sm μs μ) (hw : scrM 79 j) (hv : -2147483648 ≤ v ∧ v ≤ 2147483647) : Sm μs (sM μ 79 j v) := Sm_sM h hw hv
theorem gA_11_10 {μs μ : Mm} (h : Sm μs μ) (j : Nat) : -2147483648 ≤ μ 80 j ∧ μ 80 j ≤ 2147483647 := h.1 80 j (by decide)
theorem pA_11_10 {μs μ : Mm} {j : Nat} {v : Int} (h : Sm μs μ) (hw : scrM 80 j) (hv : -2147483648 ≤ v ∧ v ≤ 2147483647) : Sm μs (sM μ 80 j v) := Sm_sM h hw hv
theorem gA_11_11 {μs μ : Mm} (h : Sm μs μ) (j : Nat) : -1 ≤ μ 81 j ∧ μ 81 j ≤ 10 := h.1 81 j (by decide)
theorem gA_11_12 {μs μ : Mm} (h : Sm μs μ) (j : Nat) : 0 ≤ μ 82 j ∧ μ 82 j ≤ 10 := h.1 82 j (by decide)
theorem gA_11_13 {μs μ : Mm} (h : Sm μs μ) (j : Nat) : -2147483648 ≤ μ 83 j ∧ μ 83 j ≤ 2147483647 := h.1 83 j (by decide)
theorem gA_11_14 {μs μ : Mm} (h : Sm μs μ) (j : Nat) : -2147483648 ≤ μ 84 j ∧ μ 84 j ≤ 2147483647 := h.1 84 j (by decide)
theorem gA_11_15 {μs μ : Mm} (h : Sm μs μ) (j : Nat) : 0 ≤ μ 85 j ∧ μ 85 j ≤ 8 := h.1 85 j (by decide)
theorem gA_11_16 {μs μ : Mm} (h : Sm μs μ) (j : Nat) : 0 ≤ μ 86 j ∧ μ 86 j ≤ 30 := h.1 86 j (by decide)
theorem gA_11_17 {μs μ : Mm} (h : Sm μs μ) (j : Nat) : -2147483648 ≤ μ 87 j ∧ μ 87 j ≤ 2147483647 := h.1 87 j (by decide)
theorem pA_11_17 {μs μ : Mm} {j : Nat} {v : Int} (h : Sm μs μ) (hw : scrM 87 j) (hv : -2147483648 ≤ v ∧ v ≤ 2147483647) : Sm μs (sM μ 87 j v) := Sm_sM h hw hv
theorem gA_11_18 {μs μ : Mm} (h : Sm μs μ) (j : Nat) : -2147483648 ≤ μ 88 j ∧ μ 88 j ≤ 2147483647 := h.1 88 j (by decide)
theorem pA_11_18 {μs μ : Mm} {j : Nat} {v : Int} (h : Sm μs μ) (hw : scrM 88 j) (hv : -2147483648 ≤ v ∧ v ≤ 2147483647) : Sm μs (sM μ 88 j v) := Sm_sM h hw hv
theorem gA_11_19 {μs μ : Mm} (h : Sm μs μ) (j : Nat) : -2147483648 ≤ μ 89 j ∧ μ 89 j ≤ 2147483647 := h.1 89 j (by decide)
theorem pA_11_19 {μs μ : Mm} {j : Nat} {v : Int} (h : Sm μs μ) (hw : scrM 89 j) (hv : -2147483648 ≤ v ∧ v ≤ 2147483647) : Sm μs (sM μ 89 j v) := Sm_sM h hw hv
theorem gA_11_20 {μs μ : Mm} (h : Sm μs μ) (j : Nat) : -2147483648 ≤ μ 90 j ∧ μ 90 j ≤ 2147483647 := h.1 90 j (by decide)
theorem pA_11_20 {μs μ : Mm} {j : Nat} {v : Int} (h : Sm μs μ) (hw : scrM 90 j) (hv : -2147483648 ≤ v ∧ v ≤ 2147483647) : Sm μs (sM μ 90 j v) := Sm_sM h hw hv
theorem gA_11_21 {μs μ : Mm} (h : Sm μs μ) (j : Nat) : -2147483648 ≤ μ 91 j ∧ μ 91 j ≤ 2147483647 := h.1 91 j (by decide)
theorem pA_11_21 {μs μ : Mm} {j : Nat} {v : Int} (h : Sm μs μ) (hw : scrM 91 j) (hv : -2147483648 ≤ v ∧ v ≤ 2147483647) : Sm μs (sM μ 91 j v) := Sm_sM h hw hv
theorem gA_11_22 {μs μ : Mm} (h : Sm μs μ) (j : Nat) : -2147483648 ≤ μ 92 j ∧ μ 92 j ≤ 2147483647 := h.1 92 j (by decide)
theorem pA_11_22 {μs μ : Mm} {j : Nat} {v : Int} (h : Sm μs μ) (hw : scrM 92 j) (hv : -2147483648 ≤ v ∧ v ≤ 2147483647) : Sm μs (sM μ 92 j v) := Sm_sM h hw hv
theorem gA_11_23 {μs μ : Mm} (h : Sm μs μ) (j : Nat) : 0 ≤ μ 93 j ∧ μ 93 j ≤ 999 := h.1 93 j (by decide)
theorem gA_11_24 {μs μ : Mm} (h : Sm μs μ) (j : Nat) : 0 ≤ μ 94 j ∧ μ 94 j ≤ 7 := h.1 94 j (by decide)
theorem gA_11_25 {μs μ : Mm} (h : Sm μs μ) (j : Nat) : -2147483648 ≤ μ 95 j ∧ μ 95 j ≤ 2147483647 := h.1 95 j (by decide)
theorem pA_11_25 {μs μ : Mm} {j : Nat} {v : Int} (h : Sm μs μ) (hw : scrM 95 j) (hv : -2147483648 ≤ v ∧ v ≤ 2147483647) : Sm μs (sM μ 95 j v) := Sm_sM h hw hv
theorem gA_11_26 {μs μ : Mm} (h : Sm μs μ) (j : Nat) : 0 ≤ μ 96 j ∧ μ 96 j ≤ 10 := h.1 96 j (by decide)
theorem gA_11_27 {μs μ : Mm} (h : Sm μs μ) (j : Nat) : 0 ≤ μ 97 j ∧ μ 97 j ≤ 30 := h.1 97 j (by decide)
/-! bits of a set -/
def pc (x : Int) : Int := (List.range 8).foldl (fun s i => if bA (bR x ((i : Nat) : Int)) 1 = 1 then s + 1 else s) 0
theorem pc_n : ∀ x, x < 256 → 0 ≤ pc ((x : Nat) : Int) ∧ pc ((x : Nat) : Int) ≤ 8 := by decide +kernel
theorem pc_r {x : Int} (h : 0 ≤ x ∧ x ≤ 255) : 0 ≤ pc x ∧ pc x ≤ 8 := by
  have e : x = ((x.toNat : Nat) : Int) := by omega
  rw [e]
  exact pc_n x.toNat (by omega)
theorem pcl_n : ∀ c, c < 8 → ∀ x, x < 256 → bA (bR ((x : Nat) : Int) ((c : Nat) : Int)) 1 = 1 → 0 ≤ bA ((x : Nat) : Int) (bX (bL 1 ((c : Nat) : Int)) (-1)) ∧ bA ((x : Nat) : Int) (bX (bL 1 ((c : Nat) : Int)) (-1)) ≤ 255 ∧ pc (bA ((x : Nat) : Int) (bX (bL 1 ((c : Nat) : Int)) (-1))) + 1 = pc ((x : Nat) : Int) := by decide +kernel
theorem pcl {x c : Int} (h : 0 ≤ x ∧ x ≤ 255) (hc : 0 ≤ c ∧ c ≤ 7) : bA (bR x c) 1 ≠ 1 ∨ (0 ≤ bA x (bX (bL 1 c) (-1)) ∧ bA x (bX (bL 1 c) (-1)) ≤ 255 ∧ pc (bA x (bX (bL 1 c) (-1))) + 1 = pc x) := by
  have e : x = ((x.toNat : Nat) : Int) := by omega
  have e2 : c = ((c.toNat : Nat) : Int) := by omega
  rw [e, e2]
  by_cases h1 : bA (bR ((x.toNat : Nat) : Int) ((c.toNat : Nat) : Int)) 1 = 1
  · exact Or.inr (pcl_n c.toNat (by omega) x.toNat (by omega) h1)
  · exact Or.inl h1

theorem t_X11_worthOf {μs : Mm} {l1 : Int} (hI : Ir μs) (_hp : -2147483648 ≤ l1 ∧ l1 ≤ 2147483647) {μ : Mm} (hS : Sm μs μ) (hq : 0 ≤ l1 ∧ l1 < μs 70 13) : wp (X11_worthOf l1 μ) (fun r μ' => Sm μs μ' ∧ (-2147483648 ≤ r ∧ r ≤ 2147483647) ∧ μ' 70 37 = μ 70 37) := by
  have e : ∀ k j, ((72 ≤ k ∧ k ≤ 78) : Prop) → μ k j = μs k j := fun k j hk => eqS hS (by unfold scrM; omega)
  refine wp_mono (hI.2.2.2.2.2.1 l1 hq.1 hq.2 μ hS.1 ⟨fun j _ _ => ⟨e 72 j (by omega), e 73 j (by omega)⟩, e 75 _ (by omega), fun j _ _ => ⟨e 76 j (by omega), e 77 j (by omega), e 78 j (by omega)⟩⟩) (fun r μ' h => ⟨⟨fun k j hk => ?_, fun k j hn => ?_⟩, h.2.2, h.1 70 37 (by decide)⟩)
  · by_cases hkk : k = 80
    · rw [hkk]; exact h.2.1 j
    · rw [h.1 k j hkk]; exact hS.1 k j hk
  · have hkk : k ≠ 80 := fun e => hn (by unfold scrM; omega)
    rw [h.1 k j hkk]; exact hS.2 k j hn
/-! TOTALITY of the reference, by program (wip/gen/totm.py) -/
set_option maxHeartbeats 4000000 in
set_option maxRecDepth 100000 in
theorem t_X11_in {μs : Mm} {l0 : Int} {l1 : Int} {l2 : Int}  (hp_l0 : -2147483648 ≤ l0 ∧ l0 ≤ 2147483647) (hp_l1 : -2147483648 ≤ l1 ∧ l1 ≤ 2147483647) (hp_l2 : -2147483648 ≤ l2 ∧ l2 ≤ 2147483647) {μ : Mm} (hS : Sm μs μ) : wp (X11_in l0 l1 l2 μ) (fun r μ' => μ' = μ ∧ (0 ≤ r ∧ r ≤ 1) ∧ ((r = 0 ∧ (l0 < l1 ∨ l2 < l0)) ∨ (r = 1 ∧ l1 ≤ l0 ∧ l0 ≤ l2))) := by
  have hFU := FU_v
  unfold X11_in
  refine wp_if (fun g1 => ?_) (fun g1 => ?_)
  · exact ⟨rfl, (by omega), (by show ((0 = 0 ∧ (l0 < l1 ∨ l2 < l0)) ∨ (0 = 1 ∧ l1 ≤ l0 ∧ l0 ≤ l2)); exact (by omega))⟩
  · refine wp_if (fun g2 => ?_) (fun g2 => ?_)
    · exact ⟨rfl, (by omega), (by show ((0 = 0 ∧ (l0 < l1 ∨ l2 < l0)) ∨ (0 = 1 ∧ l1 ≤ l0 ∧ l0 ≤ l2)); exact (by omega))⟩
    · exact ⟨rfl, (by omega), (by show ((1 = 0 ∧ (l0 < l1 ∨ l2 < l0)) ∨ (1 = 1 ∧ l1 ≤ l0 ∧ l0 ≤ l2)); exact (by omega))⟩
set_option maxHeartbeats 4000000 in
set_option maxRecDepth 100000 in
theorem t_X11_has {μs : Mm} {l0 : Int} {l1 : Int}  (hp_l0 : -2147483648 ≤ l0 ∧ l0 ≤ 2147483647) (hp_l1 : -2147483648 ≤ l1 ∧ l1 ≤ 2147483647) {μ : Mm} (hS : Sm μs μ) : wp (X11_has l0 l1 μ) (fun r μ' => μ' = μ ∧ (0 ≤ r ∧ r ≤ 1) ∧ (r = 0 ∨ bA (bR l0 l1) 1 = 1)) := by
  have hFU := FU_v
  unfold X11_has
  refine wp_if (fun g1 => ?_) (fun g1 => ?_)
  · exact ⟨rfl, (by have := bR_r l0 l1; have := bA_r (bR l0 l1) 1; omega), (by show (1 = 0 ∨ bA (bR l0 l1) 1 = 1); exact (by have := bR_r l0 l1; have := bA_r (bR l0 l1) 1; omega))⟩
  · exact ⟨rfl, (by have := bR_r l0 l1; have := bA_r (bR l0 l1) 1; omega), (by show (0 = 0 ∨ bA (bR l0 l1) 1 = 1); exact (by have := bR_r l0 l1; have := bA_r (bR l0 l1) 1; omega))⟩
set_option maxHeartbeats 4000000 in
set_option maxRecDepth 100000 in
theorem t_X11_isPlace {μs : Mm} {l1 : Int}  (hp_l1 : -2147483648 ≤ l1 ∧ l1 ≤ 2147483647) {μ : Mm} (hS : Sm μs μ) : wp (X11_isPlace l1 μ) (fun r μ' => μ' = μ ∧ (0 ≤ r ∧ r ≤ 1) ∧ (r = 0 ∨ (0 ≤ l1 ∧ l1 ≤ 59))) := by
  have hFU := FU_v
  unfold X11_isPlace
  refine wp_if (fun g1 => ?_) (fun g1 => ?_)
  · exact ⟨rfl, (by omega), (by show (0 = 0 ∨ (0 ≤ l1 ∧ l1 ≤ 59)); exact (by omega))⟩
  · refine wp_if (fun g2 => ?_) (fun g2 => ?_)
    · exact ⟨rfl, (by have := gO_11_23 hS; have := eqS hS (j := 23) (k := 70) (by unfold scrM; omega); have := iD_10 l1 (by omega); omega), (by show (0 = 0 ∨ (0 ≤ l1 ∧ l1 ≤ 59)); exact (by have := gO_11_23 hS; have := eqS hS (j := 23) (k := 70) (by unfold scrM; omega); have := iD_10 l1 (by omega); omega))⟩
    · refine wp_if (fun g3 => ?_) (fun g3 => ?_)
      · exact ⟨rfl, (by have := gO_11_23 hS; have := eqS hS (j := 23) (k := 70) (by unfold scrM; omega); have := gO_11_24 hS; have := eqS hS (j := 24) (k := 70) (by unfold scrM; omega); have := iD_10 l1 (by omega); have := iR_10 l1 (by omega); omega), (by show (0 = 0 ∨ (0 ≤ l1 ∧ l1 ≤ 59)); exact (by have := gO_11_23 hS; have := eqS hS (j := 23) (k := 70) (by unfold scrM; omega); have := gO_11_24 hS; have := eqS hS (j := 24) (k := 70) (by unfold scrM; omega); have := iD_10 l1 (by omega); have := iR_10 l1 (by omega); omega))⟩
      · exact ⟨rfl, (by have := gO_11_23 hS; have := eqS hS (j := 23) (k := 70) (by unfold scrM; omega); have := gO_11_24 hS; have := eqS hS (j := 24) (k := 70) (by unfold scrM; omega); have := iD_10 l1 (by omega); have := iR_10 l1 (by omega); omega), (by show (1 = 0 ∨ (0 ≤ l1 ∧ l1 ≤ 59)); exact (by have := gO_11_23 hS; have := eqS hS (j := 23) (k := 70) (by unfold scrM; omega); have := gO_11_24 hS; have := eqS hS (j := 24) (k := 70) (by unfold scrM; omega); have := iD_10 l1 (by omega); have := iR_10 l1 (by omega); omega))⟩
set_option maxHeartbeats 4000000 in
set_option maxRecDepth 100000 in
theorem t_X11_placeOf_L4 {μs : Mm} {l1 : Int}  (hp_l1 : -2147483648 ≤ l1 ∧ l1 ≤ 2147483647) {μ : Mm} (hS : Sm μs μ) {Q : Int → Mm → Prop} (hQ : ∀ r, (-1 ≤ r ∧ r ≤ 59) → True → Q r μ) : ∀ (n : Nat) {l2 l3 : Int} , (-1 ≤ l2 ∧ l2 ≤ 59) → (0 ≤ l3 ∧ l3 ≤ 60) → True → 60 - l3 + 1 ≤ ((n : Nat) : Int) → wp (X11_placeOf_L4 l1 n l2 l3 μ) Q := by
  have hFU := FU_v
  intro n
  induction n with
  | zero => intro l2 l3 hv_l2 hv_l3 hi hm; exact absurd hm (by  have : ((0 : Nat) : Int) = 0 := rfl; omega)
  | succ n ih =>
    intro l2 l3 hv_l2 hv_l3 hi hm
    have hn1 : ((n + 1 : Nat) : Int) = ((n : Nat) : Int) + 1 := rfl
    rw [X11_placeOf_L4]
    refine wp_if (fun g7 => ?_) (fun g7 => ?_)
    · exact hQ _ (by omega) trivial
    · refine wp_calls (t_X11_isPlace (l1 := l3)  (by omega) hS) (fun v8 hh => ?_)
      obtain ⟨hr9, hp9⟩ := hh
      refine wp_if (fun g11 => ?_) (fun g11 => ?_)
      · exact ih  (by omega) (by have := iA_c l3 1; omega) trivial (by have := iA_c l3 1; omega)
      · refine wp_ldv (by have na0 : ((aN 82 : Nat) : Int) = 60 := rfl; omega) (fun v12 q13 => ?_)
        have hrv12 := gA_11_12 hS (l3).toNat
        replace hrv12 : 0 ≤ v12 ∧ v12 ≤ 10 := by rw [q13]; exact hrv12
        refine wp_if (fun g14 => ?_) (fun g14 => ?_)
        · exact ih  (by omega) (by have := iA_c l3 1; omega) trivial (by have := iA_c l3 1; omega)
        · exact ih  (by omega) (by have := iA_c l3 1; omega) trivial (by have := iA_c l3 1; omega)
set_option maxHeartbeats 4000000 in
set_option maxRecDepth 100000 in
theorem t_X11_placeOf {μs : Mm} {l1 : Int}  (hp_l1 : -2147483648 ≤ l1 ∧ l1 ≤ 2147483647) {μ : Mm} (hS : Sm μs μ) : wp (X11_placeOf l1 μ) (fun r μ' => μ' = μ ∧ (-1 ≤ r ∧ r ≤ 59) ∧ True) := by
  have hFU := FU_v
  unfold X11_placeOf
  exact t_X11_placeOf_L4 (l1 := l1) (l2 := (-1)) (l3 := 0)  (by omega) hS (fun r_ hr_ hp_ => by exact ⟨rfl, (by omega), trivial⟩) FU  (by omega) (by omega) trivial (by omega)
set_option maxHeartbeats 4000000 in
set_option maxRecDepth 100000 in
theorem t_X11_isCrank {μs : Mm} {l1 : Int}  (hp_l1 : -2147483648 ≤ l1 ∧ l1 ≤ 2147483647) {μ : Mm} (hS : Sm μs μ) : wp (X11_isCrank l1 μ) (fun r μ' => μ' = μ ∧ (0 ≤ r ∧ r ≤ 1) ∧ (r = 0 ∨ (0 ≤ l1 ∧ l1 ≤ 7))) := by
  have hFU := FU_v
  unfold X11_isCrank
  refine wp_calls (t_X11_in (l0 := l1) (l1 := 0) (l2 := 7)  (by omega) (by omega) (by omega) hS) (fun v5 hh => ?_)
  obtain ⟨hr6, hp6⟩ := hh
  refine wp_if (fun g9 => ?_) (fun g9 => ?_)
  · exact ⟨rfl, (by omega), (by show (0 = 0 ∨ (0 ≤ l1 ∧ l1 ≤ 7)); exact (by omega))⟩
  · refine wp_calls (t_X11_placeOf (l1 := (iA 3 l1))  (by have := iA_c 3 l1; omega) hS) (fun v10 hh => ?_)
    obtain ⟨hr11, hp11⟩ := hh
    refine wp_if (fun g12 => ?_) (fun g12 => ?_)
    · exact ⟨rfl, (by omega), (by show (0 = 0 ∨ (0 ≤ l1 ∧ l1 ≤ 7)); exact (by omega))⟩
    · exact ⟨rfl, (by omega), (by show (1 = 0 ∨ (0 ≤ l1 ∧ l1 ≤ 7)); exact (by omega))⟩
set_option maxHeartbeats 4000000 in
set_option maxRecDepth 100000 in
theorem t_X11_at {μs : Mm} {l1 : Int}  (hp_l1 : -2147483648 ≤ l1 ∧ l1 ≤ 2147483647) {μ : Mm} (hS : Sm μs μ) : wp (X11_at l1 μ) (fun r μ' => μ' = μ ∧ (-2147483648 ≤ r ∧ r ≤ 2147483647) ∧ True) := by
  have hFU := FU_v
  unfold X11_at
  refine wp_calls (t_X11_isPlace (l1 := l1)  (by omega) hS) (fun v4 hh => ?_)
  obtain ⟨hr5, hp5⟩ := hh
  refine wp_if (fun g7 => ?_) (fun g7 => ?_)
  · exact ⟨rfl, (by omega), trivial⟩
  · refine wp_ldv (by have na0 : ((aN 82 : Nat) : Int) = 60 := rfl; omega) (fun v8 q9 => ?_)
    have hrv8 := gA_11_12 hS (l1).toNat
    replace hrv8 : 0 ≤ v8 ∧ v8 ≤ 10 := by rw [q9]; exact hrv8
    exact ⟨rfl, (by omega), trivial⟩
set_option maxHeartbeats 4000000 in
set_option maxRecDepth 100000 in
theorem t_X11_isOpen {μs : Mm} {l1 : Int}  (hp_l1 : -2147483648 ≤ l1 ∧ l1 ≤ 2147483647) {μ : Mm} (hS : Sm μs μ) : wp (X11_isOpen l1 μ) (fun r μ' => μ' = μ ∧ (0 ≤ r ∧ r ≤ 1) ∧ (r = 0 ∨ (0 ≤ l1 ∧ l1 ≤ 59))) := by
  have hFU := FU_v
  unfold X11_isOpen
  refine wp_calls (t_X11_isPlace (l1 := l1)  (by omega) hS) (fun v4 hh => ?_)
  obtain ⟨hr5, hp5⟩ := hh
  refine wp_if (fun g7 => ?_) (fun g7 => ?_)
  · exact ⟨rfl, (by omega), (by show (0 = 0 ∨ (0 ≤ l1 ∧ l1 ≤ 59)); exact (by omega))⟩
  · refine wp_ldv (by have na0 : ((aN 82 : Nat) : Int) = 60 := rfl; omega) (fun v8 q9 => ?_)
    have hrv8 := gA_11_12 hS (l1).toNat
    replace hrv8 : 0 ≤ v8 ∧ v8 ≤ 10 := by rw [q9]; exact hrv8
    refine wp_if (fun g10 => ?_) (fun g10 => ?_)
    · exact ⟨rfl, (by omega), (by show (0 = 0 ∨ (0 ≤ l1 ∧ l1 ≤ 59)); exact (by omega))⟩
    · exact ⟨rfl, (by omega), (by show (1 = 0 ∨ (0 ≤ l1 ∧ l1 ≤ 59)); exact (by omega))⟩
set_option maxHeartbeats 4000000 in
set_option maxRecDepth 100000 in
theorem t_X11_isPlay {μs : Mm} {l1 : Int}  (hp_l1 : -2147483648 ≤ l1 ∧ l1 ≤ 2147483647) {μ : Mm} (hS : Sm μs μ) : wp (X11_isPlay l1 μ) (fun r μ' => μ' = μ ∧ (0 ≤ r ∧ r ≤ 1) ∧ (r = 0 ∨ (0 ≤ l1 ∧ l1 ≤ 4 ∧ l1 < μs 70 28))) := by
  have hFU := FU_v
  unfold X11_isPlay
  refine wp_calls (t_X11_in (l0 := l1) (l1 := 0) (l2 := (iS (μ 70 28) 1))  (by omega) (by omega) (by have := gO_11_28 hS; have := eqS hS (j := 28) (k := 70) (by unfold scrM; omega); have := iS_c (μ 70 28) 1; omega) hS) (fun v3 hh => ?_)
  obtain ⟨hr4, hp4⟩ := hh
  refine wp_rZv (by have := gO_11_28 hS; have := eqS hS (j := 28) (k := 70) (by unfold scrM; omega); have := iS_c (μ 70 28) 1; omega) ?_
  exact ⟨rfl, (by have := gO_11_28 hS; have := eqS hS (j := 28) (k := 70) (by unfold scrM; omega); have := iS_c (μ 70 28) 1; omega), (by show (v3 = 0 ∨ (0 ≤ l1 ∧ l1 ≤ 4 ∧ l1 < μs 70 28)); exact (by have := gO_11_28 hS; have := eqS hS (j := 28) (k := 70) (by unfold scrM; omega); have := iS_c (μ 70 28) 1; omega))⟩
/-! SPREAD: it comes to an end -/
theorem filt_lt {p q : Nat → Bool} : ∀ (l : List Nat), (∀ x, x ∈ l → p x = true → q x = true) → (∃ x, x ∈ l ∧ q x = true ∧ p x = false) → (l.filter p).length < (l.filter q).length := by
  intro l
  have mono : ∀ (l : List Nat), (∀ x, x ∈ l → p x = true → q x = true) → (l.filter p).length ≤ (l.filter q).length := by
    intro l
    induction l with
    | nil => intro _; exact Nat.le_refl _
    | cons a l ih =>
      intro h
      have h1 := ih (fun x hx => h x (List.mem_cons_of_mem _ hx))
      rw [List.filter_cons, List.filter_cons]
      by_cases ha : p a = true
      · rw [if_pos ha, if_pos (h a List.mem_cons_self ha), List.length_cons, List.length_cons]; omega
      · rw [if_neg ha]
        by_cases hb : q a = true
        · rw [if_pos hb, List.length_cons]; omega
        · rw [if_neg hb]; exact h1
  induction l with
  | nil => intro _ ⟨x, hx, _⟩; exact absurd hx List.not_mem_nil
  | cons a l ih =>
    intro h hx
    rw [List.filter_cons, List.filter_cons]
    have hm := mono l (fun x hx => h x (List.mem_cons_of_mem _ hx))
    by_cases ha : p a = true
    · rw [if_pos ha, if_pos (h a List.mem_cons_self ha), List.length_cons, List.length_cons]
      obtain ⟨x, hx1, hx2, hx3⟩ := hx
      rcases List.mem_cons.mp hx1 with rfl | hx1
      · rw [ha] at hx3; cases hx3
      · have := ih (fun x hx => h x (List.mem_cons_of_mem _ hx)) ⟨x, hx1, hx2, hx3⟩
        omega
    · rw [if_neg ha]
      by_cases hb : q a = true
      · rw [if_pos hb, List.length_cons]; omega
      · rw [if_neg hb]
        obtain ⟨x, hx1, hx2, hx3⟩ := hx
        rcases List.mem_cons.mp hx1 with rfl | hx1
        · exact absurd hx2 hb
        · exact ih (fun x hx => h x (List.mem_cons_of_mem _ hx)) ⟨x, hx1, hx2, hx3⟩
/-- how many places aren't come to yet -/
def unr (μ : Mm) : Nat := ((List.range 60).filter (fun j => decide (μ 87 j = -1))).length
/-- from ν to μ some places that weren't come to are so by n + 1 steps -/
def spr (n : Int) (ν μ : Mm) : Prop := (∀ k, k ≠ 87 → μ k = ν k) ∧ ∀ j, μ 87 j = ν 87 j ∨ (j < 60 ∧ ν 87 j = -1 ∧ μ 87 j = n + 1)
theorem unr_lt {n : Int} {ν μ : Mm} (hn : 0 ≤ n) (h : spr n ν μ) (hc : ∃ j, μ 87 j ≠ ν 87 j) : unr μ < unr ν := by
  refine filt_lt _ (fun x _ hx => ?_) ?_
  · have hx := of_decide_eq_true hx
    refine decide_eq_true ?_
    rcases h.2 x with h1 | h1
    · rw [← h1]; exact hx
    · exact h1.2.1
  · obtain ⟨j, hj⟩ := hc
    rcases h.2 j with h1 | h1
    · exact absurd h1 hj
    · refine ⟨j, List.mem_range.mpr h1.1, decide_eq_true h1.2.1, decide_eq_false ?_⟩
      rw [h1.2.2]; omega
theorem unr_le (μ : Mm) : unr μ ≤ 60 := by
  have := List.length_filter_le (fun j => decide (μ 87 j = -1)) (List.range 60)
  rw [List.length_range] at this
  exact this
theorem spr_rf {n : Int} {ν : Mm} : spr n ν ν := ⟨fun _ _ => rfl, fun _ => Or.inl rfl⟩
theorem r_isPlace (a : Int) (μ : Mm) : ∃ r, X11_isPlace a μ = some (r, μ) ∧ (r = 0 ∨ (r = 1 ∧ 0 ≤ a)) := by
  unfold X11_isPlace
  by_cases h1 : a < 0
  · rw [if_pos h1]; exact ⟨0, rfl, Or.inl rfl⟩
  · rw [if_neg h1]
    by_cases h2 : μ 70 23 ≤ iD a 10
    · rw [if_pos h2]; exact ⟨0, rfl, Or.inl rfl⟩
    · rw [if_neg h2]
      by_cases h3 : μ 70 24 ≤ iR a 10
      · rw [if_pos h3]; exact ⟨0, rfl, Or.inl rfl⟩
      · rw [if_neg h3]; exact ⟨1, rfl, Or.inr ⟨rfl, by omega⟩⟩
theorem s_reach {ν μ : Mm} {n a : Int} (hn : 0 ≤ n ∧ n ≤ 1000) (hB : Bm ν) (h : spr n ν μ) (ha : rI a) : ∃ r μ', X11_reach a (iA n 1) μ = some (r, μ') ∧ spr n ν μ' := by
  have e1 : iA n 1 = n + 1 := iA_id (by omega) (by omega)
  have e70 : μ 70 = ν 70 := h.1 70 (by decide)
  rw [e1]
  unfold X11_reach
  obtain ⟨r, hr, hr2⟩ := r_isPlace a μ
  have hlt : r = 1 → a < 60 := by
    intro h1
    unfold X11_isPlace at hr
    by_cases g1 : a < 0
    · omega
    · rw [if_neg g1] at hr
      by_cases g2 : μ 70 23 ≤ iD a 10
      · rw [if_pos g2] at hr; cases hr; omega
      · rw [e70] at g2
        have g3 := (hB 70 23 (by decide))
        have g4 : (0 : Int) ≤ ν 70 23 ∧ ν 70 23 ≤ 6 := g3
        rw [iD_id (by omega) ha.2 (by decide)] at g2
        omega
  rw [hr, bd_some]
  rcases hr2 with h0 | ⟨h1, h2⟩
  · rw [if_pos h0]; exact ⟨_, _, rfl, h⟩
  · have h60 := hlt h1
    rw [if_neg (by omega)]
    unfold ldA
    rw [if_pos (by show 0 ≤ a ∧ a < 60; omega)]
    dsimp only
    by_cases c1 : μ 82 a.toNat = 1
    · rw [if_pos c1]; exact ⟨_, _, rfl, h⟩
    · rw [if_neg c1, if_pos (by show 0 ≤ a ∧ a < 60; omega)]
      by_cases c2 : μ 87 a.toNat = -1
      · rw [if_pos c2]
        unfold stA
        rw [if_pos (by show 0 ≤ a ∧ a < 60; omega)]
        refine ⟨_, _, rfl, fun k hk => ?_, fun j => ?_⟩
        · rw [← h.1 k hk]; funext i; exact sM_a hk
        · rw [sM_if]
          by_cases hj : j = a.toNat
          · rw [if_pos hj]
            refine Or.inr ⟨by omega, ?_, rfl⟩
            rcases h.2 j with h3 | h3
            · rw [← h3, hj]; exact c2
            · exact h3.2.1
          · rw [if_neg hj]; exact h.2 j
      · rw [if_neg c2]; exact ⟨_, _, rfl, h⟩
theorem s_L43 {ν : Mm} {l3 : Int} (hn : 0 ≤ l3 ∧ l3 ≤ 1000) (hB : Bm ν) {K : Int → Mm → Rs} {Q : Int → Mm → Prop} (hK : ∀ l2 μ, spr l3 ν μ → ((l2 = 0 ∧ μ = ν) ∨ (l2 = 1 ∧ ∃ j, j < 60 ∧ ν 87 j = l3)) → wp (K l2 μ) Q) : ∀ (d : Nat) (n : Nat) (l2 : Int) (μ : Mm), d ≤ 60 → d < n → spr l3 ν μ → ((l2 = 0 ∧ μ = ν) ∨ (l2 = 1 ∧ ∃ j, j < 60 ∧ ν 87 j = l3)) → wp (X11_spread_L43 l3 K n l2 (60 - (d : Int)) μ) Q := by
  intro d
  induction d with
  | zero =>
    intro n l2 μ _ hn2 h1 h2
    obtain ⟨m, rfl, -⟩ := lt_fuel hn2
    show wp (if 60 ≤ (60 - ((0 : Nat) : Int)) then _ else _) Q
    rw [if_pos (by omega)]
    exact hK l2 μ h1 h2
  | succ d ih =>
    intro n l2 μ hd hn2 h1 h2
    obtain ⟨m, rfl, hm⟩ := lt_fuel hn2
    have ea : iA (60 - ((d + 1 : Nat) : Int)) 1 = 60 - (d : Int) := by rw [iA_id (by omega) (by omega)]; omega
    show wp (if 60 ≤ (60 - ((d + 1 : Nat) : Int)) then _ else _) Q
    rw [if_neg (by omega)]
    unfold ldA
    rw [if_pos (by show 0 ≤ (60 - ((d + 1 : Nat) : Int)) ∧ (60 - ((d + 1 : Nat) : Int)) < 60; omega)]
    dsimp only
    by_cases c : μ 87 (60 - ((d + 1 : Nat) : Int)).toNat = l3
    · rw [if_pos c]
      have hex : ∃ j, j < 60 ∧ ν 87 j = l3 := by
        refine ⟨(60 - ((d + 1 : Nat) : Int)).toNat, by omega, ?_⟩
        rcases h1.2 (60 - ((d + 1 : Nat) : Int)).toNat with h3 | h3
        · rw [← h3]; exact c
        · rw [h3.2.2] at c; omega
      have rIx : ∀ x : Int, -2147483648 ≤ x → x ≤ 2147483647 → rI x := fun x h h' => ⟨h, h'⟩
      obtain ⟨r1, μ1, q1, s1⟩ := s_reach hn hB h1 (a := iS (60 - ((d + 1 : Nat) : Int)) 10) (wI_r _)
      obtain ⟨r2, μ2, q2, s2⟩ := s_reach hn hB s1 (a := iA (60 - ((d + 1 : Nat) : Int)) 10) (wI_r _)
      rw [q1, bd_some, q2, bd_some]
      have fin : ∀ s, rI s → wp (X11_spread_J104 (fun w2 w4 μq => X11_spread_L43 l3 K m w2 w4 μq) 1 l3 (60 - ((d + 1 : Nat) : Int)) s μ2) Q := by
        intro s hs
        unfold X11_spread_J104
        obtain ⟨r3, μ3, q3, s3⟩ := s_reach hn hB s2 (a := s) hs
        rw [q3, bd_some]
        refine wp_if (fun _ => ?_) (fun _ => ?_)
        · obtain ⟨r4, μ4, q4, s4⟩ := s_reach hn hB s3 (a := -1) ⟨by decide, by decide⟩
          rw [q4, bd_some, ea]
          exact ih m 1 μ4 (by omega) (by omega) s4 (Or.inr ⟨rfl, hex⟩)
        · obtain ⟨r4, μ4, q4, s4⟩ := s_reach hn hB s3 (a := iA (60 - ((d + 1 : Nat) : Int)) 1) (wI_r _)
          rw [q4, bd_some, ea]
          exact ih m 1 μ4 (by omega) (by omega) s4 (Or.inr ⟨rfl, hex⟩)
      refine wp_if (fun _ => ?_) (fun _ => ?_)
      · exact fin _ ⟨by decide, by decide⟩
      · exact fin _ (wI_r _)
    · rw [if_neg c, ea]
      exact ih m l2 μ (by omega) (by omega) h1 h2
/-- the rounds of SPREAD, by how many places aren't come to -/
theorem s_L34 {μ0' : Mm} : ∀ (φ : Nat) (n : Nat) (l3 : Int) (μ : Mm), unr μ ≤ φ → φ + 3 ≤ n → 0 ≤ l3 → l3 + φ ≤ 900 → Bm μ → (∀ k, k ≠ 87 → μ k = μ0' k) → (∀ j, j < 60 → μ 87 j ≤ l3) → (∀ j, rI (μ 87 j)) → wp (X11_spread_L34 n 1 l3 μ) (fun _ μ' => (∀ k, k ≠ 87 → μ' k = μ0' k) ∧ ∀ j, rI (μ' 87 j)) := by
  intro φ
  induction φ with
  | zero =>
    intro n l3 μ h1 h2 h3 h4 hB hk hj hr
    obtain ⟨m, rfl, hm⟩ := lt_fuel (d := 2) h2
    show wp (if (1 : Int) = 0 then _ else X11_spread_L43 l3 (fun v30 μ31 => X11_spread_L34 m v30 (iA l3 1) μ31) FU 0 0 μ) _
    rw [if_neg (by decide)]
    refine s_L43 (ν := μ) ⟨h3, by omega⟩ hB (fun l2 μ' hs hc => ?_) 60 FU 0 μ (by omega) (by decide) spr_rf (Or.inl ⟨rfl, rfl⟩)
    have hsame : ∀ j, μ' 87 j = μ 87 j := by
      intro j
      by_cases hx : μ' 87 j = μ 87 j
      · exact hx
      · have := unr_lt h3 hs ⟨j, hx⟩
        omega
    have hμ : μ' = μ := by
      funext k i
      by_cases hkk : k = 87
      · rw [hkk]; exact hsame i
      · rw [hs.1 k hkk]
    obtain ⟨m1, rfl, hm1⟩ := lt_fuel (d := 1) (n := m) (by omega)
    rcases hc with ⟨rfl, -⟩ | ⟨rfl, -⟩
    · show wp (if (0 : Int) = 0 then _ else _) _
      rw [if_pos rfl, hμ]
      exact ⟨hk, hr⟩
    · show wp (if (1 : Int) = 0 then _ else X11_spread_L43 (iA l3 1) (fun v30 μ31 => X11_spread_L34 m1 v30 (iA (iA l3 1) 1) μ31) FU 0 0 μ') _
      have e1 : iA l3 1 = l3 + 1 := iA_id (by omega) (by omega)
      rw [if_neg (by decide), e1, hμ]
      refine s_L43 (ν := μ) ⟨by omega, by omega⟩ hB (fun l2 μ2 hs2 hc2 => ?_) 60 FU 0 μ (by omega) (by decide) spr_rf (Or.inl ⟨rfl, rfl⟩)
      obtain ⟨m2, rfl, hm2⟩ := lt_fuel (d := 0) (n := m1) (by omega)
      rcases hc2 with ⟨rfl, h5⟩ | ⟨-, j, hj1, hj2⟩
      · show wp (if (0 : Int) = 0 then _ else _) _
        rw [if_pos rfl, h5]
        exact ⟨hk, hr⟩
      · have := hj j hj1
        omega
  | succ φ ih =>
    intro n l3 μ h1 h2 h3 h4 hB hk hj hr
    obtain ⟨m, rfl, hm⟩ := lt_fuel (d := φ + 3) h2
    show wp (if (1 : Int) = 0 then _ else X11_spread_L43 l3 (fun v30 μ31 => X11_spread_L34 m v30 (iA l3 1) μ31) FU 0 0 μ) _
    rw [if_neg (by decide)]
    have e1 : iA l3 1 = l3 + 1 := iA_id (by omega) (by omega)
    refine s_L43 (ν := μ) ⟨h3, by omega⟩ hB (fun l2 μ' hs hc => ?_) 60 FU 0 μ (by omega) (by decide) spr_rf (Or.inl ⟨rfl, rfl⟩)
    have hk' : ∀ k, k ≠ 87 → μ' k = μ0' k := fun k hkk => (hs.1 k hkk).trans (hk k hkk)
    have hr' : ∀ j, rI (μ' 87 j) := by
      intro j
      rcases hs.2 j with h5 | h5
      · rw [h5]; exact hr j
      · rw [h5.2.2]; exact ⟨by omega, by omega⟩
    have hB' : Bm μ' := by
      intro k j hk70
      by_cases hkk : k = 87
      · rw [hkk]; exact hr' j
      · rw [hs.1 k hkk]; exact hB k j hk70
    obtain ⟨m1, rfl, hm1⟩ := lt_fuel (d := 2) (n := m) (by omega)
    rcases hc with ⟨rfl, h5⟩ | ⟨rfl, -⟩
    · show wp (if (0 : Int) = 0 then _ else _) _
      rw [if_pos rfl]
      exact ⟨hk', hr'⟩
    · by_cases hx : ∃ j, μ' 87 j ≠ μ 87 j
      · have hlt := unr_lt h3 hs hx
        rw [e1]
        refine ih (m1 + 1) (l3 + 1) μ' (by omega) (by omega) (by omega) (by omega) hB' hk' (fun j hj1 => ?_) hr'
        rcases hs.2 j with h5 | h5
        · rw [h5]; have := hj j hj1; omega
        · rw [h5.2.2]; exact Int.le_refl _
      · have hμ : μ' = μ := by
          funext k i
          by_cases hkk : k = 87
          · rw [hkk]
            by_cases hy : μ' 87 i = μ 87 i
            · exact hy
            · exact absurd ⟨i, hy⟩ hx
          · rw [hs.1 k hkk]
        show wp (if (1 : Int) = 0 then _ else X11_spread_L43 (iA l3 1) (fun v30 μ31 => X11_spread_L34 m1 v30 (iA (iA l3 1) 1) μ31) FU 0 0 μ') _
        rw [if_neg (by decide), e1, hμ]
        refine s_L43 (ν := μ) ⟨by omega, by omega⟩ hB (fun l2 μ2 hs2 hc2 => ?_) 60 FU 0 μ (by omega) (by decide) spr_rf (Or.inl ⟨rfl, rfl⟩)
        obtain ⟨m2, rfl, hm2⟩ := lt_fuel (d := 0) (n := m1) (by omega)
        rcases hc2 with ⟨rfl, h5⟩ | ⟨-, j, hj1, hj2⟩
        · show wp (if (0 : Int) = 0 then _ else _) _
          rw [if_pos rfl, h5]
          exact ⟨hk, hr⟩
        · have := hj j hj1
          omega
theorem s_L2 (a : Int) {μ0' : Mm} {K : Mm → Rs} {Q : Int → Mm → Prop} (hK : ∀ μ, (∀ k, k ≠ 87 → μ k = μ0' k) → (∀ j, j < 60 → μ 87 j = -1 ∨ μ 87 j = 0) → (∀ j, rI (μ 87 j)) → wp (K μ) Q) : ∀ (d : Nat) (n : Nat) (μ : Mm), d ≤ 60 → d < n → (∀ k, k ≠ 87 → μ k = μ0' k) → (∀ j, j + d < 60 → μ 87 j = -1 ∨ μ 87 j = 0) → (∀ j, rI (μ 87 j)) → wp (X11_spread_L2 a K n (60 - (d : Int)) μ) Q := by
  intro d
  induction d with
  | zero =>
    intro n μ _ hn h1 h2 h3
    obtain ⟨m, rfl, -⟩ := lt_fuel hn
    show wp (if 60 ≤ (60 - ((0 : Nat) : Int)) then _ else _) Q
    rw [if_pos (by omega)]
    exact hK μ h1 (fun j hj => h2 j (by omega)) h3
  | succ d ih =>
    intro n μ hd hn h1 h2 h3
    obtain ⟨m, rfl, hm⟩ := lt_fuel hn
    have ea : iA (60 - ((d + 1 : Nat) : Int)) 1 = 60 - (d : Int) := by rw [iA_id (by omega) (by omega)]; omega
    show wp (if 60 ≤ (60 - ((d + 1 : Nat) : Int)) then _ else _) Q
    rw [if_neg (by omega)]
    have go : ∀ v : Int, v = -1 ∨ v = 0 → wp (stA μ 87 (60 - ((d + 1 : Nat) : Int)) v fun μ3 => X11_spread_L2 a K m (iA (60 - ((d + 1 : Nat) : Int)) 1) μ3) Q := by
      intro v hv
      unfold stA
      rw [if_pos (by show 0 ≤ (60 - ((d + 1 : Nat) : Int)) ∧ (60 - ((d + 1 : Nat) : Int)) < 60; omega), ea]
      refine ih m _ (by omega) (by omega) (fun k hk => ?_) (fun j hj => ?_) (fun j => ?_)
      · rw [← h1 k hk]; funext i; exact sM_a hk
      · rw [sM_if]
        by_cases c : j = (60 - ((d + 1 : Nat) : Int)).toNat
        · rw [if_pos c]; exact hv
        · rw [if_neg c]; exact h2 j (by omega)
      · rw [sM_if]
        by_cases c : j = (60 - ((d + 1 : Nat) : Int)).toNat
        · rw [if_pos c]; rcases hv with rfl | rfl <;> exact ⟨by decide, by decide⟩
        · rw [if_neg c]; exact h3 j
    refine wp_if (fun _ => ?_) (fun _ => ?_)
    · exact go 0 (Or.inr rfl)
    · exact go (-1) (Or.inl rfl)
theorem w_spread (a : Int) {μ : Mm} (hB : Bm μ) : wp (X11_spread a μ) (fun _ μ' => (∀ k, k ≠ 87 → μ' k = μ k) ∧ ∀ j, rI (μ' 87 j)) := by
  unfold X11_spread
  refine s_L2 a (μ0' := μ) (fun ν h1 h2 h3 => ?_) 60 FU μ (by omega) (by decide) (fun _ _ => rfl) (fun j hj => by omega) (fun j => hB 87 j (by decide))
  have hB' : Bm ν := by
    intro k j hk70
    by_cases hkk : k = 87
    · rw [hkk]; exact h3 j
    · rw [h1 k hkk]; exact hB k j hk70
  exact s_L34 (unr ν) FU 0 ν (Nat.le_refl _) (by have := unr_le ν; show unr ν + 3 ≤ 1000000; omega) (by decide) (by have := unr_le ν; omega) hB' h1 (fun j hj => by rcases h2 j hj with h | h <;> omega) h3
theorem t_X11_spread {μs : Mm} {l1 : Int} (_hI : Ir μs) (_hp : -2147483648 ≤ l1 ∧ l1 ≤ 2147483647) {μ : Mm} (hS : Sm μs μ) : wp (X11_spread l1 μ) (fun r μ' => Sm μs μ' ∧ True ∧ μ' 70 37 = μ 70 37) := by
  refine wp_mono (w_spread l1 hS.1) (fun r μ' h => ⟨⟨fun k j hk => ?_, fun k j hn => ?_⟩, trivial, by rw [h.1 70 (by decide)]⟩)
  · by_cases hkk : k = 87
    · rw [hkk]; exact h.2 j
    · rw [h.1 k hkk]; exact hS.1 k j hk
  · have hkk : k ≠ 87 := fun e => hn (by unfold scrM; omega)
    rw [h.1 k hkk]; exact hS.2 k j hn
